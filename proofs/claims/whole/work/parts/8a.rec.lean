/-! records -/
theorem f_take {o z : Nat} (ho : o < 6) (hz : z < 6) (ring : Nat → UInt64) : p_Re_take (nI o) (nI (z + 1)) ring ∧ s_Re_take (nI o) (nI (z + 1)) ring = (ring o, nI ((o + 1) % 6), nI z) := by
  refine e_Re_take (nI o) (nI (z + 1)) ring (Q := fun a b => (a, b) = (ring o, nI ((o + 1) % 6), nI z)) ⟨pk_in o 6 ho, ?_⟩
  have e : nI (o + 1) - nI (o + 1) / 6 * 6 = nI ((o + 1) % 6) := pk_rem (a := o + 1) (d := 6) (by omega) (by omega) (by omega)
  rw [nI_clamp (by omega), nI_1, nI_pred, e]
theorem mp_loop {v : UInt64} {mr mlo : Int32} {Q : (Int32 × Int32 × (Nat → UInt64)) → Prop} : ∀ (d i n : Nat) (q q0 : Nat → UInt64), i + d = 5 → (∀ j, j < i → q j = q0 (j + 1)) → (∀ j, i ≤ j → q j = q0 j) →
    (∀ q' : Nat → UInt64, (∀ j, j < 5 → q' j = q0 (j + 1)) → q' 5 = v → Q (nI 6, mlo + 1, q')) → WP_Mo_put_L11 (n + d + 1) v (nI i) mr mlo q Q
  | 0, i, n, q, q0, e, h1, h2, K => by
    have e : i = 5 := e
    subst e
    refine pk_le 5 5 (fun _ => K _ (fun j hj => ?_) (if_pos rfl)) (fun q => absurd q (by omega))
    simp only [vf_upd]
    rw [if_neg (by omega)]
    exact h1 j hj
  | d + 1, i, n, q, q0, e, h1, h2, K => by
    refine pk_le 5 i (fun q => absurd q (by omega)) (fun _ => ?_)
    rw [nI_1, nI_clamp (by omega), nI_clamp (by omega)]
    refine ⟨pk_in (i + 1) 6 (by omega), pk_in i 6 (by omega), ?_⟩
    refine mp_loop d (i + 1) n _ q0 (by omega) (fun j hj => ?_) (fun j hj => ?_) K
    · simp only [vf_upd]
      by_cases c : j = i
      · rw [if_pos c, c]; exact h2 (i + 1) (by omega)
      · rw [if_neg c]; exact h1 j (by omega)
    · simp only [vf_upd]
      rw [if_neg (by omega)]; exact h2 j (by omega)
theorem q_put {old qs lo mr mlo : Int32} {ring mq : Nat → UInt64} (h : rQ old qs ring mr mq) (v : UInt64) :
    (p_Re_put old qs lo ring v ∧ p_Mo_put mr mlo mq v) ∧ ∃ (old' qs' lo' : Int32) (ring' : Nat → UInt64) (mr' mlo' : Int32) (mq' : Nat → UInt64), s_Re_put old qs lo ring v = (old', qs', lo', ring') ∧ s_Mo_put mr mlo mq v = (mr', mlo', mq') ∧ rQ old' qs' ring' mr' mq' ∧ (lo = mlo → lo' = mlo') := by
  obtain ⟨o, z, ho, hz, rfl, rfl, rfl, hr⟩ := h
  have e : ∀ a : Nat, a < 100 → nI a - nI a / 6 * 6 = nI (a % 6) := fun a ha => pk_rem (a := a) (d := 6) (by omega) (by omega) (by omega)
  by_cases hz6 : z = 6
  · subst hz6
    have A := e_Re_put (nI o) (nI 6) lo ring v (Q := fun x => x = (nI ((o + 1) % 6), nI 6, lo + 1, vf_upd ring (((o + 1) % 6 + 5) % 6) v)) (by
      refine pk_lt 6 6 (fun q => absurd q (by omega)) (fun _ => ?_)
      have t := f_take (o := o) (z := 5) ho (by omega) ring
      refine ⟨t.1, fun r m7 m8 q => ?_⟩
      rw [t.2] at q
      cases q
      rw [nI_add, e _ (by omega), nI_clamp (by omega), nI_1]
      exact ⟨pk_in (((o + 1) % 6 + 5) % 6) 6 (by omega), rfl⟩)
    have M := e_Mo_put (nI 6) mlo mq v (Q := fun x => x.1 = nI 6 ∧ x.2.1 = mlo + 1 ∧ (∀ j, j < 5 → x.2.2 j = mq (j + 1)) ∧ x.2.2 5 = v) (by
      refine ⟨fun q => absurd rfl q, fun _ => ?_⟩
      exact mp_loop 5 0 594 mq mq rfl (fun j hj => absurd hj (by omega)) (fun _ _ => rfl) (fun q' h1 h2 => ⟨rfl, rfl, h1, h2⟩))
    obtain ⟨M1, M2, M3, M4, M5⟩ := M
    have M6 : s_Mo_put (nI 6) mlo mq v = (nI 6, mlo + 1, (s_Mo_put (nI 6) mlo mq v).2.2) := by
      generalize s_Mo_put (nI 6) mlo mq v = x at M2 M3
      obtain ⟨a, b, c⟩ := x
      simp only at M2 M3
      rw [M2, M3]
    refine ⟨⟨A.1, M1⟩, _, _, _, _, _, _, _, A.2, M6, ⟨(o + 1) % 6, 6, by omega, by omega, rfl, rfl, rfl, fun i hi => ?_⟩, fun q => by rw [q]⟩
    simp only [vf_upd]
    by_cases c : i = 5
    · rw [c, if_pos rfl, M5]
    · rw [if_neg (by omega), M4 i (by omega), ← hr (i + 1) (by omega)]
      congr 1; omega
  · have A := e_Re_put (nI o) (nI z) lo ring v (Q := fun x => x = (nI o, nI (z + 1), lo, vf_upd ring ((o + z) % 6) v)) (by
      refine pk_lt z 6 (fun _ => ?_) (fun q => absurd q (by omega))
      rw [nI_add, e _ (by omega), nI_clamp (by omega), nI_1]
      exact ⟨pk_in ((o + z) % 6) 6 (by omega), rfl⟩)
    have M := e_Mo_put (nI z) mlo mq v (Q := fun x => x = (nI (z + 1), mlo, vf_upd mq z v)) (by
      refine ⟨fun _ => ?_, fun q => absurd ((nI_eq (a := z) (b := 6) (by omega) (by omega)).mp q) hz6⟩
      rw [nI_clamp (by omega), nI_1]
      exact ⟨pk_in z 6 (by omega), rfl⟩)
    refine ⟨⟨A.1, M.1⟩, _, _, _, _, _, _, _, A.2, M.2, ⟨o, z + 1, ho, by omega, rfl, rfl, rfl, fun i hi => ?_⟩, fun q => q⟩
    simp only [vf_upd]
    by_cases c : i = z
    · rw [c, if_pos rfl, if_pos rfl]
    · rw [if_neg (by omega), if_neg c]
      exact hr i (by omega)
theorem mr_loop {v : UInt64} {th : Int32} {w : Nat} (hw : w < 6) {Q : UInt64 → (Int32 × Int32 × (Nat → UInt64)) → Prop} : ∀ (d i n : Nat) (q q0 : Nat → UInt64), i + d = w → (∀ j, j < i → q j = q0 (j + 1)) → (∀ j, i ≤ j → q j = q0 j) →
    (∀ q' : Nat → UInt64, (∀ j, j < w → q' j = q0 (j + 1)) → Q v (nI w, th, q')) → WP_Mo_record_L44 (n + d + 1) v (nI i) (nI w) th q Q
  | 0, i, n, q, q0, e, h1, h2, K => by
    have e : i = w := e
    subst e
    exact pk_le i i (fun _ => K _ h1) (fun q => absurd q (by omega))
  | d + 1, i, n, q, q0, e, h1, h2, K => by
    refine pk_le w i (fun q => absurd q (by omega)) (fun _ => ?_)
    rw [nI_1, nI_clamp (by omega), nI_clamp (by omega)]
    refine ⟨pk_in (i + 1) 6 (by omega), pk_in i 6 (by omega), ?_⟩
    refine mr_loop hw d (i + 1) n _ q0 (by omega) (fun j hj => ?_) (fun j hj => ?_) K
    · simp only [vf_upd]
      by_cases c : j = i
      · rw [if_pos c, c]; exact h2 (i + 1) (by omega)
      · rw [if_neg c]; exact h1 j (by omega)
    · simp only [vf_upd]
      rw [if_neg (by omega)]; exact h2 j (by omega)
theorem q_rec {old qs mr mt : Int32} {ring mq : Nat → UInt64} (h : rQ old qs ring mr mq) (o : Nat → UInt64) :
    p_Tr_record old qs ring ∧ p_Mo_record mr mt mq ∧ ∀ (k : Int32) (u0 : Int32) (u1 : Int32) (o' : Nat → UInt64) (b : UInt64) (v0 : Int32) (v1 : Int32) (v2 : Nat → UInt64), s_La_record old qs ring o = (k, (u0, u1), o') → s_Mo_record mr mt mq = (b, v0, v1, v2) → s_Mo_thrown v1 = k ∧ (k = 0 → zDeq (o' 0) b) ∧ rQ u0 u1 ring v0 v2 := by
  obtain ⟨p, z, hp, hz, rfl, rfl, rfl, hr⟩ := h
  match z, hz, hr with
  | 0, hz, hr =>
    have A := e_Tr_record (nI p) (nI 0) ring (Q := fun _ _ => False) (X := fun e m => m = (nI p, nI 0)) ⟨fun q => absurd rfl q, fun _ => rfl⟩
    have M := e_Mo_record (nI 0) mt mq (Q := fun a b => b = (nI 0, 1, mq)) ⟨fun q => absurd rfl q, fun _ => rfl⟩
    refine ⟨A.1, M.1, fun k u0 u1 o' b v0 v1 v2 h1 h2 => ?_⟩
    have A2 := A.2
    unfold s_La_record at h1
    have M2 := M.2
    rw [h2] at M2
    cases M2
    cases hs : s_Tr_record (nI p) (nI 0) ring with
    | inl x => rw [hs] at A2; exact absurd A2 (by simp)
    | inr x =>
      rw [hs] at h1 A2
      obtain ⟨E, m⟩ := x
      simp only [Sum.elim_inr] at A2
      subst A2
      cases h1
      exact ⟨rfl, fun q => absurd q (by decide), p, 0, hp, by omega, rfl, rfl, rfl, fun i hi => absurd hi (by omega)⟩
  | z + 1, hz, hr =>
    have t := f_take hp (by omega : z < 6) ring
    have A := e_Tr_record (nI p) (nI (z + 1)) ring (Q := fun a m => (a, m) = (ring p, nI ((p + 1) % 6), nI z)) (X := fun e m => False) (by
      refine ⟨fun _ => ⟨t.1, fun r m6 m7 q => by rw [t.2] at q; cases q; rfl⟩, fun q => absurd q (nI_ne0 (by omega) (by omega))⟩)
    have M := e_Mo_record (nI (z + 1)) mt mq (Q := fun a b => a = mq 0 ∧ b.1 = nI z ∧ b.2.1 = 0 ∧ ∀ j, j < z → b.2.2 j = mq (j + 1)) (by
      refine ⟨fun _ => ?_, fun q => absurd q (nI_ne0 (by omega) (by omega))⟩
      rw [nI_pred]
      have := mr_loop (v := mq 0) (th := 0) (by omega : z < 6) (Q := fun a b => a = mq 0 ∧ b.1 = nI z ∧ b.2.1 = 0 ∧ ∀ j, j < z → b.2.2 j = mq (j + 1)) z 0 (599 - z) mq mq (by omega) (fun j hj => absurd hj (by omega)) (fun _ _ => rfl) (fun q' h1 => ⟨rfl, rfl, rfl, h1⟩)
      rw [show 599 - z + z + 1 = 600 by omega] at this
      exact this)
    refine ⟨A.1, M.1, fun k u0 u1 o' b v0 v1 v2 h1 h2 => ?_⟩
    have A2 := A.2
    unfold s_La_record at h1
    obtain ⟨M1, M2, M3, M4⟩ := M.2
    rw [h2] at M1 M2 M3 M4
    simp only at M1 M2 M3 M4
    cases hs : s_Tr_record (nI p) (nI (z + 1)) ring with
    | inr x => rw [hs] at A2; exact absurd A2 (by simp)
    | inl x =>
      rw [hs] at h1 A2
      obtain ⟨r, m⟩ := x
      simp only [Sum.elim_inl] at A2
      cases A2
      cases h1
      refine ⟨M3, fun _ => ?_, (p + 1) % 6, z, by omega, by omega, rfl, rfl, M2, fun i hi => ?_⟩
      · rw [M1, ← hr 0 (by omega)]
        simp only [vf_upd, if_true, Nat.add_zero, Nat.mod_eq_of_lt hp]
        exact zDeq.rf _
      · rw [M4 i hi, ← hr (i + 1) (by omega)]
        congr 1; omega
