/-! a rule, read by neither; by the class; the body, by the reference -/
def gRl (nx : Nat → Nat) (n : Nat) : Bool × Nat × Nat × Int32 × Option (List zTok) × List zAct :=
  if nx 0 = 101 ∨ nx 0 = 120 then (if (gT nx).1 then ((gAs nx n 48 (gT nx).2.1 []).1, (gAs nx n 48 (gT nx).2.1 []).2.1, nx 1 - 48, (if nx 0 = 120 then 1 else 0), (gT nx).2.2, (gAs nx n 48 (gT nx).2.1 []).2.2) else (false, (gT nx).2.1, 0, 0, none, [])) else (false, 0, 0, 0, none, [])
section ZCD
variable {n : Nat} {ch : Nat → Nat} {tc mt : Nat → Int32}
def cWQ (r : Bool × Nat × Nat × Int32 × Option (List zTok) × List zAct) (a : Int32) (b : Int32 × Int32 × Int32 × Int32 × Int32 × Int32 × Int32 × Int32 × Int32 × Int32 × (Nat → Int32)) : Prop := a = (if r.1 then 1 else 0) ∧ b.1 = nI r.2.1 ∧ (r.1 = true → b.2.1 = nI (zxC r.2.2.2.2.1 ++ r.2.2.2.2.2.flatMap zxS).length ∧ (zxC r.2.2.2.2.1 ++ r.2.2.2.2.2.flatMap zxS).length ≤ 48 ∧ b.2.2.1 = nI r.2.2.2.2.2.length ∧ b.2.2.2.1 = nI r.2.2.1 ∧ b.2.2.2.2.1 = r.2.2.2.1 ∧ b.2.2.2.2.2.1 = (if r.2.2.2.2.1.isSome then 1 else 0) ∧ b.2.2.2.2.2.2.1 = 0 ∧ b.2.2.2.2.2.2.2.1 = 0 ∧ b.2.2.2.2.2.2.2.2.1 = 0 ∧ b.2.2.2.2.2.2.2.2.2.1 = 0 ∧ sE b.2.2.2.2.2.2.2.2.2.2 0 (zxC r.2.2.2.2.1 ++ r.2.2.2.2.2.flatMap zxS))
theorem c_read (hT : zTx n ch tc mt) (at0 d1 d2 d3 d4 d5 d6 d7 d8 d9 : Int32) (ds : Nat → Int32) : p_Te_read (nI n) at0 d1 d2 d3 d4 d5 d6 d7 d8 d9 tc ds ∧ cWQ (gRl (zN n ch) n) (s_Te_read (nI n) at0 d1 d2 d3 d4 d5 d6 d7 d8 d9 tc ds).1 (s_Te_read (nI n) at0 d1 d2 d3 d4 d5 d6 d7 d8 d9 tc ds).2 := by
  have hn := hT.1
  refine e_Te_read (nI n) at0 d1 d2 d3 d4 d5 d6 d7 d8 d9 tc ds (Q := cWQ (gRl (zN n ch) n)) ?_
  intro m4 m5 m6 m7 m8 m9 m10 m11 m12 q
  simp only [s_Ru_clear] at q
  cases q
  obtain ⟨h1, h2⟩ := c_head hT ds
  refine ⟨h1, fun r14 m17 m18 m19 m20 m21 m22 q => ?_⟩
  rw [q] at h2
  unfold gRl
  by_cases h0 : zN n ch 0 = 101 ∨ zN n ch 0 = 120
  · rw [if_pos h0] at h2 ⊢
    obtain ⟨k1, k2, k3⟩ := h2
    simp only at k1 k2 k3
    subst k1 k2
    have q1 : 0 < n := zN_p (ch := ch) (by omega)
    have hb := gT_b hT (by omega)
    generalize gT (zN n ch) = R at hb k3 ⊢
    obtain ⟨b1, b2, b3⟩ := hb
    by_cases h6 : R.1 = true
    · rw [if_pos h6, if_pos h6]
      obtain ⟨k4, k5, k6, k7, k8⟩ := k3 h6
      obtain ⟨b4, b5⟩ := b3 h6
      subst k4 k5 k6 k7
      refine ⟨fun _ => ?_, fun q => absurd q (by decide)⟩
      have := c_body hT (L0 := zxC R.2.2) (site := nI (zN n ch 1 - 48)) (exit := if zN n ch 0 = 120 then 1 else 0) (cond := if R.2.2.isSome then 1 else 0) 48 R.2.1 [] 551 m22 (by omega) b2 (by simp) (by simp only [List.flatMap_nil, List.append_nil]; omega) (by simp only [List.flatMap_nil, List.append_nil]; exact k8)
      simp only [List.flatMap_nil, List.append_nil] at this
      exact this
    · rw [if_neg h6, if_neg h6]
      exact ⟨fun q => absurd rfl q, fun _ => ⟨rfl, rfl, fun q => absurd q (by simp)⟩⟩
  · rw [if_neg h0] at h2 ⊢
    obtain ⟨k1, k2⟩ := h2
    simp only at k1 k2
    subst k1 k2
    exact ⟨fun q => absurd rfl q, fun _ => ⟨rfl, rfl, fun q => absurd q (by simp)⟩⟩
theorem mVb_congr {lo hi hi' : Nat} {c c' : Nat → Int32} {x : Int32} {T : List zTok} (h : mVb lo hi c x T) (hh : hi ≤ hi') (hc : ∀ j, j < hi → c' j = c j) : mVb lo hi' c' x T := by
  obtain ⟨a, h1, h2, h3, h4, h5⟩ := h
  exact ⟨a, h1, h2, by omega, mE_congr T a (fun i _ h => hc i (by omega)) h4, h5⟩
theorem zxLb_congr {lo hi hi' : Nat} {kd tg f1 f2 c kd' tg' f1' f2' c' : Nat → Int32} (hh : hi ≤ hi') (hc : ∀ j, j < hi → c' j = c j) : ∀ (A : List zAct) (i : Nat), (∀ j, j < i + A.length → kd' j = kd j ∧ tg' j = tg j ∧ f1' j = f1 j ∧ f2' j = f2 j) → zxLb lo hi kd tg f1 f2 c i A → zxLb lo hi' kd' tg' f1' f2' c' i A
  | [], _, _, _ => trivial
  | a :: A, i, h, hs => by
    obtain ⟨e1, e2, e3, e4⟩ := h i (by simp only [List.length_cons]; omega)
    refine ⟨⟨e1.trans hs.1.1, by rw [e3]; exact mVb_congr hs.1.2.1 hh hc, ?_⟩, zxLb_congr hh hc A (i + 1) (fun j hj => h j (by simp only [List.length_cons]; omega)) hs.2⟩
    rcases hs.1.2.2 with ⟨w1, w2, w3⟩ | w | w | ⟨w1, w2, w3, w4⟩
    · exact Or.inl ⟨w1, w2, e2.trans w3⟩
    · exact Or.inr (Or.inl w)
    · exact Or.inr (Or.inr (Or.inl w))
    · exact Or.inr (Or.inr (Or.inr ⟨w1, w2, e2.trans w3, by rw [e4]; exact mVb_congr w4 hh hc⟩))
theorem zxLb_snoc {lo hi : Nat} {kd tg f1 f2 c : Nat → Int32} {a : zAct} : ∀ (A : List zAct) (i : Nat), zxLb lo hi kd tg f1 f2 c i A → zxMb lo hi kd tg f1 f2 c (i + A.length) a → zxLb lo hi kd tg f1 f2 c i (A ++ [a])
  | [], i, _, h => ⟨h, trivial⟩
  | b :: A, i, hs, h => ⟨hs.1, zxLb_snoc A (i + 1) hs.2 (by rw [show i + 1 + A.length = i + (b :: A).length by simp only [List.length_cons]; omega]; exact h)⟩
theorem mVb_lo {lo lo' hi : Nat} {c : Nat → Int32} {x : Int32} {T : List zTok} (h : mVb lo hi c x T) (hl : lo' ≤ lo) : mVb lo' hi c x T := by
  obtain ⟨a, h1, h2, h3⟩ := h
  exact ⟨a, h1, by omega, h3⟩
theorem zxMb_lo {lo lo' hi : Nat} {kd tg f1 f2 c : Nat → Int32} {i : Nat} {a : zAct} (h : zxMb lo hi kd tg f1 f2 c i a) (hl : lo' ≤ lo) : zxMb lo' hi kd tg f1 f2 c i a := by
  refine ⟨h.1, mVb_lo h.2.1 hl, ?_⟩
  rcases h.2.2 with w | w | w | ⟨w1, w2, w3, w4⟩
  · exact Or.inl w
  · exact Or.inr (Or.inl w)
  · exact Or.inr (Or.inr (Or.inl w))
  · exact Or.inr (Or.inr (Or.inr ⟨w1, w2, w3, mVb_lo w4 hl⟩))
/-- what the reference's tables hold when the body has been read: y is (newSite, newCondition, newActions, pos, at, operators, starts, compared, code, operator, kind, target, first, second) -/
def mBQ (a0 : Nat) (ns nc : Int32) (kd tg f1 f2 cd : Nat → Int32) (r : Bool × Nat × List zAct) (x : Int32) (y : Int32 × Int32 × Int32 × Int32 × Int32 × Int32 × (Nat → Int32) × (Nat → Int32) × (Nat → Int32) × (Nat → Int32) × (Nat → Int32) × (Nat → Int32) × (Nat → Int32) × (Nat → Int32)) : Prop :=
  x = (if r.1 then 1 else 0) ∧ y.2.2.2.1 = nI r.2.1 ∧ (∀ j, j < 288 → y.2.2.2.2.2.2.2.2.2.2.1 j = kd j ∧ y.2.2.2.2.2.2.2.2.2.2.2.1 j = tg j ∧ y.2.2.2.2.2.2.2.2.2.2.2.2.1 j = f1 j ∧ y.2.2.2.2.2.2.2.2.2.2.2.2.2 j = f2 j) ∧ (∀ j, j < a0 → y.2.2.2.2.2.2.2.2.1 j = cd j) ∧ (r.1 = true → y.1 = ns ∧ y.2.1 = nc ∧ y.2.2.1 = nI r.2.2.length ∧ r.2.2.length ≤ 48 ∧ ∃ a2 : Nat, y.2.2.2.2.1 = nI a2 ∧ a0 ≤ a2 ∧ a2 ≤ 1390 ∧ zxLb 1200 a2 y.2.2.2.2.2.2.2.2.2.2.1 y.2.2.2.2.2.2.2.2.2.2.2.1 y.2.2.2.2.2.2.2.2.2.2.2.2.1 y.2.2.2.2.2.2.2.2.2.2.2.2.2 y.2.2.2.2.2.2.2.2.1 288 r.2.2)
theorem m_body (hT : zTx n ch tc mt) {a0 : Nat} {ns nc y1 : Int32} {kd0 tg0 f10 f20 cd0 : Nat → Int32} (h1200 : 1200 ≤ a0) : ∀ (m p : Nat) (A : List zAct) (F a : Nat) (os : Int32) (st cm cd op kd tg f1 f2 : Nat → Int32), m ≤ 48 → p ≤ n → 49 ≤ m + p → A.length + m ≤ 48 → a0 ≤ a → a + 2 * (48 - p) ≤ 1390 → (∀ j, j < 288 → kd j = kd0 j ∧ tg j = tg0 j ∧ f1 j = f10 j ∧ f2 j = f20 j) → (∀ j, j < a0 → cd j = cd0 j) → zxLb 1200 a kd tg f1 f2 cd 288 A →
    WP_Mo_rule_L149 (F + m + 1) y1 ns nc (nI A.length) (nI n) (nI p) (nI a) os mt st cm cd op kd tg f1 f2 (mBQ a0 ns nc kd0 tg0 f10 f20 cd0 (gAs (zN n ch) n m p A))
  | 0, p, A, F, a, os, st, cm, cd, op, kd, tg, f1, f2, _, hp, h49, hA, h1, h2, h3, h4, h5 => absurd h49 (by have := hT.1; omega)
  | m + 1, p, A, F, a, os, st, cm, cd, op, kd, tg, f1, f2, hm, hp, h49, hA, h1, h2, h3, h4, h5 => by
    have hn := hT.1
    have h127 := zN_lt hT
    show WP_Mo_rule_L149 (F + m + 1 + 1) y1 ns nc (nI A.length) (nI n) (nI p) (nI a) os mt st cm cd op kd tg f1 f2 _
    have c := m_act hT (p := p) (a := a) (i := 288 + A.length) (os0 := os) (kd := kd) (tg := tg) (f1 := f1) (st := st) (cm := cm) (cd := cd) (op := op) (f2 := f2) hp h2 (by omega)
    have hb := gA_b hT (p := p) hp
    have e288 : (288 : Int32) + nI A.length = nI (288 + A.length) := nI_add 288 _
    unfold WP_Mo_rule_L149 gAs
    rw [e288]
    refine ⟨c.1, fun r180 m183 m184 m185 m186 m187 m188 m189 m190 m191 m192 m193 q => ?_⟩
    have c2 := c.2
    rw [q] at c2
    obtain ⟨k1, k2, k3, k4, k5⟩ := c2
    simp only at k1 k2 k3 k4 k5
    generalize gA (zN n ch) p = R at hb k1 k2 k5 ⊢
    obtain ⟨b1, b2, b3⟩ := hb
    subst k1 k2
    have fr : ∀ j, j < 288 → m186 j = kd0 j ∧ m187 j = tg0 j ∧ m188 j = f10 j ∧ m193 j = f20 j := fun j hj => by
      obtain ⟨w1, w2, w3, w4⟩ := k3 j (by omega)
      obtain ⟨v1, v2, v3, v4⟩ := h3 j hj
      exact ⟨w1.trans v1, w2.trans v2, w3.trans v3, w4.trans v4⟩
    have fc : ∀ j, j < a0 → m191 j = cd0 j := fun j hj => (k4 j (by omega)).trans (h4 j hj)
    by_cases h6 : R.1 = true
    · rw [if_pos h6, if_pos h6]
      obtain ⟨b4, b5⟩ := b3 h6
      obtain ⟨a2, k6, k7, k8, k9⟩ := k5 h6
      subst k6
      have hA2 : zxLb 1200 a2 m186 m187 m188 m193 m191 288 (A ++ [R.2.2]) := zxLb_snoc A 288 (zxLb_congr k7 k4 A 288 (fun j hj => k3 j (by omega)) h5) (zxMb_lo k9 (by omega))
      refine ⟨fun _ => ?_, fun q => absurd q (by decide)⟩
      have c := f_passes hT (p := R.2.1) (c := 59) (by omega) (by omega)
      refine ⟨c.1, fun r197 u198 q => ?_⟩
      rw [show s_Mo_passes (nI n) (nI R.2.1) mt 59 = _ from c.2] at q
      by_cases h8 : zN n ch R.2.1 = 59
      · have q1 : R.2.1 < n := zN_p (ch := ch) (by omega)
        have h7 : ¬ zN n ch R.2.1 = 125 := by omega
        rw [if_pos h8] at q
        cases q
        rw [if_neg h7, if_pos h8]
        refine ⟨fun _ => ?_, fun q => absurd q (by decide)⟩
        have ih := m_body hT (a0 := a0) (ns := ns) (nc := nc) (y1 := y1) (kd0 := kd0) (tg0 := tg0) (f10 := f10) (f20 := f20) (cd0 := cd0) h1200 m (R.2.1 + 1) (A ++ [R.2.2]) F a2 m185 m189 m190 m191 m192 m186 m187 m188 m193 (by omega) (by omega) (by omega) (by simp only [List.length_append, List.length_cons, List.length_nil]; omega) (by omega) (by omega) fr fc hA2
        rw [show (A ++ [R.2.2]).length = A.length + 1 by simp] at ih
        rw [nI_1]
        exact ih
      · rw [if_neg h8] at q
        cases q
        refine ⟨fun q => absurd rfl q, fun _ => ?_⟩
        have c := f_passes hT (p := R.2.1) (c := 125) (by omega) (by omega)
        refine ⟨c.1, fun r203 u204 q => ?_⟩
        rw [show s_Mo_passes (nI n) (nI R.2.1) mt 125 = _ from c.2] at q
        by_cases h7 : zN n ch R.2.1 = 125
        · have q1 : R.2.1 < n := zN_p (ch := ch) (by omega)
          rw [if_pos h7] at q ⊢
          cases q
          refine ⟨fun q => absurd q (by decide), fun _ => ⟨fun q => ?_, fun q => ?_⟩⟩
          · have hne : ¬ R.2.1 + 1 = n := fun e => q (by rw [e])
            exact ⟨by simp only [decide_eq_false hne]; rfl, rfl, fr, fc, fun q => absurd q (by simp only [decide_eq_false hne]; decide)⟩
          · have he : R.2.1 + 1 = n := (nI_eq (by omega) (by omega)).mp q
            refine ⟨by simp only [decide_eq_true he]; rfl, rfl, fr, fc, fun _ => ⟨rfl, rfl, ?_, ?_, a2, rfl, by omega, by omega, hA2⟩⟩
            · simp only [List.length_append, List.length_cons, List.length_nil, nI_1]
            · simp only [List.length_append, List.length_cons, List.length_nil]; omega
        · rw [if_neg h7, if_neg h8]
          rw [if_neg h7] at q
          cases q
          exact ⟨fun _ => ⟨rfl, rfl, fr, fc, fun q => absurd q (by simp)⟩, fun q => absurd rfl q⟩
    · rw [if_neg h6, if_neg h6]
      exact ⟨fun q => absurd rfl q, fun _ => ⟨rfl, rfl, fr, fc, fun q => absurd q (by simp)⟩⟩
end ZCD
