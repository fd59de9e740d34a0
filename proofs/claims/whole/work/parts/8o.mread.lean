/-! the reference's small readers and writers -/
/-- tokens stand from a on -/
def cE (c : Nat → Int32) : Nat → List zTok → Prop
  | _, [] => True
  | a, t :: T => c a = nI t.1 ∧ c (a + 1) = nI t.2 ∧ cE c (a + 2) T
theorem cE_app {c : Nat → Int32} : ∀ (T U : List zTok) (a : Nat), cE c a (T ++ U) ↔ cE c a T ∧ cE c (a + 2 * T.length) U
  | [], U, a => by simp [cE]
  | t :: T, U, a => by
    have := cE_app (c := c) T U (a + 2)
    show (c a = nI t.1 ∧ c (a + 1) = nI t.2 ∧ cE c (a + 2) (T ++ U)) ↔ (c a = nI t.1 ∧ c (a + 1) = nI t.2 ∧ cE c (a + 2) T) ∧ cE c (a + 2 * (T.length + 1)) U
    rw [this, and_assoc, and_assoc, show a + 2 + 2 * T.length = a + 2 * (T.length + 1) by omega]
theorem cE_congr {c c' : Nat → Int32} : ∀ (T : List zTok) (a : Nat), (∀ i, a ≤ i → i < a + 2 * T.length → c' i = c i) → cE c a T → cE c' a T
  | [], _, _, _ => trivial
  | t :: T, a, h, hs => ⟨(h a (by omega) (by simp only [List.length_cons]; omega)).trans hs.1, (h (a + 1) (by omega) (by simp only [List.length_cons]; omega)).trans hs.2.1, cE_congr T (a + 2) (fun i h1 h2 => h i (by omega) (by simp only [List.length_cons]; omega)) hs.2.2⟩
theorem cE_more {c c' : Nat → Int32} {T U : List zTok} {a b : Nat} (hb : a + 2 * T.length = b) (hs : cE c a T) (he : ∀ i, i < b → c' i = c i) (hu : cE c' b U) : cE c' a (T ++ U) := by
  rw [cE_app, hb]
  exact ⟨cE_congr T a (fun i _ h2 => he i (by omega)) hs, hu⟩
theorem mE_of {c : Nat → Int32} : ∀ (T : List zTok) (a : Nat), cE c a T → c (a + 2 * T.length) = 0 → mE c a T
  | [], a, _, h => h
  | t :: T, a, hs, h => ⟨hs.1, hs.2.1, mE_of T (a + 2) hs.2.2 (by rw [show a + 2 + 2 * T.length = a + 2 * (t :: T).length by simp only [List.length_cons]; omega]; exact h)⟩
theorem f_emit {a : Nat} (h : a + 2 ≤ 1400) (c : Nat → Int32) (x y : Int32) : p_Mo_emit (nI a) c x y ∧ s_Mo_emit (nI a) c x y = (nI (a + 2), upd (upd c a x) (a + 1) y) := by
  refine e_Mo_emit (nI a) c x y (Q := fun r => r = (nI (a + 2), upd (upd c a x) (a + 1) y)) ?_
  have e : nI a + 2 = nI (a + 2) := nI_add a 2
  unfold WP_Mo_emit
  rw [nI_1, nI_clamp (by omega), nI_clamp (by omega), e]
  exact ⟨pk_in a 1400 (by omega), pk_in (a + 1) 1400 (by omega), rfl⟩
theorem em_lt {c : Nat → Int32} {a i : Nat} {x y : Int32} (h : i < a) : upd (upd c a x) (a + 1) y i = c i := by
  simp only [upd]
  rw [if_neg (by omega), if_neg (by omega)]
theorem em_cE {c : Nat → Int32} {a x y : Nat} : cE (upd (upd c a (nI x)) (a + 1) (nI y)) a [(x, y)] := by
  refine ⟨?_, ?_, trivial⟩
  · simp only [upd]
    rw [if_neg (by omega)]
    simp only [if_true]
  · simp only [upd, if_true]
theorem w_minus {op : Nat → Int32} {s0 lo : Nat} (h0 : s0 ≤ lo) (hlo : lo = s0 ∨ ¬ op (lo - 1) = 0) : ∀ (m a y F : Nat) (c : Nat → Int32) (Q : Int32 → (Int32 × Int32 × (Nat → Int32)) → Prop), (∀ i, i < m → op (lo + i) = 0) → lo + m ≤ 60 → a + 2 * m ≤ 1400 →
    (∀ c', cE c' a (List.replicate m (4, 0)) → (∀ i, i < a → c' i = c i) → Q (nI (y + m)) (nI (a + 2 * m), nI lo, c')) → WP_Mo_writeMinus_L2 (F + m + 1) (nI s0) (nI y) (nI a) (nI (lo + m)) op c Q
  | 0, a, y, F, c, Q, h, h60, ha, K => by
    have K0 := K c trivial (fun _ _ => rfl)
    refine pk_le lo s0 (fun _ => K0) (fun q => ?_)
    have e : nI (lo + 0) - 1 = nI (lo - 1) := pk_sub (a := lo) (b := 1) (by omega)
    rw [e, nI_clamp (by omega)]
    refine ⟨pk_in (lo - 1) 60 (by omega), fun _ => K0, fun q2 => ?_⟩
    rcases hlo with h1 | h1
    · omega
    · exact absurd q2 h1
  | m + 1, a, y, F, c, Q, h, h60, ha, K => by
    show WP_Mo_writeMinus_L2 (F + m + 1 + 1) (nI s0) (nI y) (nI a) (nI (lo + (m + 1))) op c Q
    refine pk_le (lo + (m + 1)) s0 (fun q => absurd q (by omega)) (fun _ => ?_)
    have e : nI (lo + (m + 1)) - 1 = nI (lo + m) := nI_pred (lo + m)
    rw [e, nI_clamp (by omega)]
    have em := f_emit (a := a) (by omega) c 4 0
    refine ⟨pk_in (lo + m) 60 (by omega), fun q => absurd (h m (by omega)) q, fun _ => ⟨em.1, fun m9 m10 q => ?_⟩⟩
    rw [em.2] at q
    cases q
    rw [nI_1]
    refine w_minus h0 hlo m (a + 2) (y + 1) F _ Q (fun i hi => h i (by omega)) (by omega) (by omega) (fun c' k1 k2 => ?_)
    have := K c' ⟨(k2 a (by omega)).trans (em_cE (x := 4) (y := 0)).1, (k2 (a + 1) (by omega)).trans (em_cE (x := 4) (y := 0)).2.1, k1⟩ (fun i hi => (k2 i (by omega)).trans (em_lt hi))
    rw [show y + 1 + m = y + (m + 1) by omega, show a + 2 + 2 * m = a + 2 * (m + 1) by omega]
    exact this
theorem f_minus {op : Nat → Int32} {s0 lo m a : Nat} {c : Nat → Int32} (h0 : s0 ≤ lo) (hlo : lo = s0 ∨ ¬ op (lo - 1) = 0) (h : ∀ i, i < m → op (lo + i) = 0) (h60 : lo + m ≤ 60) (ha : a + 2 * m ≤ 1400) :
    p_Mo_writeMinus (nI a) (nI (lo + m)) op c (nI s0) ∧ ∃ c', s_Mo_writeMinus (nI a) (nI (lo + m)) op c (nI s0) = (nI m, nI (a + 2 * m), nI lo, c') ∧ cE c' a (List.replicate m (4, 0)) ∧ ∀ i, i < a → c' i = c i := by
  have := e_Mo_writeMinus (nI a) (nI (lo + m)) op c (nI s0) (Q := fun x y => x = nI m ∧ y.1 = nI (a + 2 * m) ∧ y.2.1 = nI lo ∧ cE y.2.2 a (List.replicate m (4, 0)) ∧ ∀ i, i < a → y.2.2 i = c i) (by
    have := w_minus (Q := fun x y => x = nI m ∧ y.1 = nI (a + 2 * m) ∧ y.2.1 = nI lo ∧ cE y.2.2 a (List.replicate m (4, 0)) ∧ ∀ i, i < a → y.2.2 i = c i) h0 hlo m a 0 (599 - m) c h h60 ha (fun c' k1 k2 => ⟨by rw [Nat.zero_add], rfl, rfl, k1, k2⟩)
    rw [show 599 - m + m + 1 = 600 by omega] at this
    exact this)
  obtain ⟨t1, t2, t3, t4, t5, t6⟩ := this
  generalize s_Mo_writeMinus (nI a) (nI (lo + m)) op c (nI s0) = x at t2 t3 t4 t5 t6
  obtain ⟨x1, x2, x3, x4⟩ := x
  simp only at t2 t3 t4 t5 t6
  exact ⟨t1, x4, by rw [t2, t3, t4], t5, t6⟩
/-- operators that wait, the last first, above lo -/
def zsk (op : Nat → Int32) (lo : Nat) : List Nat → Prop
  | [] => True
  | h :: H => op (lo + H.length) = nI h ∧ zsk op lo H
theorem zsk_congr {op op' : Nat → Int32} {lo : Nat} : ∀ (H : List Nat), (∀ i, lo ≤ i → i < lo + H.length → op' i = op i) → zsk op lo H → zsk op' lo H
  | [], _, _ => trivial
  | x :: H, h, hs => ⟨(h _ (by omega) (by simp only [List.length_cons]; omega)).trans hs.1, zsk_congr H (fun i h1 h2 => h i h1 (by simp only [List.length_cons]; omega)) hs.2⟩
def zot (h : Nat) : zTok := (3, h)
/-- an operator of a level no less than v -/
def zhi (v h : Nat) : Prop := h < 127 ∧ ¬ lvN h = 9 ∧ v ≤ lvN h
theorem w_ops {op : Nat → Int32} {s0 lo v : Nat} (h0 : s0 ≤ lo) (hv : v ≤ 2) (hlo : lo = s0 ∨ ∃ g, op (lo - 1) = nI g ∧ g < 127 ∧ ¬ lvN g = 9 ∧ lvN g < v) : ∀ (H : List Nat) (a F : Nat) (c : Nat → Int32) (Q : (Int32 × Int32 × (Nat → Int32)) → Prop), zsk op lo H → (∀ h ∈ H, zhi v h) → lo + H.length ≤ 60 → a + 2 * H.length ≤ 1400 →
    (∀ c', cE c' a (H.map zot) → (∀ i, i < a → c' i = c i) → Q (nI (a + 2 * H.length), nI lo, c')) → WP_Mo_write_L0 (F + H.length + 1) (nI s0) (nI (v + 1)) (nI a) (nI (lo + H.length)) op c Q
  | [], a, F, c, Q, hs, hh, h60, ha, K => by
    have K0 := K c trivial (fun _ _ => rfl)
    have h60' : lo ≤ 60 := h60
    refine pk_le lo s0 (fun _ => K0) (fun q => ?_)
    have e : nI (lo + ([] : List Nat).length) - 1 = nI (lo - 1) := pk_sub (a := lo) (b := 1) (by omega)
    rw [e, nI_clamp (by omega)]
    have i60 : vp_in (nI (lo - 1)) 60 := pk_in (lo - 1) 60 (by omega)
    rcases hlo with h1 | ⟨g, g1, g2, g3, g4⟩
    · omega
    · rw [g1]
      refine ⟨i60, fun _ => K0, fun _ => ⟨i60, fun r7 q7 => ?_⟩⟩
      rw [f_rank g g2, if_neg g3] at q7
      subst q7
      exact pk_lt (lvN g + 1) (v + 1) (fun _ => K0) (fun q => absurd q (by omega))
  | h :: H, a, F, c, Q, hs, hh, h60, ha, K => by
    have h60' : lo + (H.length + 1) ≤ 60 := h60
    have ha' : a + 2 * (H.length + 1) ≤ 1400 := ha
    obtain ⟨z1, z2, z3⟩ := hh h (by simp)
    have hlv : lvN h ≤ 2 := by rcases lv_cases h z1 with q | q | q | q <;> omega
    show WP_Mo_write_L0 (F + H.length + 1 + 1) (nI s0) (nI (v + 1)) (nI a) (nI (lo + H.length + 1)) op c Q
    refine pk_le (lo + H.length + 1) s0 (fun q => absurd q (by omega)) (fun _ => ?_)
    have e : nI (lo + H.length + 1) - 1 = nI (lo + H.length) := nI_pred (lo + H.length)
    rw [e, nI_clamp (by omega), hs.1]
    have i60 : vp_in (nI (lo + H.length)) 60 := pk_in (lo + H.length) 60 (by omega)
    have hpos : 0 < h := by
      rcases Nat.eq_zero_or_pos h with q | q
      · subst q; exact absurd rfl z2
      · exact q
    have em := f_emit (a := a) (by omega) c 3 (nI h)
    refine ⟨i60, fun q => absurd q (nI_nle hpos (by omega)), fun _ => ⟨i60, fun r7 q7 => ?_⟩⟩
    rw [f_rank h z1, if_neg z2] at q7
    subst q7
    refine pk_lt (lvN h + 1) (v + 1) (fun q => absurd q (by omega)) (fun _ => ⟨i60, em.1, fun m17 m18 q => ?_⟩)
    rw [em.2] at q
    cases q
    refine w_ops h0 hv hlo H (a + 2) F _ Q hs.2 (fun x hx => hh x (by simp [hx])) (by omega) (by omega) (fun c' k1 k2 => ?_)
    have := K c' ⟨(k2 a (by omega)).trans (em_cE (x := 3) (y := h)).1, (k2 (a + 1) (by omega)).trans (em_cE (x := 3) (y := h)).2.1, k1⟩ (fun i hi => (k2 i (by omega)).trans (em_lt hi))
    rw [show a + 2 + 2 * H.length = a + 2 * (h :: H).length by simp only [List.length_cons]; omega]
    exact this
theorem f_write {op : Nat → Int32} {s0 lo v a : Nat} {H : List Nat} {c : Nat → Int32} (h0 : s0 ≤ lo) (hv : v ≤ 2) (hlo : lo = s0 ∨ ∃ g, op (lo - 1) = nI g ∧ g < 127 ∧ ¬ lvN g = 9 ∧ lvN g < v) (hs : zsk op lo H) (hh : ∀ h ∈ H, zhi v h) (h60 : lo + H.length ≤ 60) (ha : a + 2 * H.length ≤ 1400) :
    p_Mo_write (nI a) (nI (lo + H.length)) op c (nI s0) (nI (v + 1)) ∧ ∃ c', s_Mo_write (nI a) (nI (lo + H.length)) op c (nI s0) (nI (v + 1)) = (nI (a + 2 * H.length), nI lo, c') ∧ cE c' a (H.map zot) ∧ ∀ i, i < a → c' i = c i := by
  have := e_Mo_write (nI a) (nI (lo + H.length)) op c (nI s0) (nI (v + 1)) (Q := fun y => y.1 = nI (a + 2 * H.length) ∧ y.2.1 = nI lo ∧ cE y.2.2 a (H.map zot) ∧ ∀ i, i < a → y.2.2 i = c i) (by
    have := w_ops (Q := fun y => y.1 = nI (a + 2 * H.length) ∧ y.2.1 = nI lo ∧ cE y.2.2 a (H.map zot) ∧ ∀ i, i < a → y.2.2 i = c i) h0 hv hlo H a (599 - H.length) c hs hh h60 ha (fun c' k1 k2 => ⟨rfl, rfl, k1, k2⟩)
    rw [show 599 - H.length + H.length + 1 = 600 by omega] at this
    exact this)
  obtain ⟨t1, t3, t4, t5, t6⟩ := this
  generalize s_Mo_write (nI a) (nI (lo + H.length)) op c (nI s0) (nI (v + 1)) = x at t3 t4 t5 t6
  obtain ⟨x2, x3, x4⟩ := x
  simp only at t3 t4 t5 t6
  exact ⟨t1, x4, by rw [t3, t4], t5, t6⟩
section ZMU
variable {n : Nat} {ch : Nat → Nat} {tc mt : Nat → Int32}
theorem mu_stop (hT : zTx n ch tc mt) {f v k p a : Nat} {y1 : Int32} {c : Nat → Int32} {Q : Int32 → (Int32 × Int32 × (Nat → Int32)) → Prop} (hp : p < 1000) (ha : a + 2 ≤ 1400) (hk : k ≤ 3) (h : k = 3 ∨ ¬ dgN (zN n ch p) = true) (K : Q 1 (nI p, nI (a + 2), upd (upd c a 1) (a + 1) (nI v))) : WP_Mo_unit_L20 (f + 1) y1 (nI v) (nI k) (nI n) (nI p) (nI a) mt c Q := by
  have em := f_emit ha c 1 (nI v)
  have go : p_Mo_emit (nI a) c 1 (nI v) ∧ (∀ (m56 : Int32) (m57 : Nat → Int32), s_Mo_emit (nI a) c 1 (nI v) = (m56, m57) → Q 1 (nI p, m56, m57)) := by
    refine ⟨em.1, fun m6 m7 q => ?_⟩
    rw [em.2] at q
    cases q
    exact K
  refine pk_le 3 k (fun _ => go) (fun q => ?_)
  have b := f_look hT hp
  refine ⟨b.1, fun r9 q9 r13 q13 => ?_⟩
  rw [b.2] at q9
  subst q9
  rw [f_dig2 _ (zN_lt hT p), if_neg (h.elim (fun h => absurd h (by omega)) id)] at q13
  subst q13
  exact ⟨fun _ => go, fun q => absurd rfl q⟩
theorem mu_step (hT : zTx n ch tc mt) {f v k p a : Nat} {y1 : Int32} {c : Nat → Int32} {Q : Int32 → (Int32 × Int32 × (Nat → Int32)) → Prop} (hp : p < 1000) (hk : k < 3) (h : dgN (zN n ch p) = true) (K : WP_Mo_unit_L20 f y1 (nI (v * 10 + (zN n ch p - 48))) (nI (k + 1)) (nI n) (nI (p + 1)) (nI a) mt c Q) : WP_Mo_unit_L20 (f + 1) y1 (nI v) (nI k) (nI n) (nI p) (nI a) mt c Q := by
  refine pk_le 3 k (fun q => absurd q (by omega)) (fun _ => ?_)
  have b := f_look hT hp
  have dg := dgN_n h
  refine ⟨b.1, fun r9 q9 r13 q13 => ?_⟩
  rw [b.2] at q9
  subst q9
  rw [f_dig2 _ (zN_lt hT p), if_pos h] at q13
  subst q13
  refine ⟨fun q => absurd q (by decide), fun _ => ⟨b.1, fun r25 _ => ?_⟩⟩
  have e1 : nI v * 10 = nI (v * 10) := pk_mul v 10
  have e2 : nI (v * 10 + zN n ch p) - 48 = nI (v * 10 + (zN n ch p - 48)) := by
    have := pk_sub (a := v * 10 + zN n ch p) (b := 48) (by omega)
    rw [show v * 10 + zN n ch p - 48 = v * 10 + (zN n ch p - 48) by omega] at this
    exact this
  rw [e1, nI_add, e2, nI_1, nI_1]
  exact K
/-- a number or a name -/
theorem m_unit (hT : zTx n ch tc mt) {p a : Nat} (hp : p ≤ n) (ha : a + 2 ≤ 1400) (c : Nat → Int32) :
    p_Mo_unit (nI n) (nI p) (nI a) mt c ∧ s_Mo_unit (nI n) (nI p) (nI a) mt c = (if dgN (zN n ch p) then (1, nI (gN (zN n ch) p).1, nI (a + 2), upd (upd c a 1) (a + 1) (nI (gN (zN n ch) p).2)) else if nmN (zN n ch p) then (1, nI (p + 1), nI (a + 2), upd (upd c a 2) (a + 1) (nI (zN n ch p))) else (0, nI p, nI a, c)) := by
  have hn := hT.1
  have h127 := zN_lt hT p
  have b := f_look hT (p := p) (by omega)
  refine e_Mo_unit (nI n) (nI p) (nI a) mt c (Q := fun x y => (x, y) = (if dgN (zN n ch p) then (1, nI (gN (zN n ch) p).1, nI (a + 2), upd (upd c a 1) (a + 1) (nI (gN (zN n ch) p).2)) else if nmN (zN n ch p) then (1, nI (p + 1), nI (a + 2), upd (upd c a 2) (a + 1) (nI (zN n ch p))) else (0, nI p, nI a, c))) ⟨b.1, fun r1 q1 r5 q5 => ?_⟩
  rw [b.2] at q1
  subst q1
  rw [f_dig2 _ h127] at q5
  by_cases h : dgN (zN n ch p) = true
  · rw [if_pos h] at q5
    subst q5
    simp only [if_pos h]
    refine ⟨fun q => absurd q (by decide), fun _ => ?_⟩
    have d0 := dgN_n h
    refine mu_step hT (f := 599) (v := 0) (k := 0) (by omega) (by omega) h ?_
    unfold gN
    by_cases h1 : dgN (zN n ch (p + 1)) = true
    · have d1 := dgN_n h1
      simp only [if_pos h1]
      refine mu_step hT (f := 598) (by omega) (by omega) h1 ?_
      by_cases h2 : dgN (zN n ch (p + 2)) = true
      · have d2 := dgN_n h2
        simp only [if_pos h2]
        refine mu_step hT (f := 597) (p := p + 2) (by omega) (by omega) h2 ?_
        have e : ((0 * 10 + (zN n ch p - 48)) * 10 + (zN n ch (p + 1) - 48)) * 10 + (zN n ch (p + 2) - 48) = (zN n ch p - 48) * 100 + (zN n ch (p + 1) - 48) * 10 + (zN n ch (p + 2) - 48) := by omega
        rw [e]
        exact mu_stop hT (f := 596) (p := p + 3) (by omega) ha (by omega) (Or.inl rfl) rfl
      · simp only [if_neg h2]
        have e : (0 * 10 + (zN n ch p - 48)) * 10 + (zN n ch (p + 1) - 48) = (zN n ch p - 48) * 10 + (zN n ch (p + 1) - 48) := by omega
        rw [e]
        exact mu_stop hT (f := 597) (p := p + 2) (by omega) ha (by omega) (Or.inr h2) rfl
    · simp only [if_neg h1]
      have e : 0 * 10 + (zN n ch p - 48) = zN n ch p - 48 := by omega
      rw [e]
      exact mu_stop hT (f := 598) (p := p + 1) (by omega) ha (by omega) (Or.inr h1) rfl
  · rw [if_neg h] at q5
    subst q5
    simp only [if_neg h]
    refine ⟨fun _ r11 q11 => ?_, fun q => (q (by first | rfl | trivial)).elim⟩
    have em := f_emit ha c 2 (nI (zN n ch p))
    have hit : nmN (zN n ch p) = true → p_Mo_emit (nI a) c 2 (nI (zN n ch p)) ∧ (∀ (m20 : Int32) (m21 : Nat → Int32), s_Mo_emit (nI a) c 2 (nI (zN n ch p)) = (m20, m21) → ((1 : Int32), nI p + 1, m20, m21) = (if nmN (zN n ch p) = true then (1, nI (p + 1), nI (a + 2), upd (upd c a 2) (a + 1) (nI (zN n ch p))) else (0, nI p, nI a, c))) := by
      intro q
      refine ⟨em.1, fun m20 m21 q2 => ?_⟩
      rw [em.2] at q2
      cases q2
      rw [if_pos q, nI_1]
    rw [show s_Mo_in (nI (zN n ch p)) 97 99 = if 97 ≤ zN n ch p ∧ zN n ch p ≤ 99 then 1 else 0 from f_in (a := 97) (b := 99) (by omega) (by omega) (by omega)] at q11
    subst q11
    refine ⟨fun q => hit ?_, fun q => ⟨fun q2 => hit ?_, fun q2 => ⟨fun q3 => hit ?_, fun q3 r39 q39 => ?_⟩⟩⟩
    · have : 97 ≤ zN n ch p ∧ zN n ch p ≤ 99 := Decidable.byContradiction fun h => q (by rw [if_neg h])
      unfold nmN; simp; omega
    · have : zN n ch p = 116 := (nI_eq (a := zN n ch p) (b := 116) (by omega) (by omega)).mp q2
      rw [this]; rfl
    · have : zN n ch p = 107 := (nI_eq (a := zN n ch p) (b := 107) (by omega) (by omega)).mp q3
      rw [this]; rfl
    · rw [show s_Mo_in (nI (zN n ch p)) 117 122 = if 117 ≤ zN n ch p ∧ zN n ch p ≤ 122 then 1 else 0 from f_in (a := 117) (b := 122) (by omega) (by omega) (by omega)] at q39
      subst q39
      refine ⟨fun q4 => hit ?_, fun q4 => ?_⟩
      · have : 117 ≤ zN n ch p ∧ zN n ch p ≤ 122 := Decidable.byContradiction fun h => q4 (by rw [if_neg h])
        unfold nmN; simp; omega
      · have n1 : ¬ (97 ≤ zN n ch p ∧ zN n ch p ≤ 99) := fun h => by rw [if_pos h] at q; exact absurd q (by decide)
        have n4 : ¬ (117 ≤ zN n ch p ∧ zN n ch p ≤ 122) := fun h => by rw [if_pos h] at q4; exact absurd q4 (by decide)
        have n2 : ¬ zN n ch p = 116 := fun h => q2 (by rw [h]; rfl)
        have n3 : ¬ zN n ch p = 107 := fun h => q3 (by rw [h]; rfl)
        have : ¬ nmN (zN n ch p) = true := by unfold nmN; simp; omega
        rw [if_neg this]
end ZMU
