/-! words for the cells -/
abbrev zo (ci a : Nat) (fs : List Value) : Nat × va_E := (a, .inr (ci, fs))
abbrev zaI (K : Nat → ClassId) (a n : Nat) (f : Nat → Int32) : Nat × va_E := (a, .inl (K 0, n, .inl f))
abbrev zaD (K : Nat → ClassId) (a n : Nat) (f : Nat → UInt64) : Nat × va_E := (a, .inl (K 1, n, .inr (.inr (.inr (.inl f)))))
abbrev zaC (K : Nat → ClassId) (a n : Nat) (f : Nat → Int32) : Nat × va_E := (a, .inl (K 2, n, .inl f))
abbrev zaL (K : Nat → ClassId) (a n : Nat) (f : Nat → Int64) : Nat × va_E := (a, .inl (K 3, n, .inr (.inl f)))
abbrev zaZ (K : Nat → ClassId) (a n : Nat) (f : Nat → Int32) : Nat × va_E := (a, .inl (K 4, n, .inl f))
abbrev zaR (K : Nat → ClassId) (k a n : Nat) (f : Nat → Option Nat) : Nat × va_E := (a, .inl (K k, n, .inr (.inr (.inr (.inr f)))))
theorem zix_cl {i : Int32} {j : Nat} (h : i = nI j) (hj : j < 2 ^ 31) : i.toNatClampNeg = j := pk_cl j h hj
theorem zix_in {i : Int32} {j n : Nat} (h : i = nI j) (hj : j < n) (hn : n < 2 ^ 31) : vp_in i n := by rw [h]; exact vp_in_nI hj hn
theorem zix_3 {i : Int32} (h : vp_in i 3) : i = nI 0 ∨ i = nI 1 ∨ i = nI 2 := by
  obtain ⟨j, hj, e⟩ := vp_in_of h (by decide)
  rcases (show j = 0 ∨ j = 1 ∨ j = 2 by omega) with rfl | rfl | rfl
  · exact Or.inl e
  · exact Or.inr (Or.inl e)
  · exact Or.inr (Or.inr e)
theorem zix_6 {i : Int32} (h : vp_in i 6) : i = nI 0 ∨ i = nI 1 ∨ i = nI 2 ∨ i = nI 3 ∨ i = nI 4 ∨ i = nI 5 := by
  obtain ⟨j, hj, e⟩ := vp_in_of h (by decide)
  rcases (show j = 0 ∨ j = 1 ∨ j = 2 ∨ j = 3 ∨ j = 4 ∨ j = 5 by omega) with rfl | rfl | rfl | rfl | rfl | rfl
  · exact Or.inl e
  · exact Or.inr (Or.inl e)
  · exact Or.inr (Or.inr (Or.inl e))
  · exact Or.inr (Or.inr (Or.inr (Or.inl e)))
  · exact Or.inr (Or.inr (Or.inr (Or.inr (Or.inl e))))
  · exact Or.inr (Or.inr (Or.inr (Or.inr (Or.inr e))))
abbrev zT (K : Nat → ClassId) : List (ClassId × FieldType) := [(K 0, .int), (K 1, .double), (K 2, .char), (K 3, .long), (K 4, .boolean), (K 5, .object R_Ru), (K 6, .object R_Ga)]
/-- a call's answer, taken apart -/
def zl1 {α β : Type} (x : α) (k : α → β) : β := k x
theorem zl1_eq {α β : Type} {x a : α} {k : α → β} (e : x = a) : zl1 x k = k a := e ▸ rfl
def zl2 {α β γ : Type} (x : α × β) (k : α → β → γ) : γ := k x.1 x.2
theorem zl2_eq {α β γ : Type} {x : α × β} {a : α} {b : β} {k : α → β → γ} (e : x = (a, b)) : zl2 x k = k a b := e ▸ rfl
/-- a boolean's number -/
def zb (v : Int32) : Prop := v = 0 ∨ v = 1
theorem zb_n {v : Int32} (h : zb v) : narrow .boolean (.int v) = .int v := by rcases h with rfl | rfl <;> rfl
theorem zb_f {v : Int32} (h : zb v) : fits .boolean (.int v) = true := by rcases h with rfl | rfl <;> rfl
theorem zin_c {i : Int32} {n : Nat} (h : (decide (0 ≤ i.toInt) && decide (i.toInt < n)) = true) : vp_in i n := vp_in_iff.mpr (by simpa using h)
theorem zto_0_2 {x : Int32} (h0 : ¬ x = (0 : Int32)) (h1 : ¬ x = (1 : Int32)) (h2 : ¬ x = (2 : Int32)) : x.toInt < 0 ∨ (2 : Int) < x.toInt := by
  have g0 : ¬ x.toInt = 0 := lv_neT h0 (by decide)
  have g1 : ¬ x.toInt = 1 := lv_neT h1 (by decide)
  have g2 : ¬ x.toInt = 2 := lv_neT h2 (by decide)
  omega
theorem zto_0_10 {x : Int32} (h0 : ¬ x = (0 : Int32)) (h1 : ¬ x = (1 : Int32)) (h2 : ¬ x = (2 : Int32)) (h3 : ¬ x = (3 : Int32)) (h4 : ¬ x = (4 : Int32)) (h5 : ¬ x = (5 : Int32)) (h6 : ¬ x = (6 : Int32)) (h7 : ¬ x = (7 : Int32)) (h8 : ¬ x = (8 : Int32)) (h9 : ¬ x = (9 : Int32)) (h10 : ¬ x = (10 : Int32)) : x.toInt < 0 ∨ (10 : Int) < x.toInt := by
  have g0 : ¬ x.toInt = 0 := lv_neT h0 (by decide)
  have g1 : ¬ x.toInt = 1 := lv_neT h1 (by decide)
  have g2 : ¬ x.toInt = 2 := lv_neT h2 (by decide)
  have g3 : ¬ x.toInt = 3 := lv_neT h3 (by decide)
  have g4 : ¬ x.toInt = 4 := lv_neT h4 (by decide)
  have g5 : ¬ x.toInt = 5 := lv_neT h5 (by decide)
  have g6 : ¬ x.toInt = 6 := lv_neT h6 (by decide)
  have g7 : ¬ x.toInt = 7 := lv_neT h7 (by decide)
  have g8 : ¬ x.toInt = 8 := lv_neT h8 (by decide)
  have g9 : ¬ x.toInt = 9 := lv_neT h9 (by decide)
  have g10 : ¬ x.toInt = 10 := lv_neT h10 (by decide)
  omega
theorem zto_42_62 {x : Int32} (h0 : ¬ x = (42 : Int32)) (h1 : ¬ x = (43 : Int32)) (h2 : ¬ x = (44 : Int32)) (h3 : ¬ x = (45 : Int32)) (h4 : ¬ x = (46 : Int32)) (h5 : ¬ x = (47 : Int32)) (h6 : ¬ x = (48 : Int32)) (h7 : ¬ x = (49 : Int32)) (h8 : ¬ x = (50 : Int32)) (h9 : ¬ x = (51 : Int32)) (h10 : ¬ x = (52 : Int32)) (h11 : ¬ x = (53 : Int32)) (h12 : ¬ x = (54 : Int32)) (h13 : ¬ x = (55 : Int32)) (h14 : ¬ x = (56 : Int32)) (h15 : ¬ x = (57 : Int32)) (h16 : ¬ x = (58 : Int32)) (h17 : ¬ x = (59 : Int32)) (h18 : ¬ x = (60 : Int32)) (h19 : ¬ x = (61 : Int32)) (h20 : ¬ x = (62 : Int32)) : x.toInt < 42 ∨ (62 : Int) < x.toInt := by
  have g0 : ¬ x.toInt = 42 := lv_neT h0 (by decide)
  have g1 : ¬ x.toInt = 43 := lv_neT h1 (by decide)
  have g2 : ¬ x.toInt = 44 := lv_neT h2 (by decide)
  have g3 : ¬ x.toInt = 45 := lv_neT h3 (by decide)
  have g4 : ¬ x.toInt = 46 := lv_neT h4 (by decide)
  have g5 : ¬ x.toInt = 47 := lv_neT h5 (by decide)
  have g6 : ¬ x.toInt = 48 := lv_neT h6 (by decide)
  have g7 : ¬ x.toInt = 49 := lv_neT h7 (by decide)
  have g8 : ¬ x.toInt = 50 := lv_neT h8 (by decide)
  have g9 : ¬ x.toInt = 51 := lv_neT h9 (by decide)
  have g10 : ¬ x.toInt = 52 := lv_neT h10 (by decide)
  have g11 : ¬ x.toInt = 53 := lv_neT h11 (by decide)
  have g12 : ¬ x.toInt = 54 := lv_neT h12 (by decide)
  have g13 : ¬ x.toInt = 55 := lv_neT h13 (by decide)
  have g14 : ¬ x.toInt = 56 := lv_neT h14 (by decide)
  have g15 : ¬ x.toInt = 57 := lv_neT h15 (by decide)
  have g16 : ¬ x.toInt = 58 := lv_neT h16 (by decide)
  have g17 : ¬ x.toInt = 59 := lv_neT h17 (by decide)
  have g18 : ¬ x.toInt = 60 := lv_neT h18 (by decide)
  have g19 : ¬ x.toInt = 61 := lv_neT h19 (by decide)
  have g20 : ¬ x.toInt = 62 := lv_neT h20 (by decide)
  omega
