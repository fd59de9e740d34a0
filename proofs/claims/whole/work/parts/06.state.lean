/-! words for the cells -/
abbrev zo (ci a : Nat) (fs : List Value) : Nat × va_E := (a, .inr (ci, fs))
abbrev zaI (K : Nat → ClassId) (a n : Nat) (f : Nat → Int32) : Nat × va_E := (a, .inl (K 0, n, .inl f))
abbrev zaD (K : Nat → ClassId) (a n : Nat) (f : Nat → UInt64) : Nat × va_E := (a, .inl (K 1, n, .inr (.inr (.inr (.inl f)))))
abbrev zaC (K : Nat → ClassId) (a n : Nat) (f : Nat → Int32) : Nat × va_E := (a, .inl (K 2, n, .inl f))
abbrev zaL (K : Nat → ClassId) (a n : Nat) (f : Nat → Int64) : Nat × va_E := (a, .inl (K 3, n, .inr (.inl f)))
abbrev zaZ (K : Nat → ClassId) (a n : Nat) (f : Nat → Int32) : Nat × va_E := (a, .inl (K 4, n, .inl f))
abbrev zaR (K : Nat → ClassId) (k a n : Nat) (f : Nat → Option Nat) : Nat × va_E := (a, .inl (K k, n, .inr (.inr (.inr (.inr f)))))
theorem zix_cl {i : Int32} {j : Nat} (h : i = nI j) (hj : j < 2 ^ 31) : i.toNatClampNeg = j := pk_cl j h hj
theorem zix_in {i : Int32} {j n : Nat} (h : i = nI j) (hj : j < n) (hn : n < 2 ^ 31) : vp_in i n := by rw [h]; exact vp_in_nI hj hn
theorem zix_3 {i : Int32} (h : vp_in i 3) : i = nI 0 ∨ i = nI 1 ∨ i = nI 2 := by
  obtain ⟨j, hj, e⟩ := vp_in_of h (by decide)
  rcases (show j = 0 ∨ j = 1 ∨ j = 2 by omega) with rfl | rfl | rfl
  · exact Or.inl e
  · exact Or.inr (Or.inl e)
  · exact Or.inr (Or.inr e)
theorem zix_6 {i : Int32} (h : vp_in i 6) : i = nI 0 ∨ i = nI 1 ∨ i = nI 2 ∨ i = nI 3 ∨ i = nI 4 ∨ i = nI 5 := by
  obtain ⟨j, hj, e⟩ := vp_in_of h (by decide)
  rcases (show j = 0 ∨ j = 1 ∨ j = 2 ∨ j = 3 ∨ j = 4 ∨ j = 5 by omega) with rfl | rfl | rfl | rfl | rfl | rfl
  · exact Or.inl e
  · exact Or.inr (Or.inl e)
  · exact Or.inr (Or.inr (Or.inl e))
  · exact Or.inr (Or.inr (Or.inr (Or.inl e)))
  · exact Or.inr (Or.inr (Or.inr (Or.inr (Or.inl e))))
  · exact Or.inr (Or.inr (Or.inr (Or.inr (Or.inr e))))
abbrev zT (K : Nat → ClassId) : List (ClassId × FieldType) := [(K 0, .int), (K 1, .double), (K 2, .char), (K 3, .long), (K 4, .boolean), (K 5, .object R_Ru), (K 6, .object R_Ga)]
/-- a call's answer, taken apart -/
def zl1 {α β : Type} (x : α) (k : α → β) : β := k x
theorem zl1_eq {α β : Type} {x a : α} {k : α → β} (e : x = a) : zl1 x k = k a := e ▸ rfl
def zl2 {α β γ : Type} (x : α × β) (k : α → β → γ) : γ := k x.1 x.2
theorem zl2_eq {α β γ : Type} {x : α × β} {a : α} {b : β} {k : α → β → γ} (e : x = (a, b)) : zl2 x k = k a b := e ▸ rfl
/-- a boolean's number -/
def zb (v : Int32) : Prop := v = 0 ∨ v = 1
theorem zb_n {v : Int32} (h : zb v) : narrow .boolean (.int v) = .int v := by rcases h with rfl | rfl <;> rfl
theorem zb_f {v : Int32} (h : zb v) : fits .boolean (.int v) = true := by rcases h with rfl | rfl <;> rfl
theorem zin_c {i : Int32} {n : Nat} (h : (decide (0 ≤ i.toInt) && decide (i.toInt < n)) = true) : vp_in i n := vp_in_iff.mpr (by simpa using h)
