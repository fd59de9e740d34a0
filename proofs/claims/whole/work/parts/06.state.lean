/-! words for the cells -/
abbrev zo (ci a : Nat) (fs : List Value) : Nat × va_E := (a, .inr (ci, fs))
abbrev zaI (K : Nat → ClassId) (a n : Nat) (f : Nat → Int32) : Nat × va_E := (a, .inl (K 0, n, .inl f))
abbrev zaD (K : Nat → ClassId) (a n : Nat) (f : Nat → UInt64) : Nat × va_E := (a, .inl (K 1, n, .inr (.inr (.inr (.inl f)))))
abbrev zaC (K : Nat → ClassId) (a n : Nat) (f : Nat → Int32) : Nat × va_E := (a, .inl (K 2, n, .inl f))
abbrev zaL (K : Nat → ClassId) (a n : Nat) (f : Nat → Int64) : Nat × va_E := (a, .inl (K 3, n, .inr (.inl f)))
abbrev zaZ (K : Nat → ClassId) (a n : Nat) (f : Nat → Int32) : Nat × va_E := (a, .inl (K 4, n, .inl f))
abbrev zT (K : Nat → ClassId) : List (ClassId × FieldType) := [(K 0, .int), (K 1, .double), (K 2, .char), (K 3, .long), (K 4, .boolean), (K 5, .object R_Ru), (K 6, .object R_Ga)]
/-- a boolean's number -/
def zb (v : Int32) : Prop := v = 0 ∨ v = 1
theorem zb_n {v : Int32} (h : zb v) : narrow .boolean (.int v) = .int v := by rcases h with rfl | rfl <;> rfl
theorem zb_f {v : Int32} (h : zb v) : fits .boolean (.int v) = true := by rcases h with rfl | rfl <;> rfl
theorem zin_c {i : Int32} {n : Nat} (h : (decide (0 ≤ i.toInt) && decide (i.toInt < n)) = true) : vp_in i n := vp_in_iff.mpr (by simpa using h)
