/-! doubles that stay small -/
/-- a double that is a number of at most 1000000000 in size -/
def zg (x : UInt64) : Prop := x.toNat % 2 ^ 63 ≤ 4741671816366391296
theorem zg_lt {x : UInt64} (h : zg x) : x.toNat % 2 ^ 63 < 1053 * 2 ^ 52 := by unfold zg at h; omega
theorem zg_fin {x : UInt64} (h : zg x) : FP.Core.DFin x := FP.Core.fin_of_lt (zg_lt h) (by omega)
theorem zg_nan {x : UInt64} (h : zg x) : FP.Core.val64 x ≠ .nan := (zg_fin h).ne_nan
theorem z64_iff (r : UInt64) : vf_n64 r ↔ FP.Core.val64 r ≠ .nan := by
  unfold vf_n64
  rw [FP.Core.ne_nan, UInt64.le_iff_toNat_le, FP.Core.mask_toNat]
  exact Iff.rfl
theorem z64_of {r : UInt64} (h : FP.Core.dIsNaN r = false) : vf_n64 r := (z64_iff r).mpr ((FP.Core.notNaN_iff r).mp h)
theorem zg_n {r : UInt64} (h : zg r) : vf_n64 r := (z64_iff r).mpr (zg_nan h)
theorem z64_add {x y : UInt64} (hx : zg x) (hy : zg y) : vf_n64 (FP.dadd x y) := z64_of (FP.Core.not_true (FP.Core.dadd_nan_iff x y) (by
  rintro (h | h | ⟨s, h, _⟩)
  · exact zg_nan hx h
  · exact zg_nan hy h
  · exact (zg_fin hx).ne_inf _ h))
theorem z64_sub {x y : UInt64} (hx : zg x) (hy : zg y) : vf_n64 (FP.dsub x y) := z64_of (FP.Core.not_true (FP.Core.dsub_nan_iff x y) (by
  rintro (h | h | ⟨s, h, _⟩)
  · exact zg_nan hx h
  · exact zg_nan hy h
  · exact (zg_fin hx).ne_inf _ h))
theorem z64_mul {x y : UInt64} (hx : FP.Core.DFin x) (hy : FP.Core.DFin y) : vf_n64 (FP.dmul x y) := z64_of (FP.Core.not_true (FP.Core.dmul_nan_iff x y) (by
  rintro (h | h | ⟨s, h, _⟩ | ⟨s, _, h⟩)
  · exact hx.ne_nan h
  · exact hy.ne_nan h
  · exact hx.ne_inf _ h
  · exact hy.ne_inf _ h))
theorem zcv_l0 (o : Option Ordering) : Op.cmpValue o .l = 0 ↔ o = some .eq := by
  cases o with
  | none => decide
  | some o => cases o <;> decide
theorem z64_div {x y : UInt64} (hx : zg x) (hy : FP.Core.DFin y) (h0 : ¬ Op.cmpValue (FP.dcmp y FP.dconst0) .l = 0) : vf_n64 (FP.ddiv x y) := z64_of (FP.Core.not_true (FP.Core.ddiv_nan_iff x y) (by
  rintro (h | h | ⟨s, t, h, _⟩ | ⟨_, h⟩)
  · exact zg_nan hx h
  · exact hy.ne_nan h
  · exact (zg_fin hx).ne_inf _ h
  · exact h0 ((zcv_l0 _).mpr (FP.Core.zero_iff.mpr h))))
theorem zg_neg {x : UInt64} (h : zg x) : zg (FP.dneg x) := by
  have hv : FP.Core.val64 (FP.dneg x) = FP.Core.negate (FP.Core.val64 x) := FP.val64_dneg x
  have h1 : FP.Core.val64 (FP.dneg x) ≠ .nan := by
    rw [hv]; exact FP.Core.negate_ne_nan (zg_nan h)
  have h2 := FP.Core.zmag_bits h1
  have h3 := FP.Core.zmag_bits (zg_nan h)
  have h4 : FP.Core.zmag FP.Core.b64 (FP.Core.val64 (FP.dneg x)) = FP.Core.zmag FP.Core.b64 (FP.Core.val64 x) := by
    rw [hv]; cases FP.Core.val64 x <;> rfl
  have h5 : (FP.dneg x).toNat % 2 ^ 63 = x.toNat % 2 ^ 63 := by
    have e : FP.Core.unitsOf FP.Core.b64 ((FP.dneg x).toNat % 2 ^ 63) = FP.Core.unitsOf FP.Core.b64 (x.toNat % 2 ^ 63) := by rw [← h2, ← h3, h4]
    have a := (FP.Core.unitsOf_le_iff (f := FP.Core.b64) (m := (FP.dneg x).toNat % 2 ^ 63) (k := x.toNat % 2 ^ 63)).mp (Nat.le_of_eq e)
    have b := (FP.Core.unitsOf_le_iff (f := FP.Core.b64) (k := (FP.dneg x).toNat % 2 ^ 63) (m := x.toNat % 2 ^ 63)).mp (Nat.le_of_eq e.symm)
    omega
  unfold zg
  rw [h5]; exact h
theorem zg_i2d {v : Int32} (h : v.toInt.natAbs ≤ 2 ^ 28) : zg (FP.i2d v) := by
  have : (FP.i2d v).toNat % 2 ^ 63 ≤ 1052 * 2 ^ 52 := FP.Core.fromInt_mag (FP.Core.toNat_i2d v) (j := 28) (K := 1052) h (by omega) (by omega)
  unfold zg
  omega
theorem zg_i2dN {n : Nat} (h : n ≤ 2 ^ 28) : zg (FP.i2d (nI n)) := zg_i2d (by rw [nI_toInt (by omega)]; omega)
theorem zg_c0 : zg FP.dconst0 := by unfold zg; decide
theorem zg_c1 : zg FP.dconst1 := by unfold zg; decide
theorem zg_0 : zg 0 := by unfold zg; decide
theorem zcv_gt (o : Option Ordering) : 0 < Op.cmpValue o .l ↔ o = some .gt := by
  cases o with
  | none => decide
  | some o => cases o <;> decide
theorem zcv_le (o : Option Ordering) : Op.cmpValue o .l ≤ 0 ↔ o ≠ some .gt := by
  cases o with
  | none => decide
  | some o => cases o <;> decide
theorem zcv_nlt (o : Option Ordering) : 0 ≤ Op.cmpValue o .g ↔ o ≠ some .lt := by
  cases o with
  | none => decide
  | some o => cases o <;> decide
theorem zcv_lt (o : Option Ordering) : Op.cmpValue o .g < 0 ↔ o = some .lt := by
  cases o with
  | none => decide
  | some o => cases o <;> decide
theorem zcv_ge (o : Option Ordering) : 0 ≤ Op.cmpValue o .l ↔ o = some .gt ∨ o = some .eq := by
  cases o with
  | none => decide
  | some o => cases o <;> decide
theorem zcv_llt (o : Option Ordering) : Op.cmpValue o .l < 0 ↔ ¬ (o = some .gt ∨ o = some .eq) := by
  cases o with
  | none => decide
  | some o => cases o <;> decide
theorem zcv_ggt (o : Option Ordering) : 0 < Op.cmpValue o .g ↔ ¬ (o = some .lt ∨ o = some .eq) := by
  cases o with
  | none => decide
  | some o => cases o <;> decide
theorem zcv_gle (o : Option Ordering) : Op.cmpValue o .g ≤ 0 ↔ (o = some .lt ∨ o = some .eq) := by
  cases o with
  | none => decide
  | some o => cases o <;> decide
theorem zdk {x y : UInt64} (hx : FP.Core.val64 x ≠ .nan) (hy : FP.Core.val64 y ≠ .nan) : FP.dcmp x y = some (compare (FP.Core.dkey x) (FP.Core.dkey y)) := FP.Core.dcmp_key hx hy
theorem zg_bound {r : UInt64} (B : UInt64) (hB : B.toNat ≤ 4741671816366391296) (hr : vf_n64 r) (h1 : FP.dcmp r B ≠ some .gt) (h2 : FP.dcmp r (B + 9223372036854775808) ≠ some .lt) : zg r := by
  have hn := (z64_iff r).mp hr
  have hBn : FP.Core.val64 B ≠ .nan := (FP.Core.ne_nan B).mpr (by omega)
  have e : (B + 9223372036854775808 : UInt64).toNat = B.toNat + 9223372036854775808 := by
    rw [UInt64.toNat_add]
    have : (9223372036854775808 : UInt64).toNat = 9223372036854775808 := rfl
    rw [this]; omega
  have hBm : FP.Core.val64 (B + 9223372036854775808) ≠ .nan := (FP.Core.ne_nan _).mpr (by rw [e]; omega)
  rw [zdk hn hBn] at h1
  rw [zdk hn hBm] at h2
  have a1 : ¬ FP.Core.dkey B < FP.Core.dkey r := fun h => h1 (congrArg some ((FP.Core.compare_gt_iff _ _).mpr h))
  have a2 : ¬ FP.Core.dkey r < FP.Core.dkey (B + 9223372036854775808) := fun h => h2 (congrArg some ((FP.Core.compare_lt_iff _ _).mpr h))
  have hl := r.toNat_lt
  unfold FP.Core.dkey at a1 a2
  rw [e] at a2
  unfold zg
  split at a1 <;> split at a1 <;> split at a2 <;> split at a2 <;> omega
theorem zg_1e9 {r : UInt64} (hr : vf_n64 r) (h1 : FP.dcmp r 4741671816366391296 ≠ some .gt) (h2 : FP.dcmp r 13965043853221167104 ≠ some .lt) : zg r := zg_bound 4741671816366391296 (by decide) hr h1 h2
theorem zg_out {r : UInt64} (hr : vf_n64 r) (h : s_Rn_isOutOfBounds r = 0) : zg r := by
  unfold s_Rn_isOutOfBounds at h
  split at h
  · exact absurd h (by decide)
  · rename_i h1
    split at h
    · rename_i h2
      exact zg_1e9 hr (fun q => h1 ((zcv_gt _).mpr q)) ((zcv_nlt _).mp h2)
    · exact absurd h (by decide)
/-- of two good doubles none is out of order -/
theorem zg_lt_ge {x y : UInt64} (hx : vf_n64 x) (hy : vf_n64 y) : FP.dcmp x y = some .lt ↔ ¬ (FP.dcmp x y = some .gt ∨ FP.dcmp x y = some .eq) := by
  rw [zdk ((z64_iff x).mp hx) ((z64_iff y).mp hy)]
  cases compare (FP.Core.dkey x) (FP.Core.dkey y) <;> simp
