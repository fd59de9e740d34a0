-- RuleTracer.isWithin(II)Z: reads [], changes []
abbrev w_Tr_isWithin (K : Nat → ClassId)   (u : Unit) : va_W := []
abbrev rm_Tr_isWithin : Room := { frames := 0, cells := 0, slots := 0, locals := 0 }
abbrev wy_Tr_isWithin : List Cond := .code y_Tr_isWithin b_Tr_isWithin 2 (some .boolean) :: zWT
def WP_Tr_isWithin (x0 : Int32) (x1 : Int32) (Q : Int32 → Unit → Prop) : Prop := ((x0 < 0) → Q (0 : Int32) ()) ∧ ((¬ x0 < 0) → ((x1 ≤ x0) → Q (0 : Int32) ()) ∧ ((¬ x1 ≤ x0) → Q (1 : Int32) ()))
set_option maxHeartbeats 4000000 in
set_option maxRecDepth 100000 in
theorem cw_Tr_isWithin (l : Launch) (D : va_G) (K : Nat → ClassId)  (x0 : Int32) (x1 : Int32) {Q : Int32 → Unit → Prop} (hS0 : WP_Tr_isWithin x0 x1 Q) : zCi l y_Tr_isWithin wy_Tr_isWithin rm_Tr_isWithin D zcl (zT K) [.int x0, .int x1] (w_Tr_isWithin K ()) (w_Tr_isWithin K) Q 0 0 := by
  refine z_meti (cc := b_Tr_isWithin) (maxL := 2) (ret := (some .boolean)) (by decide) rfl (Nat.le_of_ble_eq_true rfl) ?_
  intro p e s m args below meth c A C hr hlk hnm
  refine z_lpick (lv' := [(0, .int x0), (1, .int x1)]) [0, 1] rfl ?_
  refine z_weq (ws' := []) rfl ?_
  refine z_iload_n C d_Tr_isWithin_0 rfl 0 rfl ?_
  refine z_if_lt (tgt := 13) C d_Tr_isWithin_1 (by decide) (fun c1 => ?_) (fun c1 => ?_)
  · have hS2 := hS0.1 c1
    refine z_iconst (v := (0 : Int32)) C d_Tr_isWithin_13 (by decide) ?_
    exact z_zret C hr rfl hlk () rfl hS2 d_Tr_isWithin_14
  · have hS2 := hS0.2 c1
    refine z_iload_n C d_Tr_isWithin_4 rfl 0 rfl ?_
    refine z_iload_n C d_Tr_isWithin_5 rfl 1 rfl ?_
    refine z_icmp_ge (tgt := 13) C d_Tr_isWithin_6 (by decide) (fun c3 => ?_) (fun c3 => ?_)
    · have hS4 := hS2.1 c3
      refine z_iconst (v := (0 : Int32)) C d_Tr_isWithin_13 (by decide) ?_
      exact z_zret C hr rfl hlk () rfl hS4 d_Tr_isWithin_14
    · have hS4 := hS2.2 c3
      refine z_iconst (v := (1 : Int32)) C d_Tr_isWithin_9 (by decide) ?_
      refine z_goto (tgt := 14) C d_Tr_isWithin_10 (by decide) ?_
      exact z_zret C hr rfl hlk () rfl hS4 d_Tr_isWithin_14
def s_Tr_isWithin (x0 : Int32) (x1 : Int32) : Int32 := (if x0 < 0 then (0 : Int32) else (if x1 ≤ x0 then (0 : Int32) else (1 : Int32)))
set_option maxRecDepth 100000 in
theorem v_Tr_isWithin (x0 : Int32) (x1 : Int32) : WP_Tr_isWithin x0 x1 (fun r u => s_Tr_isWithin x0 x1 = r) := by
  obtain ⟨tgt, f0⟩ : ∃ tgt, s_Tr_isWithin x0 x1 = tgt := ⟨_, rfl⟩
  rw [f0]
  unfold s_Tr_isWithin at f0
  unfold WP_Tr_isWithin
  refine ⟨fun c1 => ?_, fun c1 => ?_⟩
  · have f1 := Eq.trans (Eq.symm (if_pos c1)) f0
    exact f1.symm
  · have f1 := Eq.trans (Eq.symm (if_neg c1)) f0
    refine ⟨fun c3 => ?_, fun c3 => ?_⟩
    · have f2 := Eq.trans (Eq.symm (if_pos c3)) f1
      exact f2.symm
    · have f2 := Eq.trans (Eq.symm (if_neg c3)) f1
      exact f2.symm
theorem c_Tr_isWithin (l : Launch) (D : va_G) (K : Nat → ClassId)  (x0 : Int32) (x1 : Int32) : zCi l y_Tr_isWithin wy_Tr_isWithin rm_Tr_isWithin D zcl (zT K) [.int x0, .int x1] (w_Tr_isWithin K ()) (w_Tr_isWithin K) (fun r u => s_Tr_isWithin x0 x1 = r) 0 0 := cw_Tr_isWithin l D K x0 x1 (v_Tr_isWithin x0 x1)
-- RuleTracer.mayBeHanded(D)Z: reads [], changes []
abbrev w_Tr_mayBeHanded (K : Nat → ClassId)   (u : Unit) : va_W := []
abbrev rm_Tr_mayBeHanded : Room := { frames := 0, cells := 0, slots := 0, locals := 0 }
abbrev wy_Tr_mayBeHanded : List Cond := .code y_Tr_mayBeHanded b_Tr_mayBeHanded 2 (some .boolean) :: zWT
def WP_Tr_mayBeHanded (x0 : UInt64) (Q : Int32 → Unit → Prop) : Prop := (((Op.cmpValue (FP.dcmp x0 (13875379345695965184 : UInt64)) .l) < 0) → Q (0 : Int32) ()) ∧ ((¬ (Op.cmpValue (FP.dcmp x0 (13875379345695965184 : UInt64)) .l) < 0) → ((0 < (Op.cmpValue (FP.dcmp x0 (4652007308841189376 : UInt64)) .g)) → Q (0 : Int32) ()) ∧ ((¬ 0 < (Op.cmpValue (FP.dcmp x0 (4652007308841189376 : UInt64)) .g)) → Q (1 : Int32) ()))
set_option maxHeartbeats 4000000 in
set_option maxRecDepth 100000 in
theorem cw_Tr_mayBeHanded (l : Launch) (D : va_G) (K : Nat → ClassId)  (x0 : UInt64) {Q : Int32 → Unit → Prop} (hS0 : WP_Tr_mayBeHanded x0 Q) : zCi l y_Tr_mayBeHanded wy_Tr_mayBeHanded rm_Tr_mayBeHanded D zcl (zT K) [.double x0] (w_Tr_mayBeHanded K ()) (w_Tr_mayBeHanded K) Q 0 0 := by
  refine z_meti (cc := b_Tr_mayBeHanded) (maxL := 2) (ret := (some .boolean)) (by decide) rfl (Nat.le_of_ble_eq_true rfl) ?_
  intro p e s m args below meth c A C hr hlk hnm
  refine z_lpick (lv' := [(0, .double x0)]) [0] rfl ?_
  refine z_weq (ws' := []) rfl ?_
  refine z_dload_n C d_Tr_mayBeHanded_0 rfl 0 rfl ?_
  refine z_ldc2d C d_Tr_mayBeHanded_1 wd_Tr_194 ?_
  refine z_dcmp C d_Tr_mayBeHanded_4 ?_
  refine z_if_lt (tgt := 20) C d_Tr_mayBeHanded_5 (by decide) (fun c1 => ?_) (fun c1 => ?_)
  · have hS2 := hS0.1 c1
    refine z_iconst (v := (0 : Int32)) C d_Tr_mayBeHanded_20 (by decide) ?_
    exact z_zret C hr rfl hlk () rfl hS2 d_Tr_mayBeHanded_21
  · have hS2 := hS0.2 c1
    refine z_dload_n C d_Tr_mayBeHanded_8 rfl 0 rfl ?_
    refine z_ldc2d C d_Tr_mayBeHanded_9 wd_Tr_196 ?_
    refine z_dcmp C d_Tr_mayBeHanded_12 ?_
    refine z_if_gt (tgt := 20) C d_Tr_mayBeHanded_13 (by decide) (fun c3 => ?_) (fun c3 => ?_)
    · have hS4 := hS2.1 c3
      refine z_iconst (v := (0 : Int32)) C d_Tr_mayBeHanded_20 (by decide) ?_
      exact z_zret C hr rfl hlk () rfl hS4 d_Tr_mayBeHanded_21
    · have hS4 := hS2.2 c3
      refine z_iconst (v := (1 : Int32)) C d_Tr_mayBeHanded_16 (by decide) ?_
      refine z_goto (tgt := 21) C d_Tr_mayBeHanded_17 (by decide) ?_
      exact z_zret C hr rfl hlk () rfl hS4 d_Tr_mayBeHanded_21
def s_Tr_mayBeHanded (x0 : UInt64) : Int32 := (if (Op.cmpValue (FP.dcmp x0 (13875379345695965184 : UInt64)) .l) < 0 then (0 : Int32) else (if 0 < (Op.cmpValue (FP.dcmp x0 (4652007308841189376 : UInt64)) .g) then (0 : Int32) else (1 : Int32)))
set_option maxRecDepth 100000 in
theorem v_Tr_mayBeHanded (x0 : UInt64) : WP_Tr_mayBeHanded x0 (fun r u => s_Tr_mayBeHanded x0 = r) := by
  obtain ⟨tgt, f0⟩ : ∃ tgt, s_Tr_mayBeHanded x0 = tgt := ⟨_, rfl⟩
  rw [f0]
  unfold s_Tr_mayBeHanded at f0
  unfold WP_Tr_mayBeHanded
  refine ⟨fun c1 => ?_, fun c1 => ?_⟩
  · have f1 := Eq.trans (Eq.symm (if_pos c1)) f0
    exact f1.symm
  · have f1 := Eq.trans (Eq.symm (if_neg c1)) f0
    refine ⟨fun c3 => ?_, fun c3 => ?_⟩
    · have f2 := Eq.trans (Eq.symm (if_pos c3)) f1
      exact f2.symm
    · have f2 := Eq.trans (Eq.symm (if_neg c3)) f1
      exact f2.symm
theorem c_Tr_mayBeHanded (l : Launch) (D : va_G) (K : Nat → ClassId)  (x0 : UInt64) : zCi l y_Tr_mayBeHanded wy_Tr_mayBeHanded rm_Tr_mayBeHanded D zcl (zT K) [.double x0] (w_Tr_mayBeHanded K ()) (w_Tr_mayBeHanded K) (fun r u => s_Tr_mayBeHanded x0 = r) 0 0 := cw_Tr_mayBeHanded l D K x0 (v_Tr_mayBeHanded x0)
