-- RuleTracer$Runner.slotOf(II)I: reads [], changes []
abbrev w_Rn_slotOf (K : Nat → ClassId)   (u : Unit) : va_W := []
abbrev rm_Rn_slotOf : Room := { frames := 0, cells := 0, slots := 0, locals := 0 }
abbrev wy_Rn_slotOf : List Cond := .code y_Rn_slotOf b_Rn_slotOf 2 (some .int) :: zWT
def WP_Rn_slotOf (x0 : Int32) (x1 : Int32) (Q : Int32 → Unit → Prop) : Prop := (((3 : Int32) ≤ x0) → Q (x0 + (x1 * (3 : Int32))) ()) ∧ ((¬ (3 : Int32) ≤ x0) → Q x0 ())
set_option maxHeartbeats 4000000 in
set_option maxRecDepth 100000 in
theorem cw_Rn_slotOf (l : Launch) (D : va_G) (K : Nat → ClassId)  (x0 : Int32) (x1 : Int32) {Q : Int32 → Unit → Prop} (hS0 : WP_Rn_slotOf x0 x1 Q) : zCi l y_Rn_slotOf wy_Rn_slotOf rm_Rn_slotOf D zcl (zT K) [.int x0, .int x1] (w_Rn_slotOf K ()) (w_Rn_slotOf K) Q 0 0 := by
  refine z_meti (cc := b_Rn_slotOf) (maxL := 2) (ret := (some .int)) (by decide) rfl (Nat.le_of_ble_eq_true rfl) ?_
  intro p e s m args below meth c A C hr hlk hnm
  refine z_lpick (lv' := [(0, .int x0), (1, .int x1)]) [0, 1] rfl ?_
  refine z_weq (ws' := []) rfl ?_
  refine z_iload_n C d_Rn_slotOf_0 rfl 0 rfl ?_
  refine z_iconst (v := (3 : Int32)) C d_Rn_slotOf_1 (by decide) ?_
  refine z_icmp_ge (tgt := 9) C d_Rn_slotOf_2 (by decide) (fun c1 => ?_) (fun c1 => ?_)
  · have hS2 := hS0.1 c1
    refine z_iload_n C d_Rn_slotOf_9 rfl 0 rfl ?_
    refine z_iload_n C d_Rn_slotOf_10 rfl 1 rfl ?_
    refine z_iconst (v := (3 : Int32)) C d_Rn_slotOf_11 (by decide) ?_
    refine z_imul C d_Rn_slotOf_12 ?_
    refine z_iadd C d_Rn_slotOf_13 ?_
    exact z_iret C hr hlk () rfl hS2 d_Rn_slotOf_14
  · have hS2 := hS0.2 c1
    refine z_iload_n C d_Rn_slotOf_5 rfl 0 rfl ?_
    refine z_goto (tgt := 14) C d_Rn_slotOf_6 (by decide) ?_
    exact z_iret C hr hlk () rfl hS2 d_Rn_slotOf_14
def s_Rn_slotOf (x0 : Int32) (x1 : Int32) : Int32 := (if (3 : Int32) ≤ x0 then x0 + (x1 * (3 : Int32)) else x0)
set_option maxRecDepth 100000 in
theorem v_Rn_slotOf (x0 : Int32) (x1 : Int32) : WP_Rn_slotOf x0 x1 (fun r u => s_Rn_slotOf x0 x1 = r) := by
  obtain ⟨tgt, f0⟩ : ∃ tgt, s_Rn_slotOf x0 x1 = tgt := ⟨_, rfl⟩
  rw [f0]
  unfold s_Rn_slotOf at f0
  unfold WP_Rn_slotOf
  refine ⟨fun c1 => ?_, fun c1 => ?_⟩
  · have f1 := Eq.trans (Eq.symm (if_pos c1)) f0
    exact f1.symm
  · have f1 := Eq.trans (Eq.symm (if_neg c1)) f0
    exact f1.symm
theorem c_Rn_slotOf (l : Launch) (D : va_G) (K : Nat → ClassId)  (x0 : Int32) (x1 : Int32) : zCi l y_Rn_slotOf wy_Rn_slotOf rm_Rn_slotOf D zcl (zT K) [.int x0, .int x1] (w_Rn_slotOf K ()) (w_Rn_slotOf K) (fun r u => s_Rn_slotOf x0 x1 = r) 0 0 := cw_Rn_slotOf l D K x0 x1 (v_Rn_slotOf x0 x1)
-- RuleTracer$Runner.isOutOfBounds(D)Z: reads [], changes []
abbrev w_Rn_isOutOfBounds (K : Nat → ClassId)   (u : Unit) : va_W := []
abbrev rm_Rn_isOutOfBounds : Room := { frames := 0, cells := 0, slots := 0, locals := 0 }
abbrev wy_Rn_isOutOfBounds : List Cond := .code y_Rn_isOutOfBounds b_Rn_isOutOfBounds 2 (some .boolean) :: zWT
def WP_Rn_isOutOfBounds (x0 : UInt64) (Q : Int32 → Unit → Prop) : Prop := ((0 < (Op.cmpValue (FP.dcmp x0 (4741671816366391296 : UInt64)) .l)) → Q (1 : Int32) ()) ∧ ((¬ 0 < (Op.cmpValue (FP.dcmp x0 (4741671816366391296 : UInt64)) .l)) → ((0 ≤ (Op.cmpValue (FP.dcmp x0 (13965043853221167104 : UInt64)) .g)) → Q (0 : Int32) ()) ∧ ((¬ 0 ≤ (Op.cmpValue (FP.dcmp x0 (13965043853221167104 : UInt64)) .g)) → Q (1 : Int32) ()))
set_option maxHeartbeats 4000000 in
set_option maxRecDepth 100000 in
theorem cw_Rn_isOutOfBounds (l : Launch) (D : va_G) (K : Nat → ClassId)  (x0 : UInt64) {Q : Int32 → Unit → Prop} (hS0 : WP_Rn_isOutOfBounds x0 Q) : zCi l y_Rn_isOutOfBounds wy_Rn_isOutOfBounds rm_Rn_isOutOfBounds D zcl (zT K) [.double x0] (w_Rn_isOutOfBounds K ()) (w_Rn_isOutOfBounds K) Q 0 0 := by
  refine z_meti (cc := b_Rn_isOutOfBounds) (maxL := 2) (ret := (some .boolean)) (by decide) rfl (Nat.le_of_ble_eq_true rfl) ?_
  intro p e s m args below meth c A C hr hlk hnm
  refine z_lpick (lv' := [(0, .double x0)]) [0] rfl ?_
  refine z_weq (ws' := []) rfl ?_
  refine z_dload_n C d_Rn_isOutOfBounds_0 rfl 0 rfl ?_
  refine z_ldc2d C d_Rn_isOutOfBounds_1 wd_Rn_144 ?_
  refine z_dcmp C d_Rn_isOutOfBounds_4 ?_
  refine z_if_gt (tgt := 16) C d_Rn_isOutOfBounds_5 (by decide) (fun c1 => ?_) (fun c1 => ?_)
  · have hS2 := hS0.1 c1
    refine z_iconst (v := (1 : Int32)) C d_Rn_isOutOfBounds_16 (by decide) ?_
    refine z_goto (tgt := 21) C d_Rn_isOutOfBounds_17 (by decide) ?_
    exact z_zret C hr rfl hlk () rfl hS2 d_Rn_isOutOfBounds_21
  · have hS2 := hS0.2 c1
    refine z_dload_n C d_Rn_isOutOfBounds_8 rfl 0 rfl ?_
    refine z_ldc2d C d_Rn_isOutOfBounds_9 wd_Rn_146 ?_
    refine z_dcmp C d_Rn_isOutOfBounds_12 ?_
    refine z_if_ge (tgt := 20) C d_Rn_isOutOfBounds_13 (by decide) (fun c3 => ?_) (fun c3 => ?_)
    · have hS4 := hS2.1 c3
      refine z_iconst (v := (0 : Int32)) C d_Rn_isOutOfBounds_20 (by decide) ?_
      exact z_zret C hr rfl hlk () rfl hS4 d_Rn_isOutOfBounds_21
    · have hS4 := hS2.2 c3
      refine z_iconst (v := (1 : Int32)) C d_Rn_isOutOfBounds_16 (by decide) ?_
      refine z_goto (tgt := 21) C d_Rn_isOutOfBounds_17 (by decide) ?_
      exact z_zret C hr rfl hlk () rfl hS4 d_Rn_isOutOfBounds_21
def s_Rn_isOutOfBounds (x0 : UInt64) : Int32 := (if 0 < (Op.cmpValue (FP.dcmp x0 (4741671816366391296 : UInt64)) .l) then (1 : Int32) else (if 0 ≤ (Op.cmpValue (FP.dcmp x0 (13965043853221167104 : UInt64)) .g) then (0 : Int32) else (1 : Int32)))
set_option maxRecDepth 100000 in
theorem v_Rn_isOutOfBounds (x0 : UInt64) : WP_Rn_isOutOfBounds x0 (fun r u => s_Rn_isOutOfBounds x0 = r) := by
  obtain ⟨tgt, f0⟩ : ∃ tgt, s_Rn_isOutOfBounds x0 = tgt := ⟨_, rfl⟩
  rw [f0]
  unfold s_Rn_isOutOfBounds at f0
  unfold WP_Rn_isOutOfBounds
  refine ⟨fun c1 => ?_, fun c1 => ?_⟩
  · have f1 := Eq.trans (Eq.symm (if_pos c1)) f0
    exact f1.symm
  · have f1 := Eq.trans (Eq.symm (if_neg c1)) f0
    refine ⟨fun c3 => ?_, fun c3 => ?_⟩
    · have f2 := Eq.trans (Eq.symm (if_pos c3)) f1
      exact f2.symm
    · have f2 := Eq.trans (Eq.symm (if_neg c3)) f1
      exact f2.symm
theorem c_Rn_isOutOfBounds (l : Launch) (D : va_G) (K : Nat → ClassId)  (x0 : UInt64) : zCi l y_Rn_isOutOfBounds wy_Rn_isOutOfBounds rm_Rn_isOutOfBounds D zcl (zT K) [.double x0] (w_Rn_isOutOfBounds K ()) (w_Rn_isOutOfBounds K) (fun r u => s_Rn_isOutOfBounds x0 = r) 0 0 := cw_Rn_isOutOfBounds l D K x0 (v_Rn_isOutOfBounds x0)
-- RuleTracer$Runner.fail()V: reads ['t.over', 't.failed'], changes ['t.over', 't.failed']
abbrev w_Rn_fail (K : Nat → ClassId) (q_t : Nat) (q_t_stack : Nat) (q_t_variables : Nat) (q_t_gatherers : Nat) (q_t_records : Nat) (t_time : Int32) (t_dropped : Int32) (t_thread : Int32) (t_handedA : UInt64) (t_handedB : UInt64) (t_handedC : UInt64) (t_top : Int32) (t_met : Int32) (u : Int32 × Int32) : va_W := [zo 4 q_t [.ref q_t_stack, .ref q_t_variables, .ref q_t_gatherers, .ref q_t_records, .int t_time, .int t_dropped, .int t_thread, .double t_handedA, .double t_handedB, .double t_handedC, .int t_top, .int u.1, .int u.2, .int t_met]]
abbrev rm_Rn_fail : Room := { frames := 0, cells := 0, slots := 0, locals := 0 }
abbrev wy_Rn_fail : List Cond := .code y_Rn_fail b_Rn_fail 1 none :: zWT
def WP_Rn_fail (t_over : Int32) (t_failed : Int32) (Q : (Int32 × Int32) → Prop) : Prop := Q ((1 : Int32), (1 : Int32))
set_option maxHeartbeats 4000000 in
set_option maxRecDepth 100000 in
theorem cw_Rn_fail (l : Launch) (D : va_G) (K : Nat → ClassId) (q_t : Nat) (q_t_stack : Nat) (q_t_variables : Nat) (q_t_gatherers : Nat) (q_t_records : Nat) (t_time : Int32) (t_dropped : Int32) (t_thread : Int32) (t_handedA : UInt64) (t_handedB : UInt64) (t_handedC : UInt64) (t_top : Int32) (t_over : Int32) (t_failed : Int32) (t_met : Int32) {Q : (Int32 × Int32) → Prop} (hS0 : WP_Rn_fail t_over t_failed Q) : zCv l y_Rn_fail wy_Rn_fail rm_Rn_fail D zcl (zT K) [.ref q_t] (w_Rn_fail K q_t q_t_stack q_t_variables q_t_gatherers q_t_records t_time t_dropped t_thread t_handedA t_handedB t_handedC t_top t_met (t_over, t_failed)) (w_Rn_fail K q_t q_t_stack q_t_variables q_t_gatherers q_t_records t_time t_dropped t_thread t_handedA t_handedB t_handedC t_top t_met) Q 0 0 := by
  refine z_metv (cc := b_Rn_fail) (maxL := 1) (ret := none) (by decide) rfl (Nat.le_of_ble_eq_true rfl) ?_
  intro p e s m args below meth c A C hr hlk hnm
  refine z_lpick (lv' := [(0, .ref q_t)]) [0] rfl ?_
  refine z_weq (ws' := [zo 4 q_t [.ref q_t_stack, .ref q_t_variables, .ref q_t_gatherers, .ref q_t_records, .int t_time, .int t_dropped, .int t_thread, .double t_handedA, .double t_handedB, .double t_handedC, .int t_top, .int t_over, .int t_failed, .int t_met]]) rfl ?_
  refine z_aload_n C d_Rn_fail_0 rfl 0 rfl ?_
  refine z_iconst (v := (1 : Int32)) C d_Rn_fail_1 (by decide) ?_
  refine z_put (ty := .boolean) (ws' := [zo 4 q_t [.ref q_t_stack, .ref q_t_variables, .ref q_t_gatherers, .ref q_t_records, .int t_time, .int t_dropped, .int t_thread, .double t_handedA, .double t_handedB, .double t_handedC, .int t_top, .int t_over, .int (1 : Int32), .int t_met]]) C ty_Rn to_Rn nm_Rn 0 rfl rfl in_Rn 12 (by decide) rfl wf_Rn_58 rfl rfl rfl rfl (Nat.le_of_ble_eq_true rfl) rfl d_Rn_fail_2 ?_
  refine z_aload_n C d_Rn_fail_5 rfl 0 rfl ?_
  refine z_iconst (v := (1 : Int32)) C d_Rn_fail_6 (by decide) ?_
  refine z_put (ty := .boolean) (ws' := [zo 4 q_t [.ref q_t_stack, .ref q_t_variables, .ref q_t_gatherers, .ref q_t_records, .int t_time, .int t_dropped, .int t_thread, .double t_handedA, .double t_handedB, .double t_handedC, .int t_top, .int (1 : Int32), .int (1 : Int32), .int t_met]]) C ty_Rn to_Rn nm_Rn 0 rfl rfl in_Rn 11 (by decide) rfl wf_Rn_54 rfl rfl rfl rfl (Nat.le_of_ble_eq_true rfl) rfl d_Rn_fail_7 ?_
  exact z_vret C hr hlk ((1 : Int32), (1 : Int32)) rfl hS0 d_Rn_fail_10
def s_Rn_fail (t_over : Int32) (t_failed : Int32) : Int32 × Int32 := ((1 : Int32), (1 : Int32))
set_option maxRecDepth 100000 in
theorem v_Rn_fail (t_over : Int32) (t_failed : Int32) : WP_Rn_fail t_over t_failed (fun u => s_Rn_fail t_over t_failed = u) := by
  obtain ⟨tgt, f0⟩ : ∃ tgt, s_Rn_fail t_over t_failed = tgt := ⟨_, rfl⟩
  rw [f0]
  unfold s_Rn_fail at f0
  unfold WP_Rn_fail
  exact f0.symm
theorem c_Rn_fail (l : Launch) (D : va_G) (K : Nat → ClassId) (q_t : Nat) (q_t_stack : Nat) (q_t_variables : Nat) (q_t_gatherers : Nat) (q_t_records : Nat) (t_time : Int32) (t_dropped : Int32) (t_thread : Int32) (t_handedA : UInt64) (t_handedB : UInt64) (t_handedC : UInt64) (t_top : Int32) (t_over : Int32) (t_failed : Int32) (t_met : Int32) : zCv l y_Rn_fail wy_Rn_fail rm_Rn_fail D zcl (zT K) [.ref q_t] (w_Rn_fail K q_t q_t_stack q_t_variables q_t_gatherers q_t_records t_time t_dropped t_thread t_handedA t_handedB t_handedC t_top t_met (t_over, t_failed)) (w_Rn_fail K q_t q_t_stack q_t_variables q_t_gatherers q_t_records t_time t_dropped t_thread t_handedA t_handedB t_handedC t_top t_met) (fun u => s_Rn_fail t_over t_failed = u) 0 0 := cw_Rn_fail l D K q_t q_t_stack q_t_variables q_t_gatherers q_t_records t_time t_dropped t_thread t_handedA t_handedB t_handedC t_top t_over t_failed t_met (v_Rn_fail t_over t_failed)
-- RuleTracer$Runner.push(D)V: reads ['t.top', 't.stack'], changes ['t.top', 't.stack']
abbrev w_Rn_push (K : Nat → ClassId) (q_t : Nat) (q_t_stack : Nat) (q_t_variables : Nat) (q_t_gatherers : Nat) (q_t_records : Nat) (t_time : Int32) (t_dropped : Int32) (t_thread : Int32) (t_handedA : UInt64) (t_handedB : UInt64) (t_handedC : UInt64) (t_over : Int32) (t_failed : Int32) (t_met : Int32) (u : Int32 × (Nat → UInt64)) : va_W := [zo 4 q_t [.ref q_t_stack, .ref q_t_variables, .ref q_t_gatherers, .ref q_t_records, .int t_time, .int t_dropped, .int t_thread, .double t_handedA, .double t_handedB, .double t_handedC, .int u.1, .int t_over, .int t_failed, .int t_met], zaD K q_t_stack 48 u.2]
abbrev rm_Rn_push : Room := { frames := 0, cells := 0, slots := 0, locals := 0 }
abbrev wy_Rn_push : List Cond := .code y_Rn_push b_Rn_push 3 none :: zWT
def WP_Rn_push (t_top : Int32) (t_stack : Nat → UInt64) (x1 : UInt64) (Q : (Int32 × (Nat → UInt64)) → Prop) : Prop := (((48 : Int32) ≤ t_top) → Q (t_top, t_stack)) ∧ ((¬ (48 : Int32) ≤ t_top) → vp_in t_top 48 ∧ Q (t_top + (1 : Int32), vf_upd t_stack t_top.toNatClampNeg x1))
set_option maxHeartbeats 4000000 in
set_option maxRecDepth 100000 in
theorem cw_Rn_push (l : Launch) (D : va_G) (K : Nat → ClassId) (q_t : Nat) (q_t_stack : Nat) (q_t_variables : Nat) (q_t_gatherers : Nat) (q_t_records : Nat) (t_time : Int32) (t_dropped : Int32) (t_thread : Int32) (t_handedA : UInt64) (t_handedB : UInt64) (t_handedC : UInt64) (t_top : Int32) (t_over : Int32) (t_failed : Int32) (t_met : Int32) (t_stack : Nat → UInt64) (x1 : UInt64) {Q : (Int32 × (Nat → UInt64)) → Prop} (hS0 : WP_Rn_push t_top t_stack x1 Q) : zCv l y_Rn_push wy_Rn_push rm_Rn_push D zcl (zT K) [.ref q_t, .double x1] (w_Rn_push K q_t q_t_stack q_t_variables q_t_gatherers q_t_records t_time t_dropped t_thread t_handedA t_handedB t_handedC t_over t_failed t_met (t_top, t_stack)) (w_Rn_push K q_t q_t_stack q_t_variables q_t_gatherers q_t_records t_time t_dropped t_thread t_handedA t_handedB t_handedC t_over t_failed t_met) Q 0 0 := by
  refine z_metv (cc := b_Rn_push) (maxL := 3) (ret := none) (by decide) rfl (Nat.le_of_ble_eq_true rfl) ?_
  intro p e s m args below meth c A C hr hlk hnm
  refine z_lpick (lv' := [(0, .ref q_t), (1, .double x1)]) [0, 1] rfl ?_
  refine z_weq (ws' := [zo 4 q_t [.ref q_t_stack, .ref q_t_variables, .ref q_t_gatherers, .ref q_t_records, .int t_time, .int t_dropped, .int t_thread, .double t_handedA, .double t_handedB, .double t_handedC, .int t_top, .int t_over, .int t_failed, .int t_met], zaD K q_t_stack 48 t_stack]) rfl ?_
  refine z_aload_n C d_Rn_push_0 rfl 0 rfl ?_
  refine z_get C 0 rfl rfl in_Rn 10 (by decide) rfl wf_Rn_51 rfl d_Rn_push_1 ?_
  refine z_aload_n C d_Rn_push_4 rfl 0 rfl ?_
  refine z_get C 0 rfl rfl in_Rn 0 (by decide) rfl wf_Rn_9 rfl d_Rn_push_5 ?_
  refine z_alen (v := (48 : Int32)) C 1 1 rfl rfl rfl d_Rn_push_8 ?_
  refine z_icmp_ge (tgt := 32) C d_Rn_push_9 (by decide) (fun c1 => ?_) (fun c1 => ?_)
  · have hS2 := hS0.1 c1
    exact z_vret C hr hlk (t_top, t_stack) rfl hS2 d_Rn_push_32
  · have hS2 := hS0.2 c1
    refine z_aload_n C d_Rn_push_12 rfl 0 rfl ?_
    refine z_get C 0 rfl rfl in_Rn 0 (by decide) rfl wf_Rn_9 rfl d_Rn_push_13 ?_
    refine z_aload_n C d_Rn_push_16 rfl 0 rfl ?_
    refine z_get C 0 rfl rfl in_Rn 10 (by decide) rfl wf_Rn_51 rfl d_Rn_push_17 ?_
    refine z_dload_n C d_Rn_push_20 rfl 1 rfl ?_
    refine z_dast (ws' := [zo 4 q_t [.ref q_t_stack, .ref q_t_variables, .ref q_t_gatherers, .ref q_t_records, .int t_time, .int t_dropped, .int t_thread, .double t_handedA, .double t_handedB, .double t_handedC, .int t_top, .int t_over, .int t_failed, .int t_met], zaD K q_t_stack 48 (vf_upd t_stack t_top.toNatClampNeg x1)]) C 1 1 rfl rfl hS2.1 rfl d_Rn_push_21 ?_
    have hS3 := hS2.2
    refine z_aload_n C d_Rn_push_22 rfl 0 rfl ?_
    refine z_dup C d_Rn_push_23 rfl ?_
    refine z_get C 0 rfl rfl in_Rn 10 (by decide) rfl wf_Rn_51 rfl d_Rn_push_24 ?_
    refine z_iconst (v := (1 : Int32)) C d_Rn_push_27 (by decide) ?_
    refine z_iadd C d_Rn_push_28 ?_
    refine z_put (ty := .int) (ws' := [zo 4 q_t [.ref q_t_stack, .ref q_t_variables, .ref q_t_gatherers, .ref q_t_records, .int t_time, .int t_dropped, .int t_thread, .double t_handedA, .double t_handedB, .double t_handedC, .int (t_top + (1 : Int32)), .int t_over, .int t_failed, .int t_met], zaD K q_t_stack 48 (vf_upd t_stack t_top.toNatClampNeg x1)]) C ty_Rn to_Rn nm_Rn 0 rfl rfl in_Rn 10 (by decide) rfl wf_Rn_51 rfl rfl rfl rfl (Nat.le_of_ble_eq_true rfl) rfl d_Rn_push_29 ?_
    exact z_vret C hr hlk (t_top + (1 : Int32), vf_upd t_stack t_top.toNatClampNeg x1) rfl hS3 d_Rn_push_32
def s_Rn_push (t_top : Int32) (t_stack : Nat → UInt64) (x1 : UInt64) : Int32 × (Nat → UInt64) := (if (48 : Int32) ≤ t_top then (t_top, t_stack) else (t_top + (1 : Int32), vf_upd t_stack t_top.toNatClampNeg x1))
def p_Rn_push (t_top : Int32) (t_stack : Nat → UInt64) (x1 : UInt64) : Prop := WP_Rn_push t_top t_stack x1 (fun _ => True)
set_option maxRecDepth 100000 in
theorem v_Rn_push (t_top : Int32) (t_stack : Nat → UInt64) (x1 : UInt64) (hp : p_Rn_push t_top t_stack x1) : WP_Rn_push t_top t_stack x1 (fun u => s_Rn_push t_top t_stack x1 = u) := by
  unfold p_Rn_push WP_Rn_push at hp
  obtain ⟨tgt, f0⟩ : ∃ tgt, s_Rn_push t_top t_stack x1 = tgt := ⟨_, rfl⟩
  rw [f0]
  unfold s_Rn_push at f0
  unfold WP_Rn_push
  refine ⟨fun c1 => ?_, fun c1 => ?_⟩
  · have f1 := Eq.trans (Eq.symm (if_pos c1)) f0
    have g1 := hp.1 c1
    exact f1.symm
  · have f1 := Eq.trans (Eq.symm (if_neg c1)) f0
    have g1 := hp.2 c1
    refine ⟨g1.1, ?_⟩
    have g2 := g1.2
    exact f1.symm
theorem c_Rn_push (l : Launch) (D : va_G) (K : Nat → ClassId) (q_t : Nat) (q_t_stack : Nat) (q_t_variables : Nat) (q_t_gatherers : Nat) (q_t_records : Nat) (t_time : Int32) (t_dropped : Int32) (t_thread : Int32) (t_handedA : UInt64) (t_handedB : UInt64) (t_handedC : UInt64) (t_top : Int32) (t_over : Int32) (t_failed : Int32) (t_met : Int32) (t_stack : Nat → UInt64) (x1 : UInt64) (hp : p_Rn_push t_top t_stack x1) : zCv l y_Rn_push wy_Rn_push rm_Rn_push D zcl (zT K) [.ref q_t, .double x1] (w_Rn_push K q_t q_t_stack q_t_variables q_t_gatherers q_t_records t_time t_dropped t_thread t_handedA t_handedB t_handedC t_over t_failed t_met (t_top, t_stack)) (w_Rn_push K q_t q_t_stack q_t_variables q_t_gatherers q_t_records t_time t_dropped t_thread t_handedA t_handedB t_handedC t_over t_failed t_met) (fun u => s_Rn_push t_top t_stack x1 = u) 0 0 := cw_Rn_push l D K q_t q_t_stack q_t_variables q_t_gatherers q_t_records t_time t_dropped t_thread t_handedA t_handedB t_handedC t_top t_over t_failed t_met t_stack x1 (v_Rn_push t_top t_stack x1 hp)
-- RuleTracer$Runner.pop()D: reads ['t.top', 't.stack'], changes ['t.top']
abbrev w_Rn_pop (K : Nat → ClassId) (q_t : Nat) (q_t_stack : Nat) (q_t_variables : Nat) (q_t_gatherers : Nat) (q_t_records : Nat) (t_time : Int32) (t_dropped : Int32) (t_thread : Int32) (t_handedA : UInt64) (t_handedB : UInt64) (t_handedC : UInt64) (t_over : Int32) (t_failed : Int32) (t_met : Int32) (t_stack : Nat → UInt64) (u : Int32) : va_W := [zo 4 q_t [.ref q_t_stack, .ref q_t_variables, .ref q_t_gatherers, .ref q_t_records, .int t_time, .int t_dropped, .int t_thread, .double t_handedA, .double t_handedB, .double t_handedC, .int u, .int t_over, .int t_failed, .int t_met], zaD K q_t_stack 48 t_stack]
abbrev rm_Rn_pop : Room := { frames := 0, cells := 0, slots := 0, locals := 0 }
abbrev wy_Rn_pop : List Cond := .code y_Rn_pop b_Rn_pop 1 (some .double) :: zWT
def WP_Rn_pop (t_top : Int32) (t_stack : Nat → UInt64) (Q : UInt64 → Int32 → Prop) : Prop := ((0 < t_top) → vp_in (t_top - (1 : Int32)) 48 ∧ Q (t_stack (t_top - (1 : Int32)).toNatClampNeg) (t_top - (1 : Int32))) ∧ ((¬ 0 < t_top) → Q FP.dconst0 t_top)
set_option maxHeartbeats 4000000 in
set_option maxRecDepth 100000 in
theorem cw_Rn_pop (l : Launch) (D : va_G) (K : Nat → ClassId) (q_t : Nat) (q_t_stack : Nat) (q_t_variables : Nat) (q_t_gatherers : Nat) (q_t_records : Nat) (t_time : Int32) (t_dropped : Int32) (t_thread : Int32) (t_handedA : UInt64) (t_handedB : UInt64) (t_handedC : UInt64) (t_top : Int32) (t_over : Int32) (t_failed : Int32) (t_met : Int32) (t_stack : Nat → UInt64) {Q : UInt64 → Int32 → Prop} (hS0 : WP_Rn_pop t_top t_stack Q) : zCd l y_Rn_pop wy_Rn_pop rm_Rn_pop D zcl (zT K) [.ref q_t] (w_Rn_pop K q_t q_t_stack q_t_variables q_t_gatherers q_t_records t_time t_dropped t_thread t_handedA t_handedB t_handedC t_over t_failed t_met t_stack t_top) (w_Rn_pop K q_t q_t_stack q_t_variables q_t_gatherers q_t_records t_time t_dropped t_thread t_handedA t_handedB t_handedC t_over t_failed t_met t_stack) Q 0 0 := by
  refine z_metd (cc := b_Rn_pop) (maxL := 1) (ret := (some .double)) (by decide) rfl (Nat.le_of_ble_eq_true rfl) ?_
  intro p e s m args below meth c A C hr hlk hnm
  refine z_lpick (lv' := [(0, .ref q_t)]) [0] rfl ?_
  refine z_weq (ws' := [zo 4 q_t [.ref q_t_stack, .ref q_t_variables, .ref q_t_gatherers, .ref q_t_records, .int t_time, .int t_dropped, .int t_thread, .double t_handedA, .double t_handedB, .double t_handedC, .int t_top, .int t_over, .int t_failed, .int t_met], zaD K q_t_stack 48 t_stack]) rfl ?_
  refine z_aload_n C d_Rn_pop_0 rfl 0 rfl ?_
  refine z_get C 0 rfl rfl in_Rn 10 (by decide) rfl wf_Rn_51 rfl d_Rn_pop_1 ?_
  refine z_if_gt (tgt := 9) C d_Rn_pop_4 (by decide) (fun c1 => ?_) (fun c1 => ?_)
  · have hS2 := hS0.1 c1
    refine z_aload_n C d_Rn_pop_9 rfl 0 rfl ?_
    refine z_dup C d_Rn_pop_10 rfl ?_
    refine z_get C 0 rfl rfl in_Rn 10 (by decide) rfl wf_Rn_51 rfl d_Rn_pop_11 ?_
    refine z_iconst (v := (1 : Int32)) C d_Rn_pop_14 (by decide) ?_
    refine z_isub C d_Rn_pop_15 ?_
    refine z_put (ty := .int) (ws' := [zo 4 q_t [.ref q_t_stack, .ref q_t_variables, .ref q_t_gatherers, .ref q_t_records, .int t_time, .int t_dropped, .int t_thread, .double t_handedA, .double t_handedB, .double t_handedC, .int (t_top - (1 : Int32)), .int t_over, .int t_failed, .int t_met], zaD K q_t_stack 48 t_stack]) C ty_Rn to_Rn nm_Rn 0 rfl rfl in_Rn 10 (by decide) rfl wf_Rn_51 rfl rfl rfl rfl (Nat.le_of_ble_eq_true rfl) rfl d_Rn_pop_16 ?_
    refine z_aload_n C d_Rn_pop_19 rfl 0 rfl ?_
    refine z_get C 0 rfl rfl in_Rn 0 (by decide) rfl wf_Rn_9 rfl d_Rn_pop_20 ?_
    refine z_aload_n C d_Rn_pop_23 rfl 0 rfl ?_
    refine z_get C 0 rfl rfl in_Rn 10 (by decide) rfl wf_Rn_51 rfl d_Rn_pop_24 ?_
    refine z_dald C 1 1 rfl rfl hS2.1 d_Rn_pop_27 ?_
    have hS3 := hS2.2
    exact z_dret C hr hlk (t_top - (1 : Int32)) rfl hS3 d_Rn_pop_28
  · have hS2 := hS0.2 c1
    refine z_dconst0 C d_Rn_pop_7 ?_
    exact z_dret C hr hlk t_top rfl hS2 d_Rn_pop_8
def s_Rn_pop (t_top : Int32) (t_stack : Nat → UInt64) : UInt64 × Int32 := (if 0 < t_top then (t_stack (t_top - (1 : Int32)).toNatClampNeg, t_top - (1 : Int32)) else (FP.dconst0, t_top))
def p_Rn_pop (t_top : Int32) (t_stack : Nat → UInt64) : Prop := WP_Rn_pop t_top t_stack (fun _ _ => True)
set_option maxRecDepth 100000 in
theorem v_Rn_pop (t_top : Int32) (t_stack : Nat → UInt64) (hp : p_Rn_pop t_top t_stack) : WP_Rn_pop t_top t_stack (fun r u => s_Rn_pop t_top t_stack = (r, u)) := by
  unfold p_Rn_pop WP_Rn_pop at hp
  obtain ⟨tgt, f0⟩ : ∃ tgt, s_Rn_pop t_top t_stack = tgt := ⟨_, rfl⟩
  rw [f0]
  unfold s_Rn_pop at f0
  unfold WP_Rn_pop
  refine ⟨fun c1 => ?_, fun c1 => ?_⟩
  · have f1 := Eq.trans (Eq.symm (if_pos c1)) f0
    have g1 := hp.1 c1
    refine ⟨g1.1, ?_⟩
    have g2 := g1.2
    exact f1.symm
  · have f1 := Eq.trans (Eq.symm (if_neg c1)) f0
    have g1 := hp.2 c1
    exact f1.symm
theorem c_Rn_pop (l : Launch) (D : va_G) (K : Nat → ClassId) (q_t : Nat) (q_t_stack : Nat) (q_t_variables : Nat) (q_t_gatherers : Nat) (q_t_records : Nat) (t_time : Int32) (t_dropped : Int32) (t_thread : Int32) (t_handedA : UInt64) (t_handedB : UInt64) (t_handedC : UInt64) (t_top : Int32) (t_over : Int32) (t_failed : Int32) (t_met : Int32) (t_stack : Nat → UInt64) (hp : p_Rn_pop t_top t_stack) : zCd l y_Rn_pop wy_Rn_pop rm_Rn_pop D zcl (zT K) [.ref q_t] (w_Rn_pop K q_t q_t_stack q_t_variables q_t_gatherers q_t_records t_time t_dropped t_thread t_handedA t_handedB t_handedC t_over t_failed t_met t_stack t_top) (w_Rn_pop K q_t q_t_stack q_t_variables q_t_gatherers q_t_records t_time t_dropped t_thread t_handedA t_handedB t_handedC t_over t_failed t_met t_stack) (fun r u => s_Rn_pop t_top t_stack = (r, u)) 0 0 := cw_Rn_pop l D K q_t q_t_stack q_t_variables q_t_gatherers q_t_records t_time t_dropped t_thread t_handedA t_handedB t_handedC t_top t_over t_failed t_met t_stack (v_Rn_pop t_top t_stack hp)
-- RuleTracer$Runner.hand(IDDD)V: reads ['t.thread', 't.handedA', 't.handedB', 't.handedC'], changes ['t.thread', 't.handedA', 't.handedB', 't.handedC']
abbrev w_Rn_hand (K : Nat → ClassId) (q_t : Nat) (q_t_stack : Nat) (q_t_variables : Nat) (q_t_gatherers : Nat) (q_t_records : Nat) (t_time : Int32) (t_dropped : Int32) (t_top : Int32) (t_over : Int32) (t_failed : Int32) (t_met : Int32) (u : Int32 × UInt64 × UInt64 × UInt64) : va_W := [zo 4 q_t [.ref q_t_stack, .ref q_t_variables, .ref q_t_gatherers, .ref q_t_records, .int t_time, .int t_dropped, .int u.1, .double u.2.1, .double u.2.2.1, .double u.2.2.2, .int t_top, .int t_over, .int t_failed, .int t_met]]
abbrev rm_Rn_hand : Room := { frames := 0, cells := 0, slots := 0, locals := 0 }
abbrev wy_Rn_hand : List Cond := .code y_Rn_hand b_Rn_hand 8 none :: zWT
def WP_Rn_hand (t_thread : Int32) (t_handedA : UInt64) (t_handedB : UInt64) (t_handedC : UInt64) (x1 : Int32) (x2 : UInt64) (x4 : UInt64) (x6 : UInt64) (Q : (Int32 × UInt64 × UInt64 × UInt64) → Prop) : Prop := Q (x1, x2, x4, x6)
set_option maxHeartbeats 4000000 in
set_option maxRecDepth 100000 in
theorem cw_Rn_hand (l : Launch) (D : va_G) (K : Nat → ClassId) (q_t : Nat) (q_t_stack : Nat) (q_t_variables : Nat) (q_t_gatherers : Nat) (q_t_records : Nat) (t_time : Int32) (t_dropped : Int32) (t_thread : Int32) (t_handedA : UInt64) (t_handedB : UInt64) (t_handedC : UInt64) (t_top : Int32) (t_over : Int32) (t_failed : Int32) (t_met : Int32) (x1 : Int32) (x2 : UInt64) (x4 : UInt64) (x6 : UInt64) {Q : (Int32 × UInt64 × UInt64 × UInt64) → Prop} (hS0 : WP_Rn_hand t_thread t_handedA t_handedB t_handedC x1 x2 x4 x6 Q) : zCv l y_Rn_hand wy_Rn_hand rm_Rn_hand D zcl (zT K) [.ref q_t, .int x1, .double x2, .double x4, .double x6] (w_Rn_hand K q_t q_t_stack q_t_variables q_t_gatherers q_t_records t_time t_dropped t_top t_over t_failed t_met (t_thread, t_handedA, t_handedB, t_handedC)) (w_Rn_hand K q_t q_t_stack q_t_variables q_t_gatherers q_t_records t_time t_dropped t_top t_over t_failed t_met) Q 0 0 := by
  refine z_metv (cc := b_Rn_hand) (maxL := 8) (ret := none) (by decide) rfl (Nat.le_of_ble_eq_true rfl) ?_
  intro p e s m args below meth c A C hr hlk hnm
  refine z_lpick (lv' := [(0, .ref q_t), (1, .int x1), (2, .double x2), (4, .double x4), (6, .double x6)]) [0, 1, 2, 3, 4] rfl ?_
  refine z_weq (ws' := [zo 4 q_t [.ref q_t_stack, .ref q_t_variables, .ref q_t_gatherers, .ref q_t_records, .int t_time, .int t_dropped, .int t_thread, .double t_handedA, .double t_handedB, .double t_handedC, .int t_top, .int t_over, .int t_failed, .int t_met]]) rfl ?_
  refine z_aload_n C d_Rn_hand_0 rfl 0 rfl ?_
  refine z_iload_n C d_Rn_hand_1 rfl 1 rfl ?_
  refine z_put (ty := .int) (ws' := [zo 4 q_t [.ref q_t_stack, .ref q_t_variables, .ref q_t_gatherers, .ref q_t_records, .int t_time, .int t_dropped, .int x1, .double t_handedA, .double t_handedB, .double t_handedC, .int t_top, .int t_over, .int t_failed, .int t_met]]) C ty_Rn to_Rn nm_Rn 0 rfl rfl in_Rn 6 (by decide) rfl wf_Rn_38 rfl rfl rfl rfl (Nat.le_of_ble_eq_true rfl) rfl d_Rn_hand_2 ?_
  refine z_aload_n C d_Rn_hand_5 rfl 0 rfl ?_
  refine z_dload_n C d_Rn_hand_6 rfl 2 rfl ?_
  refine z_put (ty := .double) (ws' := [zo 4 q_t [.ref q_t_stack, .ref q_t_variables, .ref q_t_gatherers, .ref q_t_records, .int t_time, .int t_dropped, .int x1, .double x2, .double t_handedB, .double t_handedC, .int t_top, .int t_over, .int t_failed, .int t_met]]) C ty_Rn to_Rn nm_Rn 0 rfl rfl in_Rn 7 (by decide) rfl wf_Rn_41 rfl rfl rfl rfl (Nat.le_of_ble_eq_true rfl) rfl d_Rn_hand_7 ?_
  refine z_aload_n C d_Rn_hand_10 rfl 0 rfl ?_
  refine z_dload C d_Rn_hand_11 3 rfl ?_
  refine z_put (ty := .double) (ws' := [zo 4 q_t [.ref q_t_stack, .ref q_t_variables, .ref q_t_gatherers, .ref q_t_records, .int t_time, .int t_dropped, .int x1, .double x2, .double x4, .double t_handedC, .int t_top, .int t_over, .int t_failed, .int t_met]]) C ty_Rn to_Rn nm_Rn 0 rfl rfl in_Rn 8 (by decide) rfl wf_Rn_45 rfl rfl rfl rfl (Nat.le_of_ble_eq_true rfl) rfl d_Rn_hand_13 ?_
  refine z_aload_n C d_Rn_hand_16 rfl 0 rfl ?_
  refine z_dload C d_Rn_hand_17 4 rfl ?_
  refine z_put (ty := .double) (ws' := [zo 4 q_t [.ref q_t_stack, .ref q_t_variables, .ref q_t_gatherers, .ref q_t_records, .int t_time, .int t_dropped, .int x1, .double x2, .double x4, .double x6, .int t_top, .int t_over, .int t_failed, .int t_met]]) C ty_Rn to_Rn nm_Rn 0 rfl rfl in_Rn 9 (by decide) rfl wf_Rn_48 rfl rfl rfl rfl (Nat.le_of_ble_eq_true rfl) rfl d_Rn_hand_19 ?_
  exact z_vret C hr hlk (x1, x2, x4, x6) rfl hS0 d_Rn_hand_22
def s_Rn_hand (t_thread : Int32) (t_handedA : UInt64) (t_handedB : UInt64) (t_handedC : UInt64) (x1 : Int32) (x2 : UInt64) (x4 : UInt64) (x6 : UInt64) : Int32 × UInt64 × UInt64 × UInt64 := (x1, x2, x4, x6)
set_option maxRecDepth 100000 in
theorem v_Rn_hand (t_thread : Int32) (t_handedA : UInt64) (t_handedB : UInt64) (t_handedC : UInt64) (x1 : Int32) (x2 : UInt64) (x4 : UInt64) (x6 : UInt64) : WP_Rn_hand t_thread t_handedA t_handedB t_handedC x1 x2 x4 x6 (fun u => s_Rn_hand t_thread t_handedA t_handedB t_handedC x1 x2 x4 x6 = u) := by
  obtain ⟨tgt, f0⟩ : ∃ tgt, s_Rn_hand t_thread t_handedA t_handedB t_handedC x1 x2 x4 x6 = tgt := ⟨_, rfl⟩
  rw [f0]
  unfold s_Rn_hand at f0
  unfold WP_Rn_hand
  exact f0.symm
theorem c_Rn_hand (l : Launch) (D : va_G) (K : Nat → ClassId) (q_t : Nat) (q_t_stack : Nat) (q_t_variables : Nat) (q_t_gatherers : Nat) (q_t_records : Nat) (t_time : Int32) (t_dropped : Int32) (t_thread : Int32) (t_handedA : UInt64) (t_handedB : UInt64) (t_handedC : UInt64) (t_top : Int32) (t_over : Int32) (t_failed : Int32) (t_met : Int32) (x1 : Int32) (x2 : UInt64) (x4 : UInt64) (x6 : UInt64) : zCv l y_Rn_hand wy_Rn_hand rm_Rn_hand D zcl (zT K) [.ref q_t, .int x1, .double x2, .double x4, .double x6] (w_Rn_hand K q_t q_t_stack q_t_variables q_t_gatherers q_t_records t_time t_dropped t_top t_over t_failed t_met (t_thread, t_handedA, t_handedB, t_handedC)) (w_Rn_hand K q_t q_t_stack q_t_variables q_t_gatherers q_t_records t_time t_dropped t_top t_over t_failed t_met) (fun u => s_Rn_hand t_thread t_handedA t_handedB t_handedC x1 x2 x4 x6 = u) 0 0 := cw_Rn_hand l D K q_t q_t_stack q_t_variables q_t_gatherers q_t_records t_time t_dropped t_thread t_handedA t_handedB t_handedC t_top t_over t_failed t_met x1 x2 x4 x6 (v_Rn_hand t_thread t_handedA t_handedB t_handedC x1 x2 x4 x6)
-- RuleTracer$Runner.get(II)D: reads ['t.variables'], changes []
abbrev w_Rn_get (K : Nat → ClassId) (q_t : Nat) (q_t_stack : Nat) (q_t_variables : Nat) (q_t_gatherers : Nat) (q_t_records : Nat) (t_time : Int32) (t_dropped : Int32) (t_thread : Int32) (t_handedA : UInt64) (t_handedB : UInt64) (t_handedC : UInt64) (t_top : Int32) (t_over : Int32) (t_failed : Int32) (t_met : Int32) (t_variables : Nat → UInt64) (u : Unit) : va_W := [zo 4 q_t [.ref q_t_stack, .ref q_t_variables, .ref q_t_gatherers, .ref q_t_records, .int t_time, .int t_dropped, .int t_thread, .double t_handedA, .double t_handedB, .double t_handedC, .int t_top, .int t_over, .int t_failed, .int t_met], zaD K q_t_variables 15 t_variables]
abbrev rm_Rn_get : Room := { frames := 1, cells := 0, slots := 0, locals := 21 }
abbrev wy_Rn_get : List Cond := .code y_Rn_get b_Rn_get 4 (some .double) :: zWT
def WP_Rn_get (t_variables : Nat → UInt64) (x1 : Int32) (x2 : Int32) (Q : UInt64 → Unit → Prop) : Prop := (∀ (r1 : Int32), s_Rn_slotOf x1 x2 = r1 → (∀ (r5 : Int32), s_Tr_isWithin r1 (15 : Int32) = r5 → ((r5 = 0) → Q FP.dconst0 ()) ∧ ((¬ r5 = 0) → vp_in r1 15 ∧ Q (t_variables r1.toNatClampNeg) ())))
set_option maxHeartbeats 4000000 in
set_option maxRecDepth 100000 in
theorem cw_Rn_get (l : Launch) (D : va_G) (K : Nat → ClassId) (q_t : Nat) (q_t_stack : Nat) (q_t_variables : Nat) (q_t_gatherers : Nat) (q_t_records : Nat) (t_time : Int32) (t_dropped : Int32) (t_thread : Int32) (t_handedA : UInt64) (t_handedB : UInt64) (t_handedC : UInt64) (t_top : Int32) (t_over : Int32) (t_failed : Int32) (t_met : Int32) (t_variables : Nat → UInt64) (x1 : Int32) (x2 : Int32) {Q : UInt64 → Unit → Prop} (hS0 : WP_Rn_get t_variables x1 x2 Q) : zCd l y_Rn_get wy_Rn_get rm_Rn_get D zcl (zT K) [.ref q_t, .int x1, .int x2] (w_Rn_get K q_t q_t_stack q_t_variables q_t_gatherers q_t_records t_time t_dropped t_thread t_handedA t_handedB t_handedC t_top t_over t_failed t_met t_variables ()) (w_Rn_get K q_t q_t_stack q_t_variables q_t_gatherers q_t_records t_time t_dropped t_thread t_handedA t_handedB t_handedC t_top t_over t_failed t_met t_variables) Q 0 0 := by
  refine z_metd (cc := b_Rn_get) (maxL := 4) (ret := (some .double)) (by decide) rfl (Nat.le_of_ble_eq_true rfl) ?_
  intro p e s m args below meth c A C hr hlk hnm
  refine z_lpick (lv' := [(0, .ref q_t), (1, .int x1), (2, .int x2)]) [0, 1, 2] rfl ?_
  refine z_weq (ws' := [zo 4 q_t [.ref q_t_stack, .ref q_t_variables, .ref q_t_gatherers, .ref q_t_records, .int t_time, .int t_dropped, .int t_thread, .double t_handedA, .double t_handedB, .double t_handedC, .int t_top, .int t_over, .int t_failed, .int t_met], zaD K q_t_variables 15 t_variables]) rfl ?_
  refine z_iload_n C d_Rn_get_0 rfl 1 rfl ?_
  refine z_iload_n C d_Rn_get_1 rfl 2 rfl ?_
  refine z_callSi (As := [.int x1, .int x2]) (st := []) (wr := [zo 4 q_t [.ref q_t_stack, .ref q_t_variables, .ref q_t_gatherers, .ref q_t_records, .int t_time, .int t_dropped, .int t_thread, .double t_handedA, .double t_handedB, .double t_handedC, .int t_top, .int t_over, .int t_failed, .int t_met], zaD K q_t_variables 15 t_variables]) (wj := fun u => [zo 4 q_t [.ref q_t_stack, .ref q_t_variables, .ref q_t_gatherers, .ref q_t_records, .int t_time, .int t_dropped, .int t_thread, .double t_handedA, .double t_handedB, .double t_handedC, .int t_top, .int t_over, .int t_failed, .int t_met], zaD K q_t_variables 15 t_variables]) C (c_Rn_slotOf l D K x1 x2) (cwS 2 C.2.2.2.2.1 (z_gS wl_Rn_87 ws_Rn_slotOf wz_Rn wk_Rn_slotOf) rfl rfl rfl (by decide +kernel) ⟨Nat.le_of_ble_eq_true rfl, Nat.le_of_ble_eq_true rfl⟩) [] [0, 1] [0, 1] rfl rfl rfl rfl (by decide) (fun _ => rfl) rfl rfl rfl (Nat.le_of_ble_eq_true rfl) d_Rn_get_2 ⟨Nat.le_of_ble_eq_true rfl, Nat.le_of_ble_eq_true rfl⟩ (fun r1 u2 e3 => ?_)
  have hS4 := hS0 r1 e3
  refine z_istore_n (lv' := [(3, .int r1), (0, .ref q_t), (1, .int x1), (2, .int x2)]) C d_Rn_get_5 rfl (by decide) rfl ?_
  refine z_iload_n C d_Rn_get_6 rfl 0 rfl ?_
  refine z_aload_n C d_Rn_get_7 rfl 1 rfl ?_
  refine z_get C 0 rfl rfl in_Rn 1 (by decide) rfl wf_Rn_15 rfl d_Rn_get_8 ?_
  refine z_alen (v := (15 : Int32)) C 1 1 rfl rfl rfl d_Rn_get_11 ?_
  refine z_callSNi (As := [.int r1, .int (15 : Int32)]) (st := []) (wr := [zo 4 q_t [.ref q_t_stack, .ref q_t_variables, .ref q_t_gatherers, .ref q_t_records, .int t_time, .int t_dropped, .int t_thread, .double t_handedA, .double t_handedB, .double t_handedC, .int t_top, .int t_over, .int t_failed, .int t_met], zaD K q_t_variables 15 t_variables]) (wj := fun u => [zo 4 q_t [.ref q_t_stack, .ref q_t_variables, .ref q_t_gatherers, .ref q_t_records, .int t_time, .int t_dropped, .int t_thread, .double t_handedA, .double t_handedB, .double t_handedC, .int t_top, .int t_over, .int t_failed, .int t_met], zaD K q_t_variables 15 t_variables]) C (c_Tr_isWithin l D K r1 (15 : Int32)) ⟨va_cnB 2 C.2.2.2.2.1 (z_gI wk_Tr_isWithin) rfl rfl rfl (C.2.2.2.2.2.1.2.1 _ (List.mem_of_getElem? (i := 6) rfl)) (C.2.2.2.2.1 _ wz_Tr) (by decide +kernel) ⟨Nat.le_of_ble_eq_true rfl, Nat.le_of_ble_eq_true rfl⟩, C.2.2.2.2.1 _ ws_Tr_isWithin, trivial⟩ [] [0, 1] [0, 1] rfl rfl rfl rfl (by decide) (fun _ => rfl) rfl rfl rfl (Nat.le_of_ble_eq_true rfl) d_Rn_get_12 ⟨Nat.le_of_ble_eq_true rfl, Nat.le_of_ble_eq_true rfl⟩ (fun r5 u6 e7 => ?_)
  have hS8 := hS4 r5 e7
  refine z_if_eq (tgt := 27) C d_Rn_get_15 (by decide) (fun c9 => ?_) (fun c9 => ?_)
  · have hS10 := hS8.1 c9
    refine z_dconst0 C d_Rn_get_27 ?_
    exact z_dret C hr hlk () rfl hS10 d_Rn_get_28
  · have hS10 := hS8.2 c9
    refine z_aload_n C d_Rn_get_18 rfl 1 rfl ?_
    refine z_get C 0 rfl rfl in_Rn 1 (by decide) rfl wf_Rn_15 rfl d_Rn_get_19 ?_
    refine z_iload_n C d_Rn_get_22 rfl 0 rfl ?_
    refine z_dald C 1 1 rfl rfl hS10.1 d_Rn_get_23 ?_
    have hS11 := hS10.2
    refine z_goto (tgt := 28) C d_Rn_get_24 (by decide) ?_
    exact z_dret C hr hlk () rfl hS11 d_Rn_get_28
def s_Rn_get (t_variables : Nat → UInt64) (x1 : Int32) (x2 : Int32) : UInt64 := (zl1 (s_Rn_slotOf x1 x2) fun r1 => (zl1 (s_Tr_isWithin r1 (15 : Int32)) fun r5 => (if r5 = 0 then FP.dconst0 else t_variables r1.toNatClampNeg)))
def p_Rn_get (t_variables : Nat → UInt64) (x1 : Int32) (x2 : Int32) : Prop := WP_Rn_get t_variables x1 x2 (fun _ _ => True)
set_option maxRecDepth 100000 in
theorem v_Rn_get (t_variables : Nat → UInt64) (x1 : Int32) (x2 : Int32) (hp : p_Rn_get t_variables x1 x2) : WP_Rn_get t_variables x1 x2 (fun r u => s_Rn_get t_variables x1 x2 = r) := by
  unfold p_Rn_get WP_Rn_get at hp
  obtain ⟨tgt, f0⟩ : ∃ tgt, s_Rn_get t_variables x1 x2 = tgt := ⟨_, rfl⟩
  rw [f0]
  unfold s_Rn_get at f0
  unfold WP_Rn_get
  intro r1 e3
  have g1 := hp r1 e3
  have f1 := Eq.trans (Eq.symm (zl1_eq e3)) f0
  intro r5 e7
  have g2 := g1 r5 e7
  have f2 := Eq.trans (Eq.symm (zl1_eq e7)) f1
  refine ⟨fun c9 => ?_, fun c9 => ?_⟩
  · have f3 := Eq.trans (Eq.symm (if_pos c9)) f2
    have g3 := g2.1 c9
    exact f3.symm
  · have f3 := Eq.trans (Eq.symm (if_neg c9)) f2
    have g3 := g2.2 c9
    refine ⟨g3.1, ?_⟩
    have g4 := g3.2
    exact f3.symm
theorem c_Rn_get (l : Launch) (D : va_G) (K : Nat → ClassId) (q_t : Nat) (q_t_stack : Nat) (q_t_variables : Nat) (q_t_gatherers : Nat) (q_t_records : Nat) (t_time : Int32) (t_dropped : Int32) (t_thread : Int32) (t_handedA : UInt64) (t_handedB : UInt64) (t_handedC : UInt64) (t_top : Int32) (t_over : Int32) (t_failed : Int32) (t_met : Int32) (t_variables : Nat → UInt64) (x1 : Int32) (x2 : Int32) (hp : p_Rn_get t_variables x1 x2) : zCd l y_Rn_get wy_Rn_get rm_Rn_get D zcl (zT K) [.ref q_t, .int x1, .int x2] (w_Rn_get K q_t q_t_stack q_t_variables q_t_gatherers q_t_records t_time t_dropped t_thread t_handedA t_handedB t_handedC t_top t_over t_failed t_met t_variables ()) (w_Rn_get K q_t q_t_stack q_t_variables q_t_gatherers q_t_records t_time t_dropped t_thread t_handedA t_handedB t_handedC t_top t_over t_failed t_met t_variables) (fun r u => s_Rn_get t_variables x1 x2 = r) 0 0 := cw_Rn_get l D K q_t q_t_stack q_t_variables q_t_gatherers q_t_records t_time t_dropped t_thread t_handedA t_handedB t_handedC t_top t_over t_failed t_met t_variables x1 x2 (v_Rn_get t_variables x1 x2 hp)
-- RuleTracer$Runner.set(ID)V: reads ['t.thread', 't.variables'], changes ['t.variables']
abbrev w_Rn_set (K : Nat → ClassId) (q_t : Nat) (q_t_stack : Nat) (q_t_variables : Nat) (q_t_gatherers : Nat) (q_t_records : Nat) (t_time : Int32) (t_dropped : Int32) (t_thread : Int32) (t_handedA : UInt64) (t_handedB : UInt64) (t_handedC : UInt64) (t_top : Int32) (t_over : Int32) (t_failed : Int32) (t_met : Int32) (u : (Nat → UInt64)) : va_W := [zo 4 q_t [.ref q_t_stack, .ref q_t_variables, .ref q_t_gatherers, .ref q_t_records, .int t_time, .int t_dropped, .int t_thread, .double t_handedA, .double t_handedB, .double t_handedC, .int t_top, .int t_over, .int t_failed, .int t_met], zaD K q_t_variables 15 u]
abbrev rm_Rn_set : Room := { frames := 1, cells := 0, slots := 0, locals := 21 }
abbrev wy_Rn_set : List Cond := .code y_Rn_set b_Rn_set 5 none :: zWT
def WP_Rn_set (t_thread : Int32) (t_variables : Nat → UInt64) (x1 : Int32) (x2 : UInt64) (Q : (Nat → UInt64) → Prop) : Prop := (∀ (r1 : Int32), s_Rn_slotOf x1 t_thread = r1 → (∀ (r5 : Int32), s_Tr_isWithin r1 (15 : Int32) = r5 → ((r5 = 0) → Q t_variables) ∧ ((¬ r5 = 0) → vp_in r1 15 ∧ Q (vf_upd t_variables r1.toNatClampNeg x2))))
set_option maxHeartbeats 4000000 in
set_option maxRecDepth 100000 in
theorem cw_Rn_set (l : Launch) (D : va_G) (K : Nat → ClassId) (q_t : Nat) (q_t_stack : Nat) (q_t_variables : Nat) (q_t_gatherers : Nat) (q_t_records : Nat) (t_time : Int32) (t_dropped : Int32) (t_thread : Int32) (t_handedA : UInt64) (t_handedB : UInt64) (t_handedC : UInt64) (t_top : Int32) (t_over : Int32) (t_failed : Int32) (t_met : Int32) (t_variables : Nat → UInt64) (x1 : Int32) (x2 : UInt64) {Q : (Nat → UInt64) → Prop} (hS0 : WP_Rn_set t_thread t_variables x1 x2 Q) : zCv l y_Rn_set wy_Rn_set rm_Rn_set D zcl (zT K) [.ref q_t, .int x1, .double x2] (w_Rn_set K q_t q_t_stack q_t_variables q_t_gatherers q_t_records t_time t_dropped t_thread t_handedA t_handedB t_handedC t_top t_over t_failed t_met t_variables) (w_Rn_set K q_t q_t_stack q_t_variables q_t_gatherers q_t_records t_time t_dropped t_thread t_handedA t_handedB t_handedC t_top t_over t_failed t_met) Q 0 0 := by
  refine z_metv (cc := b_Rn_set) (maxL := 5) (ret := none) (by decide) rfl (Nat.le_of_ble_eq_true rfl) ?_
  intro p e s m args below meth c A C hr hlk hnm
  refine z_lpick (lv' := [(0, .ref q_t), (1, .int x1), (2, .double x2)]) [0, 1, 2] rfl ?_
  refine z_weq (ws' := [zo 4 q_t [.ref q_t_stack, .ref q_t_variables, .ref q_t_gatherers, .ref q_t_records, .int t_time, .int t_dropped, .int t_thread, .double t_handedA, .double t_handedB, .double t_handedC, .int t_top, .int t_over, .int t_failed, .int t_met], zaD K q_t_variables 15 t_variables]) rfl ?_
  refine z_iload_n C d_Rn_set_0 rfl 1 rfl ?_
  refine z_aload_n C d_Rn_set_1 rfl 0 rfl ?_
  refine z_get C 0 rfl rfl in_Rn 6 (by decide) rfl wf_Rn_38 rfl d_Rn_set_2 ?_
  refine z_callSi (As := [.int x1, .int t_thread]) (st := []) (wr := [zo 4 q_t [.ref q_t_stack, .ref q_t_variables, .ref q_t_gatherers, .ref q_t_records, .int t_time, .int t_dropped, .int t_thread, .double t_handedA, .double t_handedB, .double t_handedC, .int t_top, .int t_over, .int t_failed, .int t_met], zaD K q_t_variables 15 t_variables]) (wj := fun u => [zo 4 q_t [.ref q_t_stack, .ref q_t_variables, .ref q_t_gatherers, .ref q_t_records, .int t_time, .int t_dropped, .int t_thread, .double t_handedA, .double t_handedB, .double t_handedC, .int t_top, .int t_over, .int t_failed, .int t_met], zaD K q_t_variables 15 t_variables]) C (c_Rn_slotOf l D K x1 t_thread) (cwS 2 C.2.2.2.2.1 (z_gS wl_Rn_87 ws_Rn_slotOf wz_Rn wk_Rn_slotOf) rfl rfl rfl (by decide +kernel) ⟨Nat.le_of_ble_eq_true rfl, Nat.le_of_ble_eq_true rfl⟩) [] [0, 1] [0, 1] rfl rfl rfl rfl (by decide) (fun _ => rfl) rfl rfl rfl (Nat.le_of_ble_eq_true rfl) d_Rn_set_5 ⟨Nat.le_of_ble_eq_true rfl, Nat.le_of_ble_eq_true rfl⟩ (fun r1 u2 e3 => ?_)
  have hS4 := hS0 r1 e3
  refine z_istore (lv' := [(4, .int r1), (0, .ref q_t), (1, .int x1), (2, .double x2)]) C d_Rn_set_8 (by decide) rfl ?_
  refine z_iload C d_Rn_set_10 0 rfl ?_
  refine z_aload_n C d_Rn_set_12 rfl 1 rfl ?_
  refine z_get C 0 rfl rfl in_Rn 1 (by decide) rfl wf_Rn_15 rfl d_Rn_set_13 ?_
  refine z_alen (v := (15 : Int32)) C 1 1 rfl rfl rfl d_Rn_set_16 ?_
  refine z_callSNi (As := [.int r1, .int (15 : Int32)]) (st := []) (wr := [zo 4 q_t [.ref q_t_stack, .ref q_t_variables, .ref q_t_gatherers, .ref q_t_records, .int t_time, .int t_dropped, .int t_thread, .double t_handedA, .double t_handedB, .double t_handedC, .int t_top, .int t_over, .int t_failed, .int t_met], zaD K q_t_variables 15 t_variables]) (wj := fun u => [zo 4 q_t [.ref q_t_stack, .ref q_t_variables, .ref q_t_gatherers, .ref q_t_records, .int t_time, .int t_dropped, .int t_thread, .double t_handedA, .double t_handedB, .double t_handedC, .int t_top, .int t_over, .int t_failed, .int t_met], zaD K q_t_variables 15 t_variables]) C (c_Tr_isWithin l D K r1 (15 : Int32)) ⟨va_cnB 2 C.2.2.2.2.1 (z_gI wk_Tr_isWithin) rfl rfl rfl (C.2.2.2.2.2.1.2.1 _ (List.mem_of_getElem? (i := 6) rfl)) (C.2.2.2.2.1 _ wz_Tr) (by decide +kernel) ⟨Nat.le_of_ble_eq_true rfl, Nat.le_of_ble_eq_true rfl⟩, C.2.2.2.2.1 _ ws_Tr_isWithin, trivial⟩ [] [0, 1] [0, 1] rfl rfl rfl rfl (by decide) (fun _ => rfl) rfl rfl rfl (Nat.le_of_ble_eq_true rfl) d_Rn_set_17 ⟨Nat.le_of_ble_eq_true rfl, Nat.le_of_ble_eq_true rfl⟩ (fun r5 u6 e7 => ?_)
  have hS8 := hS4 r5 e7
  refine z_if_eq (tgt := 31) C d_Rn_set_20 (by decide) (fun c9 => ?_) (fun c9 => ?_)
  · have hS10 := hS8.1 c9
    exact z_vret C hr hlk t_variables rfl hS10 d_Rn_set_31
  · have hS10 := hS8.2 c9
    refine z_aload_n C d_Rn_set_23 rfl 1 rfl ?_
    refine z_get C 0 rfl rfl in_Rn 1 (by decide) rfl wf_Rn_15 rfl d_Rn_set_24 ?_
    refine z_iload C d_Rn_set_27 0 rfl ?_
    refine z_dload_n C d_Rn_set_29 rfl 3 rfl ?_
    refine z_dast (ws' := [zo 4 q_t [.ref q_t_stack, .ref q_t_variables, .ref q_t_gatherers, .ref q_t_records, .int t_time, .int t_dropped, .int t_thread, .double t_handedA, .double t_handedB, .double t_handedC, .int t_top, .int t_over, .int t_failed, .int t_met], zaD K q_t_variables 15 (vf_upd t_variables r1.toNatClampNeg x2)]) C 1 1 rfl rfl hS10.1 rfl d_Rn_set_30 ?_
    have hS11 := hS10.2
    exact z_vret C hr hlk (vf_upd t_variables r1.toNatClampNeg x2) rfl hS11 d_Rn_set_31
def s_Rn_set (t_thread : Int32) (t_variables : Nat → UInt64) (x1 : Int32) (x2 : UInt64) : (Nat → UInt64) := (zl1 (s_Rn_slotOf x1 t_thread) fun r1 => (zl1 (s_Tr_isWithin r1 (15 : Int32)) fun r5 => (if r5 = 0 then t_variables else vf_upd t_variables r1.toNatClampNeg x2)))
def p_Rn_set (t_thread : Int32) (t_variables : Nat → UInt64) (x1 : Int32) (x2 : UInt64) : Prop := WP_Rn_set t_thread t_variables x1 x2 (fun _ => True)
set_option maxRecDepth 100000 in
theorem v_Rn_set (t_thread : Int32) (t_variables : Nat → UInt64) (x1 : Int32) (x2 : UInt64) (hp : p_Rn_set t_thread t_variables x1 x2) : WP_Rn_set t_thread t_variables x1 x2 (fun u => s_Rn_set t_thread t_variables x1 x2 = u) := by
  unfold p_Rn_set WP_Rn_set at hp
  obtain ⟨tgt, f0⟩ : ∃ tgt, s_Rn_set t_thread t_variables x1 x2 = tgt := ⟨_, rfl⟩
  rw [f0]
  unfold s_Rn_set at f0
  unfold WP_Rn_set
  intro r1 e3
  have g1 := hp r1 e3
  have f1 := Eq.trans (Eq.symm (zl1_eq e3)) f0
  intro r5 e7
  have g2 := g1 r5 e7
  have f2 := Eq.trans (Eq.symm (zl1_eq e7)) f1
  refine ⟨fun c9 => ?_, fun c9 => ?_⟩
  · have f3 := Eq.trans (Eq.symm (if_pos c9)) f2
    have g3 := g2.1 c9
    exact f3.symm
  · have f3 := Eq.trans (Eq.symm (if_neg c9)) f2
    have g3 := g2.2 c9
    refine ⟨g3.1, ?_⟩
    have g4 := g3.2
    exact f3.symm
theorem c_Rn_set (l : Launch) (D : va_G) (K : Nat → ClassId) (q_t : Nat) (q_t_stack : Nat) (q_t_variables : Nat) (q_t_gatherers : Nat) (q_t_records : Nat) (t_time : Int32) (t_dropped : Int32) (t_thread : Int32) (t_handedA : UInt64) (t_handedB : UInt64) (t_handedC : UInt64) (t_top : Int32) (t_over : Int32) (t_failed : Int32) (t_met : Int32) (t_variables : Nat → UInt64) (x1 : Int32) (x2 : UInt64) (hp : p_Rn_set t_thread t_variables x1 x2) : zCv l y_Rn_set wy_Rn_set rm_Rn_set D zcl (zT K) [.ref q_t, .int x1, .double x2] (w_Rn_set K q_t q_t_stack q_t_variables q_t_gatherers q_t_records t_time t_dropped t_thread t_handedA t_handedB t_handedC t_top t_over t_failed t_met t_variables) (w_Rn_set K q_t q_t_stack q_t_variables q_t_gatherers q_t_records t_time t_dropped t_thread t_handedA t_handedB t_handedC t_top t_over t_failed t_met) (fun u => s_Rn_set t_thread t_variables x1 x2 = u) 0 0 := cw_Rn_set l D K q_t q_t_stack q_t_variables q_t_gatherers q_t_records t_time t_dropped t_thread t_handedA t_handedB t_handedC t_top t_over t_failed t_met t_variables x1 x2 (v_Rn_set t_thread t_variables x1 x2 hp)
-- RuleTracer$Runner.pushOutcome(D)V: reads ['t.top', 't.over', 't.failed', 't.stack'], changes ['t.top', 't.over', 't.failed', 't.stack']
abbrev w_Rn_pushOutcome (K : Nat → ClassId) (q_t : Nat) (q_t_stack : Nat) (q_t_variables : Nat) (q_t_gatherers : Nat) (q_t_records : Nat) (t_time : Int32) (t_dropped : Int32) (t_thread : Int32) (t_handedA : UInt64) (t_handedB : UInt64) (t_handedC : UInt64) (t_met : Int32) (u : Int32 × Int32 × Int32 × (Nat → UInt64)) : va_W := [zo 4 q_t [.ref q_t_stack, .ref q_t_variables, .ref q_t_gatherers, .ref q_t_records, .int t_time, .int t_dropped, .int t_thread, .double t_handedA, .double t_handedB, .double t_handedC, .int u.1, .int u.2.1, .int u.2.2.1, .int t_met], zaD K q_t_stack 48 u.2.2.2]
abbrev rm_Rn_pushOutcome : Room := { frames := 1, cells := 0, slots := 0, locals := 22 }
abbrev wy_Rn_pushOutcome : List Cond := .code y_Rn_pushOutcome b_Rn_pushOutcome 3 none :: zWT
def WP_Rn_pushOutcome (t_top : Int32) (t_over : Int32) (t_failed : Int32) (t_stack : Nat → UInt64) (x1 : UInt64) (Q : (Int32 × Int32 × Int32 × (Nat → UInt64)) → Prop) : Prop := (∀ (r1 : Int32), s_Rn_isOutOfBounds x1 = r1 → ((r1 = 0) → p_Rn_push t_top t_stack x1 ∧ (∀ (m10 : Int32) (m11 : Nat → UInt64), s_Rn_push t_top t_stack x1 = (m10, m11) → Q (m10, t_over, t_failed, m11))) ∧ ((¬ r1 = 0) → (∀ (m16 : Int32) (m17 : Int32), s_Rn_fail t_over t_failed = (m16, m17) → Q (t_top, m16, m17, t_stack))))
set_option maxHeartbeats 4000000 in
set_option maxRecDepth 100000 in
theorem cw_Rn_pushOutcome (l : Launch) (D : va_G) (K : Nat → ClassId) (q_t : Nat) (q_t_stack : Nat) (q_t_variables : Nat) (q_t_gatherers : Nat) (q_t_records : Nat) (t_time : Int32) (t_dropped : Int32) (t_thread : Int32) (t_handedA : UInt64) (t_handedB : UInt64) (t_handedC : UInt64) (t_top : Int32) (t_over : Int32) (t_failed : Int32) (t_met : Int32) (t_stack : Nat → UInt64) (x1 : UInt64) {Q : (Int32 × Int32 × Int32 × (Nat → UInt64)) → Prop} (hS0 : WP_Rn_pushOutcome t_top t_over t_failed t_stack x1 Q) : zCv l y_Rn_pushOutcome wy_Rn_pushOutcome rm_Rn_pushOutcome D zcl (zT K) [.ref q_t, .double x1] (w_Rn_pushOutcome K q_t q_t_stack q_t_variables q_t_gatherers q_t_records t_time t_dropped t_thread t_handedA t_handedB t_handedC t_met (t_top, t_over, t_failed, t_stack)) (w_Rn_pushOutcome K q_t q_t_stack q_t_variables q_t_gatherers q_t_records t_time t_dropped t_thread t_handedA t_handedB t_handedC t_met) Q 0 0 := by
  refine z_metv (cc := b_Rn_pushOutcome) (maxL := 3) (ret := none) (by decide) rfl (Nat.le_of_ble_eq_true rfl) ?_
  intro p e s m args below meth c A C hr hlk hnm
  refine z_lpick (lv' := [(0, .ref q_t), (1, .double x1)]) [0, 1] rfl ?_
  refine z_weq (ws' := [zo 4 q_t [.ref q_t_stack, .ref q_t_variables, .ref q_t_gatherers, .ref q_t_records, .int t_time, .int t_dropped, .int t_thread, .double t_handedA, .double t_handedB, .double t_handedC, .int t_top, .int t_over, .int t_failed, .int t_met], zaD K q_t_stack 48 t_stack]) rfl ?_
  refine z_dload_n C d_Rn_pushOutcome_0 rfl 1 rfl ?_
  refine z_callSi (As := [.double x1]) (st := []) (wr := [zo 4 q_t [.ref q_t_stack, .ref q_t_variables, .ref q_t_gatherers, .ref q_t_records, .int t_time, .int t_dropped, .int t_thread, .double t_handedA, .double t_handedB, .double t_handedC, .int t_top, .int t_over, .int t_failed, .int t_met], zaD K q_t_stack 48 t_stack]) (wj := fun u => [zo 4 q_t [.ref q_t_stack, .ref q_t_variables, .ref q_t_gatherers, .ref q_t_records, .int t_time, .int t_dropped, .int t_thread, .double t_handedA, .double t_handedB, .double t_handedC, .int t_top, .int t_over, .int t_failed, .int t_met], zaD K q_t_stack 48 t_stack]) C (c_Rn_isOutOfBounds l D K x1) (cwS 1 C.2.2.2.2.1 (z_gS wl_Rn_130 ws_Rn_isOutOfBounds wz_Rn wk_Rn_isOutOfBounds) rfl rfl rfl (by decide +kernel) ⟨Nat.le_of_ble_eq_true rfl, Nat.le_of_ble_eq_true rfl⟩) [] [0, 1] [0, 1] rfl rfl rfl rfl (by decide) (fun _ => rfl) rfl rfl rfl (Nat.le_of_ble_eq_true rfl) d_Rn_pushOutcome_1 ⟨Nat.le_of_ble_eq_true rfl, Nat.le_of_ble_eq_true rfl⟩ (fun r1 u2 e3 => ?_)
  have hS4 := hS0 r1 e3
  refine z_if_eq (tgt := 14) C d_Rn_pushOutcome_4 (by decide) (fun c5 => ?_) (fun c5 => ?_)
  · have hS6 := hS4.1 c5
    refine z_aload_n C d_Rn_pushOutcome_14 rfl 0 rfl ?_
    refine z_dload_n C d_Rn_pushOutcome_15 rfl 1 rfl ?_
    refine z_callVv (As := [.double x1]) (b := q_t) (st := []) (wr := []) (wj := fun u => [zo 4 q_t [.ref q_t_stack, .ref q_t_variables, .ref q_t_gatherers, .ref q_t_records, .int t_time, .int t_dropped, .int t_thread, .double t_handedA, .double t_handedB, .double t_handedC, .int u.1, .int t_over, .int t_failed, .int t_met], zaD K q_t_stack 48 u.2]) C 0 rfl rfl (c_Rn_push l D K q_t q_t_stack q_t_variables q_t_gatherers q_t_records t_time t_dropped t_thread t_handedA t_handedB t_handedC t_top t_over t_failed t_met t_stack x1 hS6.1) (cwV 1 C.2.2.2.2.1 (z_gV wl_Rn_95 wi_Rn_push wv_Rn_push wz_Rn wk_Rn_push) rfl rfl rfl (by decide +kernel) ⟨Nat.le_of_ble_eq_true rfl, Nat.le_of_ble_eq_true rfl⟩) [0, 1] [] [0, 1] rfl rfl rfl rfl (by decide) (fun _ => rfl) rfl rfl rfl (Nat.le_of_ble_eq_true rfl) d_Rn_pushOutcome_16 ⟨Nat.le_of_ble_eq_true rfl, Nat.le_of_ble_eq_true rfl⟩ (fun u8 e9 => ?_)
    obtain ⟨m10, m11⟩ := u8
    refine z_weq (ws' := [zo 4 q_t [.ref q_t_stack, .ref q_t_variables, .ref q_t_gatherers, .ref q_t_records, .int t_time, .int t_dropped, .int t_thread, .double t_handedA, .double t_handedB, .double t_handedC, .int m10, .int t_over, .int t_failed, .int t_met], zaD K q_t_stack 48 m11]) rfl ?_
    have hS12 := hS6.2 m10 m11 e9
    exact z_vret C hr hlk (m10, t_over, t_failed, m11) rfl hS12 d_Rn_pushOutcome_19
  · have hS6 := hS4.2 c5
    refine z_aload_n C d_Rn_pushOutcome_7 rfl 0 rfl ?_
    refine z_callVv (As := []) (b := q_t) (st := []) (wr := [zaD K q_t_stack 48 t_stack]) (wj := fun u => [zo 4 q_t [.ref q_t_stack, .ref q_t_variables, .ref q_t_gatherers, .ref q_t_records, .int t_time, .int t_dropped, .int t_thread, .double t_handedA, .double t_handedB, .double t_handedC, .int t_top, .int u.1, .int u.2, .int t_met], zaD K q_t_stack 48 t_stack]) C 0 rfl rfl (c_Rn_fail l D K q_t q_t_stack q_t_variables q_t_gatherers q_t_records t_time t_dropped t_thread t_handedA t_handedB t_handedC t_top t_over t_failed t_met) (cwV 0 C.2.2.2.2.1 (z_gV wl_Rn_127 wi_Rn_fail wv_Rn_fail wz_Rn wk_Rn_fail) rfl rfl rfl (by decide +kernel) ⟨Nat.le_of_ble_eq_true rfl, Nat.le_of_ble_eq_true rfl⟩) [0] [1] [1, 0] rfl rfl rfl rfl (by decide) (fun _ => rfl) rfl rfl rfl (Nat.le_of_ble_eq_true rfl) d_Rn_pushOutcome_8 ⟨Nat.le_of_ble_eq_true rfl, Nat.le_of_ble_eq_true rfl⟩ (fun u14 e15 => ?_)
    obtain ⟨m16, m17⟩ := u14
    refine z_weq (ws' := [zo 4 q_t [.ref q_t_stack, .ref q_t_variables, .ref q_t_gatherers, .ref q_t_records, .int t_time, .int t_dropped, .int t_thread, .double t_handedA, .double t_handedB, .double t_handedC, .int t_top, .int m16, .int m17, .int t_met], zaD K q_t_stack 48 t_stack]) rfl ?_
    have hS18 := hS6 m16 m17 e15
    refine z_goto (tgt := 19) C d_Rn_pushOutcome_11 (by decide) ?_
    exact z_vret C hr hlk (t_top, m16, m17, t_stack) rfl hS18 d_Rn_pushOutcome_19
def s_Rn_pushOutcome (t_top : Int32) (t_over : Int32) (t_failed : Int32) (t_stack : Nat → UInt64) (x1 : UInt64) : Int32 × Int32 × Int32 × (Nat → UInt64) := (zl1 (s_Rn_isOutOfBounds x1) fun r1 => (if r1 = 0 then (zl2 (s_Rn_push t_top t_stack x1) (fun m10 m11 => (m10, t_over, t_failed, m11))) else (zl2 (s_Rn_fail t_over t_failed) (fun m16 m17 => (t_top, m16, m17, t_stack)))))
def p_Rn_pushOutcome (t_top : Int32) (t_over : Int32) (t_failed : Int32) (t_stack : Nat → UInt64) (x1 : UInt64) : Prop := WP_Rn_pushOutcome t_top t_over t_failed t_stack x1 (fun _ => True)
set_option maxRecDepth 100000 in
theorem v_Rn_pushOutcome (t_top : Int32) (t_over : Int32) (t_failed : Int32) (t_stack : Nat → UInt64) (x1 : UInt64) (hp : p_Rn_pushOutcome t_top t_over t_failed t_stack x1) : WP_Rn_pushOutcome t_top t_over t_failed t_stack x1 (fun u => s_Rn_pushOutcome t_top t_over t_failed t_stack x1 = u) := by
  unfold p_Rn_pushOutcome WP_Rn_pushOutcome at hp
  obtain ⟨tgt, f0⟩ : ∃ tgt, s_Rn_pushOutcome t_top t_over t_failed t_stack x1 = tgt := ⟨_, rfl⟩
  rw [f0]
  unfold s_Rn_pushOutcome at f0
  unfold WP_Rn_pushOutcome
  intro r1 e3
  have g1 := hp r1 e3
  have f1 := Eq.trans (Eq.symm (zl1_eq e3)) f0
  refine ⟨fun c5 => ?_, fun c5 => ?_⟩
  · have f2 := Eq.trans (Eq.symm (if_pos c5)) f1
    have g2 := g1.1 c5
    refine ⟨g2.1, ?_⟩
    have g4 := g2.2
    intro m10 m11 e9
    have g3 := g4 m10 m11 e9
    have f3 := Eq.trans (Eq.symm (zl2_eq e9)) f2
    exact f3.symm
  · have f2 := Eq.trans (Eq.symm (if_neg c5)) f1
    have g2 := g1.2 c5
    intro m16 m17 e15
    have g5 := g2 m16 m17 e15
    have f5 := Eq.trans (Eq.symm (zl2_eq e15)) f2
    exact f5.symm
theorem c_Rn_pushOutcome (l : Launch) (D : va_G) (K : Nat → ClassId) (q_t : Nat) (q_t_stack : Nat) (q_t_variables : Nat) (q_t_gatherers : Nat) (q_t_records : Nat) (t_time : Int32) (t_dropped : Int32) (t_thread : Int32) (t_handedA : UInt64) (t_handedB : UInt64) (t_handedC : UInt64) (t_top : Int32) (t_over : Int32) (t_failed : Int32) (t_met : Int32) (t_stack : Nat → UInt64) (x1 : UInt64) (hp : p_Rn_pushOutcome t_top t_over t_failed t_stack x1) : zCv l y_Rn_pushOutcome wy_Rn_pushOutcome rm_Rn_pushOutcome D zcl (zT K) [.ref q_t, .double x1] (w_Rn_pushOutcome K q_t q_t_stack q_t_variables q_t_gatherers q_t_records t_time t_dropped t_thread t_handedA t_handedB t_handedC t_met (t_top, t_over, t_failed, t_stack)) (w_Rn_pushOutcome K q_t q_t_stack q_t_variables q_t_gatherers q_t_records t_time t_dropped t_thread t_handedA t_handedB t_handedC t_met) (fun u => s_Rn_pushOutcome t_top t_over t_failed t_stack x1 = u) 0 0 := cw_Rn_pushOutcome l D K q_t q_t_stack q_t_variables q_t_gatherers q_t_records t_time t_dropped t_thread t_handedA t_handedB t_handedC t_top t_over t_failed t_met t_stack x1 (v_Rn_pushOutcome t_top t_over t_failed t_stack x1 hp)
-- RuleTracer$Runner.operate(I)V: reads ['t.top', 't.over', 't.failed', 't.stack'], changes ['t.top', 't.over', 't.failed', 't.stack']
abbrev w_Rn_operate (K : Nat → ClassId) (q_t : Nat) (q_t_stack : Nat) (q_t_variables : Nat) (q_t_gatherers : Nat) (q_t_records : Nat) (t_time : Int32) (t_dropped : Int32) (t_thread : Int32) (t_handedA : UInt64) (t_handedB : UInt64) (t_handedC : UInt64) (t_met : Int32) (u : Int32 × Int32 × Int32 × (Nat → UInt64)) : va_W := [zo 4 q_t [.ref q_t_stack, .ref q_t_variables, .ref q_t_gatherers, .ref q_t_records, .int t_time, .int t_dropped, .int t_thread, .double t_handedA, .double t_handedB, .double t_handedC, .int u.1, .int u.2.1, .int u.2.2.1, .int t_met], zaD K q_t_stack 48 u.2.2.2]
abbrev rm_Rn_operate : Room := { frames := 2, cells := 0, slots := 0, locals := 44 }
abbrev wy_Rn_operate : List Cond := .code y_Rn_operate b_Rn_operate 6 none :: zWT
def WP_Rn_operate (t_top : Int32) (t_over : Int32) (t_failed : Int32) (t_stack : Nat → UInt64) (x1 : Int32) (Q : (Int32 × Int32 × Int32 × (Nat → UInt64)) → Prop) : Prop := p_Rn_pop t_top t_stack ∧ (∀ (r1 : UInt64) (u2 : Int32), s_Rn_pop t_top t_stack = (r1, u2) → p_Rn_pop u2 t_stack ∧ (∀ (r5 : UInt64) (u6 : Int32), s_Rn_pop u2 t_stack = (r5, u6) → ((x1 = (42 : Int32)) → vf_n64 (FP.dmul r5 r1) ∧ p_Rn_pushOutcome u6 t_over t_failed t_stack (FP.dmul r5 r1) ∧ (∀ (m15 : Int32) (m16 : Int32) (m17 : Int32) (m18 : Nat → UInt64), s_Rn_pushOutcome u6 t_over t_failed t_stack (FP.dmul r5 r1) = (m15, m16, m17, m18) → Q (m15, m16, m17, m18))) ∧ ((¬ x1 = (42 : Int32)) → ((x1 = (43 : Int32)) → vf_n64 (FP.dadd r5 r1) ∧ p_Rn_pushOutcome u6 t_over t_failed t_stack (FP.dadd r5 r1) ∧ (∀ (m26 : Int32) (m27 : Int32) (m28 : Int32) (m29 : Nat → UInt64), s_Rn_pushOutcome u6 t_over t_failed t_stack (FP.dadd r5 r1) = (m26, m27, m28, m29) → Q (m26, m27, m28, m29))) ∧ ((¬ x1 = (43 : Int32)) → ((x1 = (45 : Int32)) → vf_n64 (FP.dsub r5 r1) ∧ p_Rn_pushOutcome u6 t_over t_failed t_stack (FP.dsub r5 r1) ∧ (∀ (m37 : Int32) (m38 : Int32) (m39 : Int32) (m40 : Nat → UInt64), s_Rn_pushOutcome u6 t_over t_failed t_stack (FP.dsub r5 r1) = (m37, m38, m39, m40) → Q (m37, m38, m39, m40))) ∧ ((¬ x1 = (45 : Int32)) → ((x1 = (60 : Int32)) → ((0 ≤ (Op.cmpValue (FP.dcmp r5 r1) .g)) → p_Rn_push u6 t_stack FP.dconst0 ∧ (∀ (m49 : Int32) (m50 : Nat → UInt64), s_Rn_push u6 t_stack FP.dconst0 = (m49, m50) → Q (m49, t_over, t_failed, m50))) ∧ ((¬ 0 ≤ (Op.cmpValue (FP.dcmp r5 r1) .g)) → p_Rn_push u6 t_stack FP.dconst1 ∧ (∀ (m55 : Int32) (m56 : Nat → UInt64), s_Rn_push u6 t_stack FP.dconst1 = (m55, m56) → Q (m55, t_over, t_failed, m56)))) ∧ ((¬ x1 = (60 : Int32)) → ((x1 = (61 : Int32)) → ((¬ (Op.cmpValue (FP.dcmp r5 r1) .l) = 0) → p_Rn_push u6 t_stack FP.dconst0 ∧ (∀ (m65 : Int32) (m66 : Nat → UInt64), s_Rn_push u6 t_stack FP.dconst0 = (m65, m66) → Q (m65, t_over, t_failed, m66))) ∧ (((Op.cmpValue (FP.dcmp r5 r1) .l) = 0) → p_Rn_push u6 t_stack FP.dconst1 ∧ (∀ (m71 : Int32) (m72 : Nat → UInt64), s_Rn_push u6 t_stack FP.dconst1 = (m71, m72) → Q (m71, t_over, t_failed, m72)))) ∧ ((¬ x1 = (61 : Int32)) → ((x1 = (62 : Int32)) → (((Op.cmpValue (FP.dcmp r5 r1) .l) ≤ 0) → p_Rn_push u6 t_stack FP.dconst0 ∧ (∀ (m81 : Int32) (m82 : Nat → UInt64), s_Rn_push u6 t_stack FP.dconst0 = (m81, m82) → Q (m81, t_over, t_failed, m82))) ∧ ((¬ (Op.cmpValue (FP.dcmp r5 r1) .l) ≤ 0) → p_Rn_push u6 t_stack FP.dconst1 ∧ (∀ (m87 : Int32) (m88 : Nat → UInt64), s_Rn_push u6 t_stack FP.dconst1 = (m87, m88) → Q (m87, t_over, t_failed, m88)))) ∧ ((¬ x1 = (62 : Int32)) → ((¬ (Op.cmpValue (FP.dcmp r1 FP.dconst0) .l) = 0) → vf_n64 (FP.ddiv r5 r1) ∧ p_Rn_pushOutcome u6 t_over t_failed t_stack (FP.ddiv r5 r1) ∧ (∀ (m97 : Int32) (m98 : Int32) (m99 : Int32) (m100 : Nat → UInt64), s_Rn_pushOutcome u6 t_over t_failed t_stack (FP.ddiv r5 r1) = (m97, m98, m99, m100) → Q (m97, m98, m99, m100))) ∧ (((Op.cmpValue (FP.dcmp r1 FP.dconst0) .l) = 0) → (∀ (m105 : Int32) (m106 : Int32), s_Rn_fail t_over t_failed = (m105, m106) → Q (u6, m105, m106, t_stack)))))))))))
set_option maxHeartbeats 4000000 in
set_option maxRecDepth 100000 in
theorem cw_Rn_operate (l : Launch) (D : va_G) (K : Nat → ClassId) (q_t : Nat) (q_t_stack : Nat) (q_t_variables : Nat) (q_t_gatherers : Nat) (q_t_records : Nat) (t_time : Int32) (t_dropped : Int32) (t_thread : Int32) (t_handedA : UInt64) (t_handedB : UInt64) (t_handedC : UInt64) (t_top : Int32) (t_over : Int32) (t_failed : Int32) (t_met : Int32) (t_stack : Nat → UInt64) (x1 : Int32) {Q : (Int32 × Int32 × Int32 × (Nat → UInt64)) → Prop} (hS0 : WP_Rn_operate t_top t_over t_failed t_stack x1 Q) : zCv l y_Rn_operate wy_Rn_operate rm_Rn_operate D zcl (zT K) [.ref q_t, .int x1] (w_Rn_operate K q_t q_t_stack q_t_variables q_t_gatherers q_t_records t_time t_dropped t_thread t_handedA t_handedB t_handedC t_met (t_top, t_over, t_failed, t_stack)) (w_Rn_operate K q_t q_t_stack q_t_variables q_t_gatherers q_t_records t_time t_dropped t_thread t_handedA t_handedB t_handedC t_met) Q 0 0 := by
  refine z_metv (cc := b_Rn_operate) (maxL := 6) (ret := none) (by decide) rfl (Nat.le_of_ble_eq_true rfl) ?_
  intro p e s m args below meth c A C hr hlk hnm
  refine z_lpick (lv' := [(0, .ref q_t), (1, .int x1)]) [0, 1] rfl ?_
  refine z_weq (ws' := [zo 4 q_t [.ref q_t_stack, .ref q_t_variables, .ref q_t_gatherers, .ref q_t_records, .int t_time, .int t_dropped, .int t_thread, .double t_handedA, .double t_handedB, .double t_handedC, .int t_top, .int t_over, .int t_failed, .int t_met], zaD K q_t_stack 48 t_stack]) rfl ?_
  refine z_aload_n C d_Rn_operate_0 rfl 0 rfl ?_
  refine z_callVd (As := []) (b := q_t) (st := []) (wr := []) (wj := fun u => [zo 4 q_t [.ref q_t_stack, .ref q_t_variables, .ref q_t_gatherers, .ref q_t_records, .int t_time, .int t_dropped, .int t_thread, .double t_handedA, .double t_handedB, .double t_handedC, .int u, .int t_over, .int t_failed, .int t_met], zaD K q_t_stack 48 t_stack]) C 0 rfl rfl (c_Rn_pop l D K q_t q_t_stack q_t_variables q_t_gatherers q_t_records t_time t_dropped t_thread t_handedA t_handedB t_handedC t_top t_over t_failed t_met t_stack hS0.1) (cwV 0 C.2.2.2.2.1 (z_gV wl_Rn_103 wi_Rn_pop wv_Rn_pop wz_Rn wk_Rn_pop) rfl rfl rfl (by decide +kernel) ⟨Nat.le_of_ble_eq_true rfl, Nat.le_of_ble_eq_true rfl⟩) [0, 1] [] [0, 1] rfl rfl rfl rfl (by decide) (fun _ => rfl) rfl rfl rfl (Nat.le_of_ble_eq_true rfl) d_Rn_operate_1 ⟨Nat.le_of_ble_eq_true rfl, Nat.le_of_ble_eq_true rfl⟩ (fun r1 u2 e3 => ?_)
  have hS4 := hS0.2 r1 u2 e3
  refine z_dstore_n (lv' := [(2, .double r1), (0, .ref q_t), (1, .int x1)]) C d_Rn_operate_4 rfl (by decide) rfl ?_
  refine z_aload_n C d_Rn_operate_5 rfl 1 rfl ?_
  refine z_callVd (As := []) (b := q_t) (st := []) (wr := []) (wj := fun u => [zo 4 q_t [.ref q_t_stack, .ref q_t_variables, .ref q_t_gatherers, .ref q_t_records, .int t_time, .int t_dropped, .int t_thread, .double t_handedA, .double t_handedB, .double t_handedC, .int u, .int t_over, .int t_failed, .int t_met], zaD K q_t_stack 48 t_stack]) C 0 rfl rfl (c_Rn_pop l D K q_t q_t_stack q_t_variables q_t_gatherers q_t_records t_time t_dropped t_thread t_handedA t_handedB t_handedC u2 t_over t_failed t_met t_stack hS4.1) (cwV 0 C.2.2.2.2.1 (z_gV wl_Rn_103 wi_Rn_pop wv_Rn_pop wz_Rn wk_Rn_pop) rfl rfl rfl (by decide +kernel) ⟨Nat.le_of_ble_eq_true rfl, Nat.le_of_ble_eq_true rfl⟩) [0, 1] [] [0, 1] rfl rfl rfl rfl (by decide) (fun _ => rfl) rfl rfl rfl (Nat.le_of_ble_eq_true rfl) d_Rn_operate_6 ⟨Nat.le_of_ble_eq_true rfl, Nat.le_of_ble_eq_true rfl⟩ (fun r5 u6 e7 => ?_)
  have hS8 := hS4.2 r5 u6 e7
  refine z_dstore (lv' := [(4, .double r5), (2, .double r1), (0, .ref q_t), (1, .int x1)]) C d_Rn_operate_9 (by decide) rfl ?_
  refine z_iload_n C d_Rn_operate_11 rfl 3 rfl ?_
  by_cases c9_0 : x1 = (42 : Int32)
  · refine z_lookup (tgt := 151) (off := 139) C d_Rn_operate_12 (by decide) (by (rw [c9_0]) <;> decide) (by decide) ?_
    have hS10 := hS8.1 c9_0
    refine z_aload_n C d_Rn_operate_151 rfl 2 rfl ?_
    refine z_dload C d_Rn_operate_152 0 rfl ?_
    refine z_dload_n C d_Rn_operate_154 rfl 1 rfl ?_
    refine z_dmul C d_Rn_operate_155 hS10.1 ?_
    have hS11 := hS10.2
    refine z_callVv (As := [.double (FP.dmul r5 r1)]) (b := q_t) (st := []) (wr := []) (wj := fun u => [zo 4 q_t [.ref q_t_stack, .ref q_t_variables, .ref q_t_gatherers, .ref q_t_records, .int t_time, .int t_dropped, .int t_thread, .double t_handedA, .double t_handedB, .double t_handedC, .int u.1, .int u.2.1, .int u.2.2.1, .int t_met], zaD K q_t_stack 48 u.2.2.2]) C 0 rfl rfl (c_Rn_pushOutcome l D K q_t q_t_stack q_t_variables q_t_gatherers q_t_records t_time t_dropped t_thread t_handedA t_handedB t_handedC u6 t_over t_failed t_met t_stack (FP.dmul r5 r1) hS11.1) (cwV 1 C.2.2.2.2.1 (z_gV wl_Rn_124 wi_Rn_pushOutcome wv_Rn_pushOutcome wz_Rn wk_Rn_pushOutcome) rfl rfl rfl (by decide +kernel) ⟨Nat.le_of_ble_eq_true rfl, Nat.le_of_ble_eq_true rfl⟩) [0, 1] [] [0, 1] rfl rfl rfl rfl (by decide) (fun _ => rfl) rfl rfl rfl (Nat.le_of_ble_eq_true rfl) d_Rn_operate_156 ⟨Nat.le_of_ble_eq_true rfl, Nat.le_of_ble_eq_true rfl⟩ (fun u13 e14 => ?_)
    obtain ⟨m15, m16, m17, m18⟩ := u13
    refine z_weq (ws' := [zo 4 q_t [.ref q_t_stack, .ref q_t_variables, .ref q_t_gatherers, .ref q_t_records, .int t_time, .int t_dropped, .int t_thread, .double t_handedA, .double t_handedB, .double t_handedC, .int m15, .int m16, .int m17, .int t_met], zaD K q_t_stack 48 m18]) rfl ?_
    have hS19 := hS11.2 m15 m16 m17 m18 e14
    refine z_goto (tgt := 183) C d_Rn_operate_159 (by decide) ?_
    exact z_vret C hr hlk (m15, m16, m17, m18) rfl hS19 d_Rn_operate_183
  have hS20 := hS8.2 c9_0
  by_cases c9_1 : x1 = (43 : Int32)
  · refine z_lookup (tgt := 129) (off := 117) C d_Rn_operate_12 (by decide) (by (rw [lv_osw c9_0 (by decide), c9_1]) <;> decide) (by decide) ?_
    have hS21 := hS20.1 c9_1
    refine z_aload_n C d_Rn_operate_129 rfl 2 rfl ?_
    refine z_dload C d_Rn_operate_130 0 rfl ?_
    refine z_dload_n C d_Rn_operate_132 rfl 1 rfl ?_
    refine z_dadd C d_Rn_operate_133 hS21.1 ?_
    have hS22 := hS21.2
    refine z_callVv (As := [.double (FP.dadd r5 r1)]) (b := q_t) (st := []) (wr := []) (wj := fun u => [zo 4 q_t [.ref q_t_stack, .ref q_t_variables, .ref q_t_gatherers, .ref q_t_records, .int t_time, .int t_dropped, .int t_thread, .double t_handedA, .double t_handedB, .double t_handedC, .int u.1, .int u.2.1, .int u.2.2.1, .int t_met], zaD K q_t_stack 48 u.2.2.2]) C 0 rfl rfl (c_Rn_pushOutcome l D K q_t q_t_stack q_t_variables q_t_gatherers q_t_records t_time t_dropped t_thread t_handedA t_handedB t_handedC u6 t_over t_failed t_met t_stack (FP.dadd r5 r1) hS22.1) (cwV 1 C.2.2.2.2.1 (z_gV wl_Rn_124 wi_Rn_pushOutcome wv_Rn_pushOutcome wz_Rn wk_Rn_pushOutcome) rfl rfl rfl (by decide +kernel) ⟨Nat.le_of_ble_eq_true rfl, Nat.le_of_ble_eq_true rfl⟩) [0, 1] [] [0, 1] rfl rfl rfl rfl (by decide) (fun _ => rfl) rfl rfl rfl (Nat.le_of_ble_eq_true rfl) d_Rn_operate_134 ⟨Nat.le_of_ble_eq_true rfl, Nat.le_of_ble_eq_true rfl⟩ (fun u24 e25 => ?_)
    obtain ⟨m26, m27, m28, m29⟩ := u24
    refine z_weq (ws' := [zo 4 q_t [.ref q_t_stack, .ref q_t_variables, .ref q_t_gatherers, .ref q_t_records, .int t_time, .int t_dropped, .int t_thread, .double t_handedA, .double t_handedB, .double t_handedC, .int m26, .int m27, .int m28, .int t_met], zaD K q_t_stack 48 m29]) rfl ?_
    have hS30 := hS22.2 m26 m27 m28 m29 e25
    refine z_goto (tgt := 183) C d_Rn_operate_137 (by decide) ?_
    exact z_vret C hr hlk (m26, m27, m28, m29) rfl hS30 d_Rn_operate_183
  have hS31 := hS20.2 c9_1
  by_cases c9_2 : x1 = (45 : Int32)
  · refine z_lookup (tgt := 140) (off := 128) C d_Rn_operate_12 (by decide) (by (rw [lv_osw c9_0 (by decide), lv_osw c9_1 (by decide), c9_2]) <;> decide) (by decide) ?_
    have hS32 := hS31.1 c9_2
    refine z_aload_n C d_Rn_operate_140 rfl 2 rfl ?_
    refine z_dload C d_Rn_operate_141 0 rfl ?_
    refine z_dload_n C d_Rn_operate_143 rfl 1 rfl ?_
    refine z_dsub C d_Rn_operate_144 hS32.1 ?_
    have hS33 := hS32.2
    refine z_callVv (As := [.double (FP.dsub r5 r1)]) (b := q_t) (st := []) (wr := []) (wj := fun u => [zo 4 q_t [.ref q_t_stack, .ref q_t_variables, .ref q_t_gatherers, .ref q_t_records, .int t_time, .int t_dropped, .int t_thread, .double t_handedA, .double t_handedB, .double t_handedC, .int u.1, .int u.2.1, .int u.2.2.1, .int t_met], zaD K q_t_stack 48 u.2.2.2]) C 0 rfl rfl (c_Rn_pushOutcome l D K q_t q_t_stack q_t_variables q_t_gatherers q_t_records t_time t_dropped t_thread t_handedA t_handedB t_handedC u6 t_over t_failed t_met t_stack (FP.dsub r5 r1) hS33.1) (cwV 1 C.2.2.2.2.1 (z_gV wl_Rn_124 wi_Rn_pushOutcome wv_Rn_pushOutcome wz_Rn wk_Rn_pushOutcome) rfl rfl rfl (by decide +kernel) ⟨Nat.le_of_ble_eq_true rfl, Nat.le_of_ble_eq_true rfl⟩) [0, 1] [] [0, 1] rfl rfl rfl rfl (by decide) (fun _ => rfl) rfl rfl rfl (Nat.le_of_ble_eq_true rfl) d_Rn_operate_145 ⟨Nat.le_of_ble_eq_true rfl, Nat.le_of_ble_eq_true rfl⟩ (fun u35 e36 => ?_)
    obtain ⟨m37, m38, m39, m40⟩ := u35
    refine z_weq (ws' := [zo 4 q_t [.ref q_t_stack, .ref q_t_variables, .ref q_t_gatherers, .ref q_t_records, .int t_time, .int t_dropped, .int t_thread, .double t_handedA, .double t_handedB, .double t_handedC, .int m37, .int m38, .int m39, .int t_met], zaD K q_t_stack 48 m40]) rfl ?_
    have hS41 := hS33.2 m37 m38 m39 m40 e36
    refine z_goto (tgt := 183) C d_Rn_operate_148 (by decide) ?_
    exact z_vret C hr hlk (m37, m38, m39, m40) rfl hS41 d_Rn_operate_183
  have hS42 := hS31.2 c9_2
  by_cases c9_3 : x1 = (60 : Int32)
  · refine z_lookup (tgt := 72) (off := 60) C d_Rn_operate_12 (by decide) (by (rw [lv_osw c9_0 (by decide), lv_osw c9_1 (by decide), lv_osw c9_2 (by decide), c9_3]) <;> decide) (by decide) ?_
    have hS43 := hS42.1 c9_3
    refine z_aload_n C d_Rn_operate_72 rfl 2 rfl ?_
    refine z_dload C d_Rn_operate_73 0 rfl ?_
    refine z_dload_n C d_Rn_operate_75 rfl 1 rfl ?_
    refine z_dcmp C d_Rn_operate_76 ?_
    refine z_if_ge (tgt := 84) C d_Rn_operate_77 (by decide) (fun c44 => ?_) (fun c44 => ?_)
    · have hS45 := hS43.1 c44
      refine z_dconst0 C d_Rn_operate_84 ?_
      refine z_callVv (As := [.double FP.dconst0]) (b := q_t) (st := []) (wr := []) (wj := fun u => [zo 4 q_t [.ref q_t_stack, .ref q_t_variables, .ref q_t_gatherers, .ref q_t_records, .int t_time, .int t_dropped, .int t_thread, .double t_handedA, .double t_handedB, .double t_handedC, .int u.1, .int t_over, .int t_failed, .int t_met], zaD K q_t_stack 48 u.2]) C 0 rfl rfl (c_Rn_push l D K q_t q_t_stack q_t_variables q_t_gatherers q_t_records t_time t_dropped t_thread t_handedA t_handedB t_handedC u6 t_over t_failed t_met t_stack FP.dconst0 hS45.1) (cwV 1 C.2.2.2.2.1 (z_gV wl_Rn_95 wi_Rn_push wv_Rn_push wz_Rn wk_Rn_push) rfl rfl rfl (by decide +kernel) ⟨Nat.le_of_ble_eq_true rfl, Nat.le_of_ble_eq_true rfl⟩) [0, 1] [] [0, 1] rfl rfl rfl rfl (by decide) (fun _ => rfl) rfl rfl rfl (Nat.le_of_ble_eq_true rfl) d_Rn_operate_85 ⟨Nat.le_of_ble_eq_true rfl, Nat.le_of_ble_eq_true rfl⟩ (fun u47 e48 => ?_)
      obtain ⟨m49, m50⟩ := u47
      refine z_weq (ws' := [zo 4 q_t [.ref q_t_stack, .ref q_t_variables, .ref q_t_gatherers, .ref q_t_records, .int t_time, .int t_dropped, .int t_thread, .double t_handedA, .double t_handedB, .double t_handedC, .int m49, .int t_over, .int t_failed, .int t_met], zaD K q_t_stack 48 m50]) rfl ?_
      have hS51 := hS45.2 m49 m50 e48
      refine z_goto (tgt := 183) C d_Rn_operate_88 (by decide) ?_
      exact z_vret C hr hlk (m49, t_over, t_failed, m50) rfl hS51 d_Rn_operate_183
    · have hS45 := hS43.2 c44
      refine z_dconst1 C d_Rn_operate_80 ?_
      refine z_goto (tgt := 85) C d_Rn_operate_81 (by decide) ?_
      refine z_callVv (As := [.double FP.dconst1]) (b := q_t) (st := []) (wr := []) (wj := fun u => [zo 4 q_t [.ref q_t_stack, .ref q_t_variables, .ref q_t_gatherers, .ref q_t_records, .int t_time, .int t_dropped, .int t_thread, .double t_handedA, .double t_handedB, .double t_handedC, .int u.1, .int t_over, .int t_failed, .int t_met], zaD K q_t_stack 48 u.2]) C 0 rfl rfl (c_Rn_push l D K q_t q_t_stack q_t_variables q_t_gatherers q_t_records t_time t_dropped t_thread t_handedA t_handedB t_handedC u6 t_over t_failed t_met t_stack FP.dconst1 hS45.1) (cwV 1 C.2.2.2.2.1 (z_gV wl_Rn_95 wi_Rn_push wv_Rn_push wz_Rn wk_Rn_push) rfl rfl rfl (by decide +kernel) ⟨Nat.le_of_ble_eq_true rfl, Nat.le_of_ble_eq_true rfl⟩) [0, 1] [] [0, 1] rfl rfl rfl rfl (by decide) (fun _ => rfl) rfl rfl rfl (Nat.le_of_ble_eq_true rfl) d_Rn_operate_85 ⟨Nat.le_of_ble_eq_true rfl, Nat.le_of_ble_eq_true rfl⟩ (fun u53 e54 => ?_)
      obtain ⟨m55, m56⟩ := u53
      refine z_weq (ws' := [zo 4 q_t [.ref q_t_stack, .ref q_t_variables, .ref q_t_gatherers, .ref q_t_records, .int t_time, .int t_dropped, .int t_thread, .double t_handedA, .double t_handedB, .double t_handedC, .int m55, .int t_over, .int t_failed, .int t_met], zaD K q_t_stack 48 m56]) rfl ?_
      have hS57 := hS45.2 m55 m56 e54
      refine z_goto (tgt := 183) C d_Rn_operate_88 (by decide) ?_
      exact z_vret C hr hlk (m55, t_over, t_failed, m56) rfl hS57 d_Rn_operate_183
  have hS58 := hS42.2 c9_3
  by_cases c9_4 : x1 = (61 : Int32)
  · refine z_lookup (tgt := 110) (off := 98) C d_Rn_operate_12 (by decide) (by (rw [lv_osw c9_0 (by decide), lv_osw c9_1 (by decide), lv_osw c9_2 (by decide), lv_osw c9_3 (by decide), c9_4]) <;> decide) (by decide) ?_
    have hS59 := hS58.1 c9_4
    refine z_aload_n C d_Rn_operate_110 rfl 2 rfl ?_
    refine z_dload C d_Rn_operate_111 0 rfl ?_
    refine z_dload_n C d_Rn_operate_113 rfl 1 rfl ?_
    refine z_dcmp C d_Rn_operate_114 ?_
    refine z_if_ne (tgt := 122) C d_Rn_operate_115 (by decide) (fun c60 => ?_) (fun c60 => ?_)
    · have hS61 := hS59.1 c60
      refine z_dconst0 C d_Rn_operate_122 ?_
      refine z_callVv (As := [.double FP.dconst0]) (b := q_t) (st := []) (wr := []) (wj := fun u => [zo 4 q_t [.ref q_t_stack, .ref q_t_variables, .ref q_t_gatherers, .ref q_t_records, .int t_time, .int t_dropped, .int t_thread, .double t_handedA, .double t_handedB, .double t_handedC, .int u.1, .int t_over, .int t_failed, .int t_met], zaD K q_t_stack 48 u.2]) C 0 rfl rfl (c_Rn_push l D K q_t q_t_stack q_t_variables q_t_gatherers q_t_records t_time t_dropped t_thread t_handedA t_handedB t_handedC u6 t_over t_failed t_met t_stack FP.dconst0 hS61.1) (cwV 1 C.2.2.2.2.1 (z_gV wl_Rn_95 wi_Rn_push wv_Rn_push wz_Rn wk_Rn_push) rfl rfl rfl (by decide +kernel) ⟨Nat.le_of_ble_eq_true rfl, Nat.le_of_ble_eq_true rfl⟩) [0, 1] [] [0, 1] rfl rfl rfl rfl (by decide) (fun _ => rfl) rfl rfl rfl (Nat.le_of_ble_eq_true rfl) d_Rn_operate_123 ⟨Nat.le_of_ble_eq_true rfl, Nat.le_of_ble_eq_true rfl⟩ (fun u63 e64 => ?_)
      obtain ⟨m65, m66⟩ := u63
      refine z_weq (ws' := [zo 4 q_t [.ref q_t_stack, .ref q_t_variables, .ref q_t_gatherers, .ref q_t_records, .int t_time, .int t_dropped, .int t_thread, .double t_handedA, .double t_handedB, .double t_handedC, .int m65, .int t_over, .int t_failed, .int t_met], zaD K q_t_stack 48 m66]) rfl ?_
      have hS67 := hS61.2 m65 m66 e64
      refine z_goto (tgt := 183) C d_Rn_operate_126 (by decide) ?_
      exact z_vret C hr hlk (m65, t_over, t_failed, m66) rfl hS67 d_Rn_operate_183
    · have hS61 := hS59.2 c60
      refine z_dconst1 C d_Rn_operate_118 ?_
      refine z_goto (tgt := 123) C d_Rn_operate_119 (by decide) ?_
      refine z_callVv (As := [.double FP.dconst1]) (b := q_t) (st := []) (wr := []) (wj := fun u => [zo 4 q_t [.ref q_t_stack, .ref q_t_variables, .ref q_t_gatherers, .ref q_t_records, .int t_time, .int t_dropped, .int t_thread, .double t_handedA, .double t_handedB, .double t_handedC, .int u.1, .int t_over, .int t_failed, .int t_met], zaD K q_t_stack 48 u.2]) C 0 rfl rfl (c_Rn_push l D K q_t q_t_stack q_t_variables q_t_gatherers q_t_records t_time t_dropped t_thread t_handedA t_handedB t_handedC u6 t_over t_failed t_met t_stack FP.dconst1 hS61.1) (cwV 1 C.2.2.2.2.1 (z_gV wl_Rn_95 wi_Rn_push wv_Rn_push wz_Rn wk_Rn_push) rfl rfl rfl (by decide +kernel) ⟨Nat.le_of_ble_eq_true rfl, Nat.le_of_ble_eq_true rfl⟩) [0, 1] [] [0, 1] rfl rfl rfl rfl (by decide) (fun _ => rfl) rfl rfl rfl (Nat.le_of_ble_eq_true rfl) d_Rn_operate_123 ⟨Nat.le_of_ble_eq_true rfl, Nat.le_of_ble_eq_true rfl⟩ (fun u69 e70 => ?_)
      obtain ⟨m71, m72⟩ := u69
      refine z_weq (ws' := [zo 4 q_t [.ref q_t_stack, .ref q_t_variables, .ref q_t_gatherers, .ref q_t_records, .int t_time, .int t_dropped, .int t_thread, .double t_handedA, .double t_handedB, .double t_handedC, .int m71, .int t_over, .int t_failed, .int t_met], zaD K q_t_stack 48 m72]) rfl ?_
      have hS73 := hS61.2 m71 m72 e70
      refine z_goto (tgt := 183) C d_Rn_operate_126 (by decide) ?_
      exact z_vret C hr hlk (m71, t_over, t_failed, m72) rfl hS73 d_Rn_operate_183
  have hS74 := hS58.2 c9_4
  by_cases c9_5 : x1 = (62 : Int32)
  · refine z_lookup (tgt := 91) (off := 79) C d_Rn_operate_12 (by decide) (by (rw [lv_osw c9_0 (by decide), lv_osw c9_1 (by decide), lv_osw c9_2 (by decide), lv_osw c9_3 (by decide), lv_osw c9_4 (by decide), c9_5]) <;> decide) (by decide) ?_
    have hS75 := hS74.1 c9_5
    refine z_aload_n C d_Rn_operate_91 rfl 2 rfl ?_
    refine z_dload C d_Rn_operate_92 0 rfl ?_
    refine z_dload_n C d_Rn_operate_94 rfl 1 rfl ?_
    refine z_dcmp C d_Rn_operate_95 ?_
    refine z_if_le (tgt := 103) C d_Rn_operate_96 (by decide) (fun c76 => ?_) (fun c76 => ?_)
    · have hS77 := hS75.1 c76
      refine z_dconst0 C d_Rn_operate_103 ?_
      refine z_callVv (As := [.double FP.dconst0]) (b := q_t) (st := []) (wr := []) (wj := fun u => [zo 4 q_t [.ref q_t_stack, .ref q_t_variables, .ref q_t_gatherers, .ref q_t_records, .int t_time, .int t_dropped, .int t_thread, .double t_handedA, .double t_handedB, .double t_handedC, .int u.1, .int t_over, .int t_failed, .int t_met], zaD K q_t_stack 48 u.2]) C 0 rfl rfl (c_Rn_push l D K q_t q_t_stack q_t_variables q_t_gatherers q_t_records t_time t_dropped t_thread t_handedA t_handedB t_handedC u6 t_over t_failed t_met t_stack FP.dconst0 hS77.1) (cwV 1 C.2.2.2.2.1 (z_gV wl_Rn_95 wi_Rn_push wv_Rn_push wz_Rn wk_Rn_push) rfl rfl rfl (by decide +kernel) ⟨Nat.le_of_ble_eq_true rfl, Nat.le_of_ble_eq_true rfl⟩) [0, 1] [] [0, 1] rfl rfl rfl rfl (by decide) (fun _ => rfl) rfl rfl rfl (Nat.le_of_ble_eq_true rfl) d_Rn_operate_104 ⟨Nat.le_of_ble_eq_true rfl, Nat.le_of_ble_eq_true rfl⟩ (fun u79 e80 => ?_)
      obtain ⟨m81, m82⟩ := u79
      refine z_weq (ws' := [zo 4 q_t [.ref q_t_stack, .ref q_t_variables, .ref q_t_gatherers, .ref q_t_records, .int t_time, .int t_dropped, .int t_thread, .double t_handedA, .double t_handedB, .double t_handedC, .int m81, .int t_over, .int t_failed, .int t_met], zaD K q_t_stack 48 m82]) rfl ?_
      have hS83 := hS77.2 m81 m82 e80
      refine z_goto (tgt := 183) C d_Rn_operate_107 (by decide) ?_
      exact z_vret C hr hlk (m81, t_over, t_failed, m82) rfl hS83 d_Rn_operate_183
    · have hS77 := hS75.2 c76
      refine z_dconst1 C d_Rn_operate_99 ?_
      refine z_goto (tgt := 104) C d_Rn_operate_100 (by decide) ?_
      refine z_callVv (As := [.double FP.dconst1]) (b := q_t) (st := []) (wr := []) (wj := fun u => [zo 4 q_t [.ref q_t_stack, .ref q_t_variables, .ref q_t_gatherers, .ref q_t_records, .int t_time, .int t_dropped, .int t_thread, .double t_handedA, .double t_handedB, .double t_handedC, .int u.1, .int t_over, .int t_failed, .int t_met], zaD K q_t_stack 48 u.2]) C 0 rfl rfl (c_Rn_push l D K q_t q_t_stack q_t_variables q_t_gatherers q_t_records t_time t_dropped t_thread t_handedA t_handedB t_handedC u6 t_over t_failed t_met t_stack FP.dconst1 hS77.1) (cwV 1 C.2.2.2.2.1 (z_gV wl_Rn_95 wi_Rn_push wv_Rn_push wz_Rn wk_Rn_push) rfl rfl rfl (by decide +kernel) ⟨Nat.le_of_ble_eq_true rfl, Nat.le_of_ble_eq_true rfl⟩) [0, 1] [] [0, 1] rfl rfl rfl rfl (by decide) (fun _ => rfl) rfl rfl rfl (Nat.le_of_ble_eq_true rfl) d_Rn_operate_104 ⟨Nat.le_of_ble_eq_true rfl, Nat.le_of_ble_eq_true rfl⟩ (fun u85 e86 => ?_)
      obtain ⟨m87, m88⟩ := u85
      refine z_weq (ws' := [zo 4 q_t [.ref q_t_stack, .ref q_t_variables, .ref q_t_gatherers, .ref q_t_records, .int t_time, .int t_dropped, .int t_thread, .double t_handedA, .double t_handedB, .double t_handedC, .int m87, .int t_over, .int t_failed, .int t_met], zaD K q_t_stack 48 m88]) rfl ?_
      have hS89 := hS77.2 m87 m88 e86
      refine z_goto (tgt := 183) C d_Rn_operate_107 (by decide) ?_
      exact z_vret C hr hlk (m87, t_over, t_failed, m88) rfl hS89 d_Rn_operate_183
  have hS90 := hS74.2 c9_5
  refine z_lookup (tgt := 162) (off := 150) C d_Rn_operate_12 (by decide) (by (rw [lv_osw c9_0 (by decide), lv_osw c9_1 (by decide), lv_osw c9_2 (by decide), lv_osw c9_3 (by decide), lv_osw c9_4 (by decide), lv_osw c9_5 (by decide)]) <;> rfl) (by decide) ?_
  refine z_dload_n C d_Rn_operate_162 rfl 1 rfl ?_
  refine z_dconst0 C d_Rn_operate_163 ?_
  refine z_dcmp C d_Rn_operate_164 ?_
  refine z_if_ne (tgt := 175) C d_Rn_operate_165 (by decide) (fun c91 => ?_) (fun c91 => ?_)
  · have hS92 := hS90.1 c91
    refine z_aload_n C d_Rn_operate_175 rfl 2 rfl ?_
    refine z_dload C d_Rn_operate_176 0 rfl ?_
    refine z_dload_n C d_Rn_operate_178 rfl 1 rfl ?_
    refine z_ddiv C d_Rn_operate_179 hS92.1 ?_
    have hS93 := hS92.2
    refine z_callVv (As := [.double (FP.ddiv r5 r1)]) (b := q_t) (st := []) (wr := []) (wj := fun u => [zo 4 q_t [.ref q_t_stack, .ref q_t_variables, .ref q_t_gatherers, .ref q_t_records, .int t_time, .int t_dropped, .int t_thread, .double t_handedA, .double t_handedB, .double t_handedC, .int u.1, .int u.2.1, .int u.2.2.1, .int t_met], zaD K q_t_stack 48 u.2.2.2]) C 0 rfl rfl (c_Rn_pushOutcome l D K q_t q_t_stack q_t_variables q_t_gatherers q_t_records t_time t_dropped t_thread t_handedA t_handedB t_handedC u6 t_over t_failed t_met t_stack (FP.ddiv r5 r1) hS93.1) (cwV 1 C.2.2.2.2.1 (z_gV wl_Rn_124 wi_Rn_pushOutcome wv_Rn_pushOutcome wz_Rn wk_Rn_pushOutcome) rfl rfl rfl (by decide +kernel) ⟨Nat.le_of_ble_eq_true rfl, Nat.le_of_ble_eq_true rfl⟩) [0, 1] [] [0, 1] rfl rfl rfl rfl (by decide) (fun _ => rfl) rfl rfl rfl (Nat.le_of_ble_eq_true rfl) d_Rn_operate_180 ⟨Nat.le_of_ble_eq_true rfl, Nat.le_of_ble_eq_true rfl⟩ (fun u95 e96 => ?_)
    obtain ⟨m97, m98, m99, m100⟩ := u95
    refine z_weq (ws' := [zo 4 q_t [.ref q_t_stack, .ref q_t_variables, .ref q_t_gatherers, .ref q_t_records, .int t_time, .int t_dropped, .int t_thread, .double t_handedA, .double t_handedB, .double t_handedC, .int m97, .int m98, .int m99, .int t_met], zaD K q_t_stack 48 m100]) rfl ?_
    have hS101 := hS93.2 m97 m98 m99 m100 e96
    exact z_vret C hr hlk (m97, m98, m99, m100) rfl hS101 d_Rn_operate_183
  · have hS92 := hS90.2 c91
    refine z_aload_n C d_Rn_operate_168 rfl 2 rfl ?_
    refine z_callVv (As := []) (b := q_t) (st := []) (wr := [zaD K q_t_stack 48 t_stack]) (wj := fun u => [zo 4 q_t [.ref q_t_stack, .ref q_t_variables, .ref q_t_gatherers, .ref q_t_records, .int t_time, .int t_dropped, .int t_thread, .double t_handedA, .double t_handedB, .double t_handedC, .int u6, .int u.1, .int u.2, .int t_met], zaD K q_t_stack 48 t_stack]) C 0 rfl rfl (c_Rn_fail l D K q_t q_t_stack q_t_variables q_t_gatherers q_t_records t_time t_dropped t_thread t_handedA t_handedB t_handedC u6 t_over t_failed t_met) (cwV 0 C.2.2.2.2.1 (z_gV wl_Rn_127 wi_Rn_fail wv_Rn_fail wz_Rn wk_Rn_fail) rfl rfl rfl (by decide +kernel) ⟨Nat.le_of_ble_eq_true rfl, Nat.le_of_ble_eq_true rfl⟩) [0] [1] [1, 0] rfl rfl rfl rfl (by decide) (fun _ => rfl) rfl rfl rfl (Nat.le_of_ble_eq_true rfl) d_Rn_operate_169 ⟨Nat.le_of_ble_eq_true rfl, Nat.le_of_ble_eq_true rfl⟩ (fun u103 e104 => ?_)
    obtain ⟨m105, m106⟩ := u103
    refine z_weq (ws' := [zo 4 q_t [.ref q_t_stack, .ref q_t_variables, .ref q_t_gatherers, .ref q_t_records, .int t_time, .int t_dropped, .int t_thread, .double t_handedA, .double t_handedB, .double t_handedC, .int u6, .int m105, .int m106, .int t_met], zaD K q_t_stack 48 t_stack]) rfl ?_
    have hS107 := hS92 m105 m106 e104
    refine z_goto (tgt := 183) C d_Rn_operate_172 (by decide) ?_
    exact z_vret C hr hlk (u6, m105, m106, t_stack) rfl hS107 d_Rn_operate_183
def s_Rn_operate (t_top : Int32) (t_over : Int32) (t_failed : Int32) (t_stack : Nat → UInt64) (x1 : Int32) : Int32 × Int32 × Int32 × (Nat → UInt64) := (zl2 (s_Rn_pop t_top t_stack) (fun r1 u2 => (zl2 (s_Rn_pop u2 t_stack) (fun r5 u6 => (if x1 = (42 : Int32) then (zl2 (s_Rn_pushOutcome u6 t_over t_failed t_stack (FP.dmul r5 r1)) (fun m15 z_m15 => zl2 z_m15 (fun m16 z_m16 => zl2 z_m16 (fun m17 m18 => (m15, m16, m17, m18))))) else (if x1 = (43 : Int32) then (zl2 (s_Rn_pushOutcome u6 t_over t_failed t_stack (FP.dadd r5 r1)) (fun m26 z_m26 => zl2 z_m26 (fun m27 z_m27 => zl2 z_m27 (fun m28 m29 => (m26, m27, m28, m29))))) else (if x1 = (45 : Int32) then (zl2 (s_Rn_pushOutcome u6 t_over t_failed t_stack (FP.dsub r5 r1)) (fun m37 z_m37 => zl2 z_m37 (fun m38 z_m38 => zl2 z_m38 (fun m39 m40 => (m37, m38, m39, m40))))) else (if x1 = (60 : Int32) then (if 0 ≤ (Op.cmpValue (FP.dcmp r5 r1) .g) then (zl2 (s_Rn_push u6 t_stack FP.dconst0) (fun m49 m50 => (m49, t_over, t_failed, m50))) else (zl2 (s_Rn_push u6 t_stack FP.dconst1) (fun m55 m56 => (m55, t_over, t_failed, m56)))) else (if x1 = (61 : Int32) then (if (Op.cmpValue (FP.dcmp r5 r1) .l) = 0 then (zl2 (s_Rn_push u6 t_stack FP.dconst1) (fun m71 m72 => (m71, t_over, t_failed, m72))) else (zl2 (s_Rn_push u6 t_stack FP.dconst0) (fun m65 m66 => (m65, t_over, t_failed, m66)))) else (if x1 = (62 : Int32) then (if (Op.cmpValue (FP.dcmp r5 r1) .l) ≤ 0 then (zl2 (s_Rn_push u6 t_stack FP.dconst0) (fun m81 m82 => (m81, t_over, t_failed, m82))) else (zl2 (s_Rn_push u6 t_stack FP.dconst1) (fun m87 m88 => (m87, t_over, t_failed, m88)))) else (if (Op.cmpValue (FP.dcmp r1 FP.dconst0) .l) = 0 then (zl2 (s_Rn_fail t_over t_failed) (fun m105 m106 => (u6, m105, m106, t_stack))) else (zl2 (s_Rn_pushOutcome u6 t_over t_failed t_stack (FP.ddiv r5 r1)) (fun m97 z_m97 => zl2 z_m97 (fun m98 z_m98 => zl2 z_m98 (fun m99 m100 => (m97, m98, m99, m100))))))))))))))))
def p_Rn_operate (t_top : Int32) (t_over : Int32) (t_failed : Int32) (t_stack : Nat → UInt64) (x1 : Int32) : Prop := WP_Rn_operate t_top t_over t_failed t_stack x1 (fun _ => True)
set_option maxRecDepth 100000 in
theorem v_Rn_operate (t_top : Int32) (t_over : Int32) (t_failed : Int32) (t_stack : Nat → UInt64) (x1 : Int32) (hp : p_Rn_operate t_top t_over t_failed t_stack x1) : WP_Rn_operate t_top t_over t_failed t_stack x1 (fun u => s_Rn_operate t_top t_over t_failed t_stack x1 = u) := by
  unfold p_Rn_operate WP_Rn_operate at hp
  obtain ⟨tgt, f0⟩ : ∃ tgt, s_Rn_operate t_top t_over t_failed t_stack x1 = tgt := ⟨_, rfl⟩
  rw [f0]
  unfold s_Rn_operate at f0
  unfold WP_Rn_operate
  refine ⟨hp.1, ?_⟩
  have g2 := hp.2
  intro r1 u2 e3
  have g1 := g2 r1 u2 e3
  have f1 := Eq.trans (Eq.symm (zl2_eq e3)) f0
  refine ⟨g1.1, ?_⟩
  have g4 := g1.2
  intro r5 u6 e7
  have g3 := g4 r5 u6 e7
  have f3 := Eq.trans (Eq.symm (zl2_eq e7)) f1
  refine ⟨fun c9_0 => ?_, fun c9_0 => ?_⟩
  · have f5 := Eq.trans (Eq.symm (if_pos c9_0)) f3
    have g5 := g3.1 c9_0
    refine ⟨g5.1, ?_⟩
    have g6 := g5.2
    refine ⟨g6.1, ?_⟩
    have g8 := g6.2
    intro m15 m16 m17 m18 e14
    have g7 := g8 m15 m16 m17 m18 e14
    have f7 := Eq.trans (Eq.symm (zl2_eq e14)) f5
    have f7 := Eq.trans (Eq.symm (zl2_eq (Eq.refl (m16, m17, m18)))) f7
    have f7 := Eq.trans (Eq.symm (zl2_eq (Eq.refl (m17, m18)))) f7
    exact f7.symm
  · have f5 := Eq.trans (Eq.symm (if_neg c9_0)) f3
    have g5 := g3.2 c9_0
    refine ⟨fun c9_1 => ?_, fun c9_1 => ?_⟩
    · have f9 := Eq.trans (Eq.symm (if_pos c9_1)) f5
      have g9 := g5.1 c9_1
      refine ⟨g9.1, ?_⟩
      have g10 := g9.2
      refine ⟨g10.1, ?_⟩
      have g12 := g10.2
      intro m26 m27 m28 m29 e25
      have g11 := g12 m26 m27 m28 m29 e25
      have f11 := Eq.trans (Eq.symm (zl2_eq e25)) f9
      have f11 := Eq.trans (Eq.symm (zl2_eq (Eq.refl (m27, m28, m29)))) f11
      have f11 := Eq.trans (Eq.symm (zl2_eq (Eq.refl (m28, m29)))) f11
      exact f11.symm
    · have f9 := Eq.trans (Eq.symm (if_neg c9_1)) f5
      have g9 := g5.2 c9_1
      refine ⟨fun c9_2 => ?_, fun c9_2 => ?_⟩
      · have f13 := Eq.trans (Eq.symm (if_pos c9_2)) f9
        have g13 := g9.1 c9_2
        refine ⟨g13.1, ?_⟩
        have g14 := g13.2
        refine ⟨g14.1, ?_⟩
        have g16 := g14.2
        intro m37 m38 m39 m40 e36
        have g15 := g16 m37 m38 m39 m40 e36
        have f15 := Eq.trans (Eq.symm (zl2_eq e36)) f13
        have f15 := Eq.trans (Eq.symm (zl2_eq (Eq.refl (m38, m39, m40)))) f15
        have f15 := Eq.trans (Eq.symm (zl2_eq (Eq.refl (m39, m40)))) f15
        exact f15.symm
      · have f13 := Eq.trans (Eq.symm (if_neg c9_2)) f9
        have g13 := g9.2 c9_2
        refine ⟨fun c9_3 => ?_, fun c9_3 => ?_⟩
        · have f17 := Eq.trans (Eq.symm (if_pos c9_3)) f13
          have g17 := g13.1 c9_3
          refine ⟨fun c44 => ?_, fun c44 => ?_⟩
          · have f18 := Eq.trans (Eq.symm (if_pos c44)) f17
            have g18 := g17.1 c44
            refine ⟨g18.1, ?_⟩
            have g20 := g18.2
            intro m49 m50 e48
            have g19 := g20 m49 m50 e48
            have f19 := Eq.trans (Eq.symm (zl2_eq e48)) f18
            exact f19.symm
          · have f18 := Eq.trans (Eq.symm (if_neg c44)) f17
            have g18 := g17.2 c44
            refine ⟨g18.1, ?_⟩
            have g22 := g18.2
            intro m55 m56 e54
            have g21 := g22 m55 m56 e54
            have f21 := Eq.trans (Eq.symm (zl2_eq e54)) f18
            exact f21.symm
        · have f17 := Eq.trans (Eq.symm (if_neg c9_3)) f13
          have g17 := g13.2 c9_3
          refine ⟨fun c9_4 => ?_, fun c9_4 => ?_⟩
          · have f23 := Eq.trans (Eq.symm (if_pos c9_4)) f17
            have g23 := g17.1 c9_4
            refine ⟨fun c60 => ?_, fun c60 => ?_⟩
            · have f24 := Eq.trans (Eq.symm (if_neg c60)) f23
              have g24 := g23.1 c60
              refine ⟨g24.1, ?_⟩
              have g26 := g24.2
              intro m65 m66 e64
              have g25 := g26 m65 m66 e64
              have f25 := Eq.trans (Eq.symm (zl2_eq e64)) f24
              exact f25.symm
            · have f24 := Eq.trans (Eq.symm (if_pos c60)) f23
              have g24 := g23.2 c60
              refine ⟨g24.1, ?_⟩
              have g28 := g24.2
              intro m71 m72 e70
              have g27 := g28 m71 m72 e70
              have f27 := Eq.trans (Eq.symm (zl2_eq e70)) f24
              exact f27.symm
          · have f23 := Eq.trans (Eq.symm (if_neg c9_4)) f17
            have g23 := g17.2 c9_4
            refine ⟨fun c9_5 => ?_, fun c9_5 => ?_⟩
            · have f29 := Eq.trans (Eq.symm (if_pos c9_5)) f23
              have g29 := g23.1 c9_5
              refine ⟨fun c76 => ?_, fun c76 => ?_⟩
              · have f30 := Eq.trans (Eq.symm (if_pos c76)) f29
                have g30 := g29.1 c76
                refine ⟨g30.1, ?_⟩
                have g32 := g30.2
                intro m81 m82 e80
                have g31 := g32 m81 m82 e80
                have f31 := Eq.trans (Eq.symm (zl2_eq e80)) f30
                exact f31.symm
              · have f30 := Eq.trans (Eq.symm (if_neg c76)) f29
                have g30 := g29.2 c76
                refine ⟨g30.1, ?_⟩
                have g34 := g30.2
                intro m87 m88 e86
                have g33 := g34 m87 m88 e86
                have f33 := Eq.trans (Eq.symm (zl2_eq e86)) f30
                exact f33.symm
            · have f29 := Eq.trans (Eq.symm (if_neg c9_5)) f23
              have g29 := g23.2 c9_5
              refine ⟨fun c91 => ?_, fun c91 => ?_⟩
              · have f35 := Eq.trans (Eq.symm (if_neg c91)) f29
                have g35 := g29.1 c91
                refine ⟨g35.1, ?_⟩
                have g36 := g35.2
                refine ⟨g36.1, ?_⟩
                have g38 := g36.2
                intro m97 m98 m99 m100 e96
                have g37 := g38 m97 m98 m99 m100 e96
                have f37 := Eq.trans (Eq.symm (zl2_eq e96)) f35
                have f37 := Eq.trans (Eq.symm (zl2_eq (Eq.refl (m98, m99, m100)))) f37
                have f37 := Eq.trans (Eq.symm (zl2_eq (Eq.refl (m99, m100)))) f37
                exact f37.symm
              · have f35 := Eq.trans (Eq.symm (if_pos c91)) f29
                have g35 := g29.2 c91
                intro m105 m106 e104
                have g39 := g35 m105 m106 e104
                have f39 := Eq.trans (Eq.symm (zl2_eq e104)) f35
                exact f39.symm
theorem c_Rn_operate (l : Launch) (D : va_G) (K : Nat → ClassId) (q_t : Nat) (q_t_stack : Nat) (q_t_variables : Nat) (q_t_gatherers : Nat) (q_t_records : Nat) (t_time : Int32) (t_dropped : Int32) (t_thread : Int32) (t_handedA : UInt64) (t_handedB : UInt64) (t_handedC : UInt64) (t_top : Int32) (t_over : Int32) (t_failed : Int32) (t_met : Int32) (t_stack : Nat → UInt64) (x1 : Int32) (hp : p_Rn_operate t_top t_over t_failed t_stack x1) : zCv l y_Rn_operate wy_Rn_operate rm_Rn_operate D zcl (zT K) [.ref q_t, .int x1] (w_Rn_operate K q_t q_t_stack q_t_variables q_t_gatherers q_t_records t_time t_dropped t_thread t_handedA t_handedB t_handedC t_met (t_top, t_over, t_failed, t_stack)) (w_Rn_operate K q_t q_t_stack q_t_variables q_t_gatherers q_t_records t_time t_dropped t_thread t_handedA t_handedB t_handedC t_met) (fun u => s_Rn_operate t_top t_over t_failed t_stack x1 = u) 0 0 := cw_Rn_operate l D K q_t q_t_stack q_t_variables q_t_gatherers q_t_records t_time t_dropped t_thread t_handedA t_handedB t_handedC t_top t_over t_failed t_met t_stack x1 (v_Rn_operate t_top t_over t_failed t_stack x1 hp)
