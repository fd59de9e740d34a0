-- RuleTracer$Records.take()D: reads ['t.oldest', 't.size', 't.ring'], changes ['t.oldest', 't.size']
abbrev w_Re_take (K : Nat → ClassId) (q_t q_t_ring : Nat) (t_lost : Int32) (t_ring : Nat → UInt64) (u : Int32 × Int32) : va_W := [zo 1 q_t [.ref q_t_ring, .int u.1, .int u.2, .int t_lost], zaD K q_t_ring 6 t_ring]
abbrev rm_Re_take : Room := { frames := 0, cells := 0, slots := 0, locals := 0 }
abbrev wy_Re_take : List Cond := .code y_Re_take b_Re_take 3 (some .double) :: zWT
def WP_Re_take (t_oldest : Int32) (t_size : Int32) (t_ring : Nat → UInt64) (Q : UInt64 → (Int32 × Int32) → Prop) : Prop := vp_in t_oldest 6 ∧ Q (t_ring t_oldest.toNatClampNeg) ((t_oldest + (1 : Int32)) - (t_oldest + (1 : Int32)) / (6 : Int32) * (6 : Int32), t_size - (1 : Int32))
set_option maxHeartbeats 4000000 in
set_option maxRecDepth 100000 in
theorem cw_Re_take (l : Launch) (D : va_G) (K : Nat → ClassId) (q_t q_t_ring : Nat) (t_oldest : Int32) (t_size : Int32) (t_lost : Int32) (t_ring : Nat → UInt64) {Q : UInt64 → (Int32 × Int32) → Prop} (hS0 : WP_Re_take t_oldest t_size t_ring Q) : zCd l y_Re_take wy_Re_take rm_Re_take D zcl (zT K) [.ref q_t] (w_Re_take K q_t q_t_ring t_lost t_ring (t_oldest, t_size)) (w_Re_take K q_t q_t_ring t_lost t_ring) Q 0 0 := by
  refine z_metd (cc := b_Re_take) (maxL := 3) (ret := (some .double)) (by decide) rfl (Nat.le_of_ble_eq_true rfl) ?_
  intro p e s m args below meth c A C hr hlk hnm
  refine z_lpick (lv' := [(0, .ref q_t)]) [0] rfl ?_
  refine z_weq (ws' := [zo 1 q_t [.ref q_t_ring, .int t_oldest, .int t_size, .int t_lost], zaD K q_t_ring 6 t_ring]) rfl ?_
  refine z_aload_n C d_Re_take_0 rfl 0 rfl ?_
  refine z_get C 0 rfl rfl in_Re 0 (by decide) rfl wf_Re_9 rfl d_Re_take_1 ?_
  refine z_aload_n C d_Re_take_4 rfl 0 rfl ?_
  refine z_get C 0 rfl rfl in_Re 1 (by decide) rfl wf_Re_15 rfl d_Re_take_5 ?_
  refine z_dald C 1 1 rfl rfl hS0.1 d_Re_take_8 ?_
  have hS1 := hS0.2
  refine z_dstore_n (lv' := [(1, .double (t_ring t_oldest.toNatClampNeg)), (0, .ref q_t)]) C d_Re_take_9 rfl (by decide) rfl ?_
  refine z_aload_n C d_Re_take_10 rfl 1 rfl ?_
  refine z_aload_n C d_Re_take_11 rfl 1 rfl ?_
  refine z_get C 0 rfl rfl in_Re 1 (by decide) rfl wf_Re_15 rfl d_Re_take_12 ?_
  refine z_iconst (v := (1 : Int32)) C d_Re_take_15 (by decide) ?_
  refine z_iadd C d_Re_take_16 ?_
  refine z_bipush (v := (6 : Int32)) C d_Re_take_17 (by decide) ?_
  refine z_irem C d_Re_take_19 (by decide) ?_
  refine z_put (ty := .int) (ws' := [zo 1 q_t [.ref q_t_ring, .int ((t_oldest + (1 : Int32)) - (t_oldest + (1 : Int32)) / (6 : Int32) * (6 : Int32)), .int t_size, .int t_lost], zaD K q_t_ring 6 t_ring]) C ty_Re to_Re nm_Re 0 rfl rfl in_Re 1 (by decide) rfl wf_Re_15 rfl rfl rfl rfl (Nat.le_of_ble_eq_true rfl) rfl d_Re_take_20 ?_
  refine z_aload_n C d_Re_take_23 rfl 1 rfl ?_
  refine z_dup C d_Re_take_24 rfl ?_
  refine z_get C 0 rfl rfl in_Re 2 (by decide) rfl wf_Re_19 rfl d_Re_take_25 ?_
  refine z_iconst (v := (1 : Int32)) C d_Re_take_28 (by decide) ?_
  refine z_isub C d_Re_take_29 ?_
  refine z_put (ty := .int) (ws' := [zo 1 q_t [.ref q_t_ring, .int ((t_oldest + (1 : Int32)) - (t_oldest + (1 : Int32)) / (6 : Int32) * (6 : Int32)), .int (t_size - (1 : Int32)), .int t_lost], zaD K q_t_ring 6 t_ring]) C ty_Re to_Re nm_Re 0 rfl rfl in_Re 2 (by decide) rfl wf_Re_19 rfl rfl rfl rfl (Nat.le_of_ble_eq_true rfl) rfl d_Re_take_30 ?_
  refine z_dload_n C d_Re_take_33 rfl 0 rfl ?_
  exact z_dret C hr hlk ((t_oldest + (1 : Int32)) - (t_oldest + (1 : Int32)) / (6 : Int32) * (6 : Int32), t_size - (1 : Int32)) rfl hS1 d_Re_take_34
-- OWED: def s_Re_take (t_oldest : Int32) (t_size : Int32) (t_ring : Nat → UInt64) : UInt64 × Int32 × Int32; theorem v_Re_take (t_oldest : Int32) (t_size : Int32) (t_ring : Nat → UInt64) : WP_Re_take t_oldest t_size t_ring (fun r u => s_Re_take t_oldest t_size t_ring = (r, u.1, u.2))
