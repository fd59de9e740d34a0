-- RuleTracer$Records.take()D: reads ['t.oldest', 't.size', 't.ring'], changes ['t.oldest', 't.size']
abbrev w_Re_take (K : Nat → ClassId) (q_t : Nat) (q_t_ring : Nat) (t_lost : Int32) (t_ring : Nat → UInt64) (u : Int32 × Int32) : va_W := [zo 1 q_t [.ref q_t_ring, .int u.1, .int u.2, .int t_lost], zaD K q_t_ring 6 t_ring]
abbrev rm_Re_take : Room := { frames := 0, cells := 0, slots := 0, locals := 0 }
abbrev wy_Re_take : List Cond := .code y_Re_take b_Re_take 3 (some .double) :: zWT
def WP_Re_take (t_oldest : Int32) (t_size : Int32) (t_ring : Nat → UInt64) (Q : UInt64 → (Int32 × Int32) → Prop) : Prop := vp_in t_oldest 6 ∧ Q (t_ring t_oldest.toNatClampNeg) ((t_oldest + (1 : Int32)) - (t_oldest + (1 : Int32)) / (6 : Int32) * (6 : Int32), t_size - (1 : Int32))
set_option maxHeartbeats 4000000 in
set_option maxRecDepth 100000 in
theorem cw_Re_take (l : Launch) (D : va_G) (K : Nat → ClassId) (q_t : Nat) (q_t_ring : Nat) (t_oldest : Int32) (t_size : Int32) (t_lost : Int32) (t_ring : Nat → UInt64) {Q : UInt64 → (Int32 × Int32) → Prop} (hS0 : WP_Re_take t_oldest t_size t_ring Q) : zCd l y_Re_take wy_Re_take rm_Re_take D zcl (zT K) [.ref q_t] (w_Re_take K q_t q_t_ring t_lost t_ring (t_oldest, t_size)) (w_Re_take K q_t q_t_ring t_lost t_ring) Q 0 0 := by
  refine z_metd (cc := b_Re_take) (maxL := 3) (ret := (some .double)) (by decide) rfl (Nat.le_of_ble_eq_true rfl) ?_
  intro p e s m args below meth c A C hr hlk hnm
  refine z_lpick (lv' := [(0, .ref q_t)]) [0] rfl ?_
  refine z_weq (ws' := [zo 1 q_t [.ref q_t_ring, .int t_oldest, .int t_size, .int t_lost], zaD K q_t_ring 6 t_ring]) rfl ?_
  refine z_aload_n C d_Re_take_0 rfl 0 rfl ?_
  refine z_get C 0 rfl rfl in_Re 0 (by decide) rfl wf_Re_9 rfl d_Re_take_1 ?_
  refine z_aload_n C d_Re_take_4 rfl 0 rfl ?_
  refine z_get C 0 rfl rfl in_Re 1 (by decide) rfl wf_Re_15 rfl d_Re_take_5 ?_
  refine z_dald C 1 1 rfl rfl hS0.1 d_Re_take_8 ?_
  have hS1 := hS0.2
  refine z_dstore_n (lv' := [(1, .double (t_ring t_oldest.toNatClampNeg)), (0, .ref q_t)]) C d_Re_take_9 rfl (by decide) rfl ?_
  refine z_aload_n C d_Re_take_10 rfl 1 rfl ?_
  refine z_aload_n C d_Re_take_11 rfl 1 rfl ?_
  refine z_get C 0 rfl rfl in_Re 1 (by decide) rfl wf_Re_15 rfl d_Re_take_12 ?_
  refine z_iconst (v := (1 : Int32)) C d_Re_take_15 (by decide) ?_
  refine z_iadd C d_Re_take_16 ?_
  refine z_bipush (v := (6 : Int32)) C d_Re_take_17 (by decide) ?_
  refine z_irem C d_Re_take_19 (by decide) ?_
  refine z_put (ty := .int) (ws' := [zo 1 q_t [.ref q_t_ring, .int ((t_oldest + (1 : Int32)) - (t_oldest + (1 : Int32)) / (6 : Int32) * (6 : Int32)), .int t_size, .int t_lost], zaD K q_t_ring 6 t_ring]) C ty_Re to_Re nm_Re 0 rfl rfl in_Re 1 (by decide) rfl wf_Re_15 rfl rfl rfl rfl (Nat.le_of_ble_eq_true rfl) rfl d_Re_take_20 ?_
  refine z_aload_n C d_Re_take_23 rfl 1 rfl ?_
  refine z_dup C d_Re_take_24 rfl ?_
  refine z_get C 0 rfl rfl in_Re 2 (by decide) rfl wf_Re_19 rfl d_Re_take_25 ?_
  refine z_iconst (v := (1 : Int32)) C d_Re_take_28 (by decide) ?_
  refine z_isub C d_Re_take_29 ?_
  refine z_put (ty := .int) (ws' := [zo 1 q_t [.ref q_t_ring, .int ((t_oldest + (1 : Int32)) - (t_oldest + (1 : Int32)) / (6 : Int32) * (6 : Int32)), .int (t_size - (1 : Int32)), .int t_lost], zaD K q_t_ring 6 t_ring]) C ty_Re to_Re nm_Re 0 rfl rfl in_Re 2 (by decide) rfl wf_Re_19 rfl rfl rfl rfl (Nat.le_of_ble_eq_true rfl) rfl d_Re_take_30 ?_
  refine z_dload_n C d_Re_take_33 rfl 0 rfl ?_
  exact z_dret C hr hlk ((t_oldest + (1 : Int32)) - (t_oldest + (1 : Int32)) / (6 : Int32) * (6 : Int32), t_size - (1 : Int32)) rfl hS1 d_Re_take_34
def s_Re_take (t_oldest : Int32) (t_size : Int32) (t_ring : Nat → UInt64) : UInt64 × Int32 × Int32 := (t_ring t_oldest.toNatClampNeg, (t_oldest + (1 : Int32)) - (t_oldest + (1 : Int32)) / (6 : Int32) * (6 : Int32), t_size - (1 : Int32))
def p_Re_take (t_oldest : Int32) (t_size : Int32) (t_ring : Nat → UInt64) : Prop := WP_Re_take t_oldest t_size t_ring (fun _ _ => True)
set_option maxRecDepth 100000 in
theorem v_Re_take (t_oldest : Int32) (t_size : Int32) (t_ring : Nat → UInt64) (hp : p_Re_take t_oldest t_size t_ring) : WP_Re_take t_oldest t_size t_ring (fun r u => s_Re_take t_oldest t_size t_ring = (r, u.1, u.2)) := by
  unfold p_Re_take WP_Re_take at hp
  obtain ⟨tgt, f0⟩ : ∃ tgt, s_Re_take t_oldest t_size t_ring = tgt := ⟨_, rfl⟩
  rw [f0]
  unfold s_Re_take at f0
  unfold WP_Re_take
  refine ⟨hp.1, ?_⟩
  have g1 := hp.2
  exact f0.symm
theorem c_Re_take (l : Launch) (D : va_G) (K : Nat → ClassId) (q_t : Nat) (q_t_ring : Nat) (t_oldest : Int32) (t_size : Int32) (t_lost : Int32) (t_ring : Nat → UInt64) (hp : p_Re_take t_oldest t_size t_ring) : zCd l y_Re_take wy_Re_take rm_Re_take D zcl (zT K) [.ref q_t] (w_Re_take K q_t q_t_ring t_lost t_ring (t_oldest, t_size)) (w_Re_take K q_t q_t_ring t_lost t_ring) (fun r u => s_Re_take t_oldest t_size t_ring = (r, u.1, u.2)) 0 0 := cw_Re_take l D K q_t q_t_ring t_oldest t_size t_lost t_ring (v_Re_take t_oldest t_size t_ring hp)
-- RuleTracer$Records.put(D)V: reads ['t.oldest', 't.size', 't.lost', 't.ring'], changes ['t.oldest', 't.size', 't.lost', 't.ring']
abbrev w_Re_put (K : Nat → ClassId) (q_t : Nat) (q_t_ring : Nat)  (u : Int32 × Int32 × Int32 × (Nat → UInt64)) : va_W := [zo 1 q_t [.ref q_t_ring, .int u.1, .int u.2.1, .int u.2.2.1], zaD K q_t_ring 6 u.2.2.2]
abbrev rm_Re_put : Room := { frames := 1, cells := 0, slots := 0, locals := 22 }
abbrev wy_Re_put : List Cond := .code y_Re_put b_Re_put 3 none :: zWT
def WP_Re_put (t_oldest : Int32) (t_size : Int32) (t_lost : Int32) (t_ring : Nat → UInt64) (x1 : UInt64) (Q : (Int32 × Int32 × Int32 × (Nat → UInt64)) → Prop) : Prop := ((t_size < (6 : Int32)) → vp_in ((t_oldest + t_size) - (t_oldest + t_size) / (6 : Int32) * (6 : Int32)) 6 ∧ Q (t_oldest, t_size + (1 : Int32), t_lost, vf_upd t_ring ((t_oldest + t_size) - (t_oldest + t_size) / (6 : Int32) * (6 : Int32)).toNatClampNeg x1)) ∧ ((¬ t_size < (6 : Int32)) → p_Re_take t_oldest t_size t_ring ∧ (∀ (r4 : UInt64) (m7 : Int32) (m8 : Int32), s_Re_take t_oldest t_size t_ring = (r4, m7, m8) → vp_in ((m7 + m8) - (m7 + m8) / (6 : Int32) * (6 : Int32)) 6 ∧ Q (m7, m8 + (1 : Int32), t_lost + (1 : Int32), vf_upd t_ring ((m7 + m8) - (m7 + m8) / (6 : Int32) * (6 : Int32)).toNatClampNeg x1)))
set_option maxHeartbeats 4000000 in
set_option maxRecDepth 100000 in
theorem cw_Re_put (l : Launch) (D : va_G) (K : Nat → ClassId) (q_t : Nat) (q_t_ring : Nat) (t_oldest : Int32) (t_size : Int32) (t_lost : Int32) (t_ring : Nat → UInt64) (x1 : UInt64) {Q : (Int32 × Int32 × Int32 × (Nat → UInt64)) → Prop} (hS0 : WP_Re_put t_oldest t_size t_lost t_ring x1 Q) : zCv l y_Re_put wy_Re_put rm_Re_put D zcl (zT K) [.ref q_t, .double x1] (w_Re_put K q_t q_t_ring (t_oldest, t_size, t_lost, t_ring)) (w_Re_put K q_t q_t_ring) Q 0 0 := by
  refine z_metv (cc := b_Re_put) (maxL := 3) (ret := none) (by decide) rfl (Nat.le_of_ble_eq_true rfl) ?_
  intro p e s m args below meth c A C hr hlk hnm
  refine z_lpick (lv' := [(0, .ref q_t), (1, .double x1)]) [0, 1] rfl ?_
  refine z_weq (ws' := [zo 1 q_t [.ref q_t_ring, .int t_oldest, .int t_size, .int t_lost], zaD K q_t_ring 6 t_ring]) rfl ?_
  refine z_aload_n C d_Re_put_0 rfl 0 rfl ?_
  refine z_get C 0 rfl rfl in_Re 2 (by decide) rfl wf_Re_19 rfl d_Re_put_1 ?_
  refine z_bipush (v := (6 : Int32)) C d_Re_put_4 (by decide) ?_
  refine z_icmp_lt (tgt := 24) C d_Re_put_6 (by decide) (fun c1 => ?_) (fun c1 => ?_)
  · have hS2 := hS0.1 c1
    refine z_aload_n C d_Re_put_24 rfl 0 rfl ?_
    refine z_get C 0 rfl rfl in_Re 0 (by decide) rfl wf_Re_9 rfl d_Re_put_25 ?_
    refine z_aload_n C d_Re_put_28 rfl 0 rfl ?_
    refine z_get C 0 rfl rfl in_Re 1 (by decide) rfl wf_Re_15 rfl d_Re_put_29 ?_
    refine z_aload_n C d_Re_put_32 rfl 0 rfl ?_
    refine z_get C 0 rfl rfl in_Re 2 (by decide) rfl wf_Re_19 rfl d_Re_put_33 ?_
    refine z_iadd C d_Re_put_36 ?_
    refine z_bipush (v := (6 : Int32)) C d_Re_put_37 (by decide) ?_
    refine z_irem C d_Re_put_39 (by decide) ?_
    refine z_dload_n C d_Re_put_40 rfl 1 rfl ?_
    refine z_dast (ws' := [zo 1 q_t [.ref q_t_ring, .int t_oldest, .int t_size, .int t_lost], zaD K q_t_ring 6 (vf_upd t_ring ((t_oldest + t_size) - (t_oldest + t_size) / (6 : Int32) * (6 : Int32)).toNatClampNeg x1)]) C 1 1 rfl rfl hS2.1 rfl d_Re_put_41 ?_
    have hS3 := hS2.2
    refine z_aload_n C d_Re_put_42 rfl 0 rfl ?_
    refine z_dup C d_Re_put_43 rfl ?_
    refine z_get C 0 rfl rfl in_Re 2 (by decide) rfl wf_Re_19 rfl d_Re_put_44 ?_
    refine z_iconst (v := (1 : Int32)) C d_Re_put_47 (by decide) ?_
    refine z_iadd C d_Re_put_48 ?_
    refine z_put (ty := .int) (ws' := [zo 1 q_t [.ref q_t_ring, .int t_oldest, .int (t_size + (1 : Int32)), .int t_lost], zaD K q_t_ring 6 (vf_upd t_ring ((t_oldest + t_size) - (t_oldest + t_size) / (6 : Int32) * (6 : Int32)).toNatClampNeg x1)]) C ty_Re to_Re nm_Re 0 rfl rfl in_Re 2 (by decide) rfl wf_Re_19 rfl rfl rfl rfl (Nat.le_of_ble_eq_true rfl) rfl d_Re_put_49 ?_
    exact z_vret C hr hlk (t_oldest, t_size + (1 : Int32), t_lost, vf_upd t_ring ((t_oldest + t_size) - (t_oldest + t_size) / (6 : Int32) * (6 : Int32)).toNatClampNeg x1) rfl hS3 d_Re_put_52
  · have hS2 := hS0.2 c1
    refine z_aload_n C d_Re_put_9 rfl 0 rfl ?_
    refine z_callVd (As := []) (b := q_t) (st := []) (wr := []) (wj := fun u => [zo 1 q_t [.ref q_t_ring, .int u.1, .int u.2, .int t_lost], zaD K q_t_ring 6 t_ring]) C 0 rfl rfl (c_Re_take l D K q_t q_t_ring t_oldest t_size t_lost t_ring hS2.1) (cwV 0 C.2.2.2.2.1 (z_gV wl_Re_25 wi_Re_take wv_Re_take wz_Re wk_Re_take) rfl rfl rfl (by decide +kernel) ⟨Nat.le_of_ble_eq_true rfl, Nat.le_of_ble_eq_true rfl⟩) [0, 1] [] [0, 1] rfl rfl rfl rfl (by decide) (fun _ => rfl) rfl rfl rfl (Nat.le_of_ble_eq_true rfl) d_Re_put_10 ⟨Nat.le_of_ble_eq_true rfl, Nat.le_of_ble_eq_true rfl⟩ (fun r4 u5 e6 => ?_)
    obtain ⟨m7, m8⟩ := u5
    refine z_weq (ws' := [zo 1 q_t [.ref q_t_ring, .int m7, .int m8, .int t_lost], zaD K q_t_ring 6 t_ring]) rfl ?_
    have hS9 := hS2.2 r4 m7 m8 e6
    refine z_pop2_2 C d_Re_put_13 rfl ?_
    refine z_aload_n C d_Re_put_14 rfl 0 rfl ?_
    refine z_dup C d_Re_put_15 rfl ?_
    refine z_get C 0 rfl rfl in_Re 3 (by decide) rfl wf_Re_22 rfl d_Re_put_16 ?_
    refine z_iconst (v := (1 : Int32)) C d_Re_put_19 (by decide) ?_
    refine z_iadd C d_Re_put_20 ?_
    refine z_put (ty := .int) (ws' := [zo 1 q_t [.ref q_t_ring, .int m7, .int m8, .int (t_lost + (1 : Int32))], zaD K q_t_ring 6 t_ring]) C ty_Re to_Re nm_Re 0 rfl rfl in_Re 3 (by decide) rfl wf_Re_22 rfl rfl rfl rfl (Nat.le_of_ble_eq_true rfl) rfl d_Re_put_21 ?_
    refine z_aload_n C d_Re_put_24 rfl 0 rfl ?_
    refine z_get C 0 rfl rfl in_Re 0 (by decide) rfl wf_Re_9 rfl d_Re_put_25 ?_
    refine z_aload_n C d_Re_put_28 rfl 0 rfl ?_
    refine z_get C 0 rfl rfl in_Re 1 (by decide) rfl wf_Re_15 rfl d_Re_put_29 ?_
    refine z_aload_n C d_Re_put_32 rfl 0 rfl ?_
    refine z_get C 0 rfl rfl in_Re 2 (by decide) rfl wf_Re_19 rfl d_Re_put_33 ?_
    refine z_iadd C d_Re_put_36 ?_
    refine z_bipush (v := (6 : Int32)) C d_Re_put_37 (by decide) ?_
    refine z_irem C d_Re_put_39 (by decide) ?_
    refine z_dload_n C d_Re_put_40 rfl 1 rfl ?_
    refine z_dast (ws' := [zo 1 q_t [.ref q_t_ring, .int m7, .int m8, .int (t_lost + (1 : Int32))], zaD K q_t_ring 6 (vf_upd t_ring ((m7 + m8) - (m7 + m8) / (6 : Int32) * (6 : Int32)).toNatClampNeg x1)]) C 1 1 rfl rfl hS9.1 rfl d_Re_put_41 ?_
    have hS10 := hS9.2
    refine z_aload_n C d_Re_put_42 rfl 0 rfl ?_
    refine z_dup C d_Re_put_43 rfl ?_
    refine z_get C 0 rfl rfl in_Re 2 (by decide) rfl wf_Re_19 rfl d_Re_put_44 ?_
    refine z_iconst (v := (1 : Int32)) C d_Re_put_47 (by decide) ?_
    refine z_iadd C d_Re_put_48 ?_
    refine z_put (ty := .int) (ws' := [zo 1 q_t [.ref q_t_ring, .int m7, .int (m8 + (1 : Int32)), .int (t_lost + (1 : Int32))], zaD K q_t_ring 6 (vf_upd t_ring ((m7 + m8) - (m7 + m8) / (6 : Int32) * (6 : Int32)).toNatClampNeg x1)]) C ty_Re to_Re nm_Re 0 rfl rfl in_Re 2 (by decide) rfl wf_Re_19 rfl rfl rfl rfl (Nat.le_of_ble_eq_true rfl) rfl d_Re_put_49 ?_
    exact z_vret C hr hlk (m7, m8 + (1 : Int32), t_lost + (1 : Int32), vf_upd t_ring ((m7 + m8) - (m7 + m8) / (6 : Int32) * (6 : Int32)).toNatClampNeg x1) rfl hS10 d_Re_put_52
def s_Re_put (t_oldest : Int32) (t_size : Int32) (t_lost : Int32) (t_ring : Nat → UInt64) (x1 : UInt64) : Int32 × Int32 × Int32 × (Nat → UInt64) := (if t_size < (6 : Int32) then (t_oldest, t_size + (1 : Int32), t_lost, vf_upd t_ring ((t_oldest + t_size) - (t_oldest + t_size) / (6 : Int32) * (6 : Int32)).toNatClampNeg x1) else (zl2 (s_Re_take t_oldest t_size t_ring) (fun r4 z_r4 => zl2 z_r4 (fun m7 m8 => (m7, m8 + (1 : Int32), t_lost + (1 : Int32), vf_upd t_ring ((m7 + m8) - (m7 + m8) / (6 : Int32) * (6 : Int32)).toNatClampNeg x1)))))
def p_Re_put (t_oldest : Int32) (t_size : Int32) (t_lost : Int32) (t_ring : Nat → UInt64) (x1 : UInt64) : Prop := WP_Re_put t_oldest t_size t_lost t_ring x1 (fun _ => True)
set_option maxRecDepth 100000 in
theorem v_Re_put (t_oldest : Int32) (t_size : Int32) (t_lost : Int32) (t_ring : Nat → UInt64) (x1 : UInt64) (hp : p_Re_put t_oldest t_size t_lost t_ring x1) : WP_Re_put t_oldest t_size t_lost t_ring x1 (fun u => s_Re_put t_oldest t_size t_lost t_ring x1 = u) := by
  unfold p_Re_put WP_Re_put at hp
  obtain ⟨tgt, f0⟩ : ∃ tgt, s_Re_put t_oldest t_size t_lost t_ring x1 = tgt := ⟨_, rfl⟩
  rw [f0]
  unfold s_Re_put at f0
  unfold WP_Re_put
  refine ⟨fun c1 => ?_, fun c1 => ?_⟩
  · have f1 := Eq.trans (Eq.symm (if_pos c1)) f0
    have g1 := hp.1 c1
    refine ⟨g1.1, ?_⟩
    have g2 := g1.2
    exact f1.symm
  · have f1 := Eq.trans (Eq.symm (if_neg c1)) f0
    have g1 := hp.2 c1
    refine ⟨g1.1, ?_⟩
    have g4 := g1.2
    intro r4 m7 m8 e6
    have g3 := g4 r4 m7 m8 e6
    have f3 := Eq.trans (Eq.symm (zl2_eq e6)) f1
    have f3 := Eq.trans (Eq.symm (zl2_eq (Eq.refl (m7, m8)))) f3
    refine ⟨g3.1, ?_⟩
    have g5 := g3.2
    exact f3.symm
theorem c_Re_put (l : Launch) (D : va_G) (K : Nat → ClassId) (q_t : Nat) (q_t_ring : Nat) (t_oldest : Int32) (t_size : Int32) (t_lost : Int32) (t_ring : Nat → UInt64) (x1 : UInt64) (hp : p_Re_put t_oldest t_size t_lost t_ring x1) : zCv l y_Re_put wy_Re_put rm_Re_put D zcl (zT K) [.ref q_t, .double x1] (w_Re_put K q_t q_t_ring (t_oldest, t_size, t_lost, t_ring)) (w_Re_put K q_t q_t_ring) (fun u => s_Re_put t_oldest t_size t_lost t_ring x1 = u) 0 0 := cw_Re_put l D K q_t q_t_ring t_oldest t_size t_lost t_ring x1 (v_Re_put t_oldest t_size t_lost t_ring x1 hp)
