-- RuleTracer$Rule.clear()V: reads ['t.length', 't.actions', 't.site', 't.exit', 't.conditional', 't.there', 't.on', 't.failures', 't.meetings'], changes ['t.length', 't.actions', 't.site', 't.exit', 't.conditional', 't.there', 't.on', 't.failures', 't.meetings']
abbrev w_Ru_clear (K : Nat → ClassId) (q_t : Nat) (q_t_steps : Nat)  (u : Int32 × Int32 × Int32 × Int32 × Int32 × Int32 × Int32 × Int32 × Int32) : va_W := [zo 2 q_t [.ref q_t_steps, .int u.1, .int u.2.1, .int u.2.2.1, .int u.2.2.2.1, .int u.2.2.2.2.1, .int u.2.2.2.2.2.1, .int u.2.2.2.2.2.2.1, .int u.2.2.2.2.2.2.2.1, .int u.2.2.2.2.2.2.2.2]]
abbrev rm_Ru_clear : Room := { frames := 0, cells := 0, slots := 0, locals := 0 }
abbrev wy_Ru_clear : List Cond := .code y_Ru_clear b_Ru_clear 1 none :: zWT
def WP_Ru_clear (t_length : Int32) (t_actions : Int32) (t_site : Int32) (t_exit : Int32) (t_conditional : Int32) (t_there : Int32) (t_on : Int32) (t_failures : Int32) (t_meetings : Int32) (Q : (Int32 × Int32 × Int32 × Int32 × Int32 × Int32 × Int32 × Int32 × Int32) → Prop) : Prop := Q ((0 : Int32), (0 : Int32), (0 : Int32), (0 : Int32), (0 : Int32), (0 : Int32), (0 : Int32), (0 : Int32), (0 : Int32))
set_option maxHeartbeats 4000000 in
set_option maxRecDepth 100000 in
theorem cw_Ru_clear (l : Launch) (D : va_G) (K : Nat → ClassId) (q_t : Nat) (q_t_steps : Nat) (t_length : Int32) (t_actions : Int32) (t_site : Int32) (t_exit : Int32) (t_conditional : Int32) (t_there : Int32) (t_on : Int32) (t_failures : Int32) (t_meetings : Int32) {Q : (Int32 × Int32 × Int32 × Int32 × Int32 × Int32 × Int32 × Int32 × Int32) → Prop} (hS0 : WP_Ru_clear t_length t_actions t_site t_exit t_conditional t_there t_on t_failures t_meetings Q) : zCv l y_Ru_clear wy_Ru_clear rm_Ru_clear D zcl (zT K) [.ref q_t] (w_Ru_clear K q_t q_t_steps (t_length, t_actions, t_site, t_exit, t_conditional, t_there, t_on, t_failures, t_meetings)) (w_Ru_clear K q_t q_t_steps) Q 0 0 := by
  refine z_metv (cc := b_Ru_clear) (maxL := 1) (ret := none) (by decide) rfl (Nat.le_of_ble_eq_true rfl) ?_
  intro p e s m args below meth c A C hr hlk hnm
  refine z_lpick (lv' := [(0, .ref q_t)]) [0] rfl ?_
  refine z_weq (ws' := [zo 2 q_t [.ref q_t_steps, .int t_length, .int t_actions, .int t_site, .int t_exit, .int t_conditional, .int t_there, .int t_on, .int t_failures, .int t_meetings]]) rfl ?_
  refine z_aload_n C d_Ru_clear_0 rfl 0 rfl ?_
  refine z_iconst (v := (0 : Int32)) C d_Ru_clear_1 (by decide) ?_
  refine z_put (ty := .int) (ws' := [zo 2 q_t [.ref q_t_steps, .int (0 : Int32), .int t_actions, .int t_site, .int t_exit, .int t_conditional, .int t_there, .int t_on, .int t_failures, .int t_meetings]]) C ty_Ru to_Ru nm_Ru 0 rfl rfl in_Ru 1 (by decide) rfl wf_Ru_15 rfl rfl rfl rfl (Nat.le_of_ble_eq_true rfl) rfl d_Ru_clear_2 ?_
  refine z_aload_n C d_Ru_clear_5 rfl 0 rfl ?_
  refine z_iconst (v := (0 : Int32)) C d_Ru_clear_6 (by decide) ?_
  refine z_put (ty := .int) (ws' := [zo 2 q_t [.ref q_t_steps, .int (0 : Int32), .int (0 : Int32), .int t_site, .int t_exit, .int t_conditional, .int t_there, .int t_on, .int t_failures, .int t_meetings]]) C ty_Ru to_Ru nm_Ru 0 rfl rfl in_Ru 2 (by decide) rfl wf_Ru_19 rfl rfl rfl rfl (Nat.le_of_ble_eq_true rfl) rfl d_Ru_clear_7 ?_
  refine z_aload_n C d_Ru_clear_10 rfl 0 rfl ?_
  refine z_iconst (v := (0 : Int32)) C d_Ru_clear_11 (by decide) ?_
  refine z_put (ty := .int) (ws' := [zo 2 q_t [.ref q_t_steps, .int (0 : Int32), .int (0 : Int32), .int (0 : Int32), .int t_exit, .int t_conditional, .int t_there, .int t_on, .int t_failures, .int t_meetings]]) C ty_Ru to_Ru nm_Ru 0 rfl rfl in_Ru 3 (by decide) rfl wf_Ru_22 rfl rfl rfl rfl (Nat.le_of_ble_eq_true rfl) rfl d_Ru_clear_12 ?_
  refine z_aload_n C d_Ru_clear_15 rfl 0 rfl ?_
  refine z_iconst (v := (0 : Int32)) C d_Ru_clear_16 (by decide) ?_
  refine z_put (ty := .boolean) (ws' := [zo 2 q_t [.ref q_t_steps, .int (0 : Int32), .int (0 : Int32), .int (0 : Int32), .int (0 : Int32), .int t_conditional, .int t_there, .int t_on, .int t_failures, .int t_meetings]]) C ty_Ru to_Ru nm_Ru 0 rfl rfl in_Ru 4 (by decide) rfl wf_Ru_25 rfl rfl rfl rfl (Nat.le_of_ble_eq_true rfl) rfl d_Ru_clear_17 ?_
  refine z_aload_n C d_Ru_clear_20 rfl 0 rfl ?_
  refine z_iconst (v := (0 : Int32)) C d_Ru_clear_21 (by decide) ?_
  refine z_put (ty := .boolean) (ws' := [zo 2 q_t [.ref q_t_steps, .int (0 : Int32), .int (0 : Int32), .int (0 : Int32), .int (0 : Int32), .int (0 : Int32), .int t_there, .int t_on, .int t_failures, .int t_meetings]]) C ty_Ru to_Ru nm_Ru 0 rfl rfl in_Ru 5 (by decide) rfl wf_Ru_29 rfl rfl rfl rfl (Nat.le_of_ble_eq_true rfl) rfl d_Ru_clear_22 ?_
  refine z_aload_n C d_Ru_clear_25 rfl 0 rfl ?_
  refine z_iconst (v := (0 : Int32)) C d_Ru_clear_26 (by decide) ?_
  refine z_put (ty := .boolean) (ws' := [zo 2 q_t [.ref q_t_steps, .int (0 : Int32), .int (0 : Int32), .int (0 : Int32), .int (0 : Int32), .int (0 : Int32), .int (0 : Int32), .int t_on, .int t_failures, .int t_meetings]]) C ty_Ru to_Ru nm_Ru 0 rfl rfl in_Ru 6 (by decide) rfl wf_Ru_32 rfl rfl rfl rfl (Nat.le_of_ble_eq_true rfl) rfl d_Ru_clear_27 ?_
  refine z_aload_n C d_Ru_clear_30 rfl 0 rfl ?_
  refine z_iconst (v := (0 : Int32)) C d_Ru_clear_31 (by decide) ?_
  refine z_put (ty := .boolean) (ws' := [zo 2 q_t [.ref q_t_steps, .int (0 : Int32), .int (0 : Int32), .int (0 : Int32), .int (0 : Int32), .int (0 : Int32), .int (0 : Int32), .int (0 : Int32), .int t_failures, .int t_meetings]]) C ty_Ru to_Ru nm_Ru 0 rfl rfl in_Ru 7 (by decide) rfl wf_Ru_35 rfl rfl rfl rfl (Nat.le_of_ble_eq_true rfl) rfl d_Ru_clear_32 ?_
  refine z_aload_n C d_Ru_clear_35 rfl 0 rfl ?_
  refine z_iconst (v := (0 : Int32)) C d_Ru_clear_36 (by decide) ?_
  refine z_put (ty := .int) (ws' := [zo 2 q_t [.ref q_t_steps, .int (0 : Int32), .int (0 : Int32), .int (0 : Int32), .int (0 : Int32), .int (0 : Int32), .int (0 : Int32), .int (0 : Int32), .int (0 : Int32), .int t_meetings]]) C ty_Ru to_Ru nm_Ru 0 rfl rfl in_Ru 8 (by decide) rfl wf_Ru_38 rfl rfl rfl rfl (Nat.le_of_ble_eq_true rfl) rfl d_Ru_clear_37 ?_
  refine z_aload_n C d_Ru_clear_40 rfl 0 rfl ?_
  refine z_iconst (v := (0 : Int32)) C d_Ru_clear_41 (by decide) ?_
  refine z_put (ty := .int) (ws' := [zo 2 q_t [.ref q_t_steps, .int (0 : Int32), .int (0 : Int32), .int (0 : Int32), .int (0 : Int32), .int (0 : Int32), .int (0 : Int32), .int (0 : Int32), .int (0 : Int32), .int (0 : Int32)]]) C ty_Ru to_Ru nm_Ru 0 rfl rfl in_Ru 9 (by decide) rfl wf_Ru_41 rfl rfl rfl rfl (Nat.le_of_ble_eq_true rfl) rfl d_Ru_clear_42 ?_
  exact z_vret C hr hlk ((0 : Int32), (0 : Int32), (0 : Int32), (0 : Int32), (0 : Int32), (0 : Int32), (0 : Int32), (0 : Int32), (0 : Int32)) rfl hS0 d_Ru_clear_45
def s_Ru_clear (t_length : Int32) (t_actions : Int32) (t_site : Int32) (t_exit : Int32) (t_conditional : Int32) (t_there : Int32) (t_on : Int32) (t_failures : Int32) (t_meetings : Int32) : Int32 × Int32 × Int32 × Int32 × Int32 × Int32 × Int32 × Int32 × Int32 := ((0 : Int32), (0 : Int32), (0 : Int32), (0 : Int32), (0 : Int32), (0 : Int32), (0 : Int32), (0 : Int32), (0 : Int32))
set_option maxRecDepth 100000 in
theorem v_Ru_clear (t_length : Int32) (t_actions : Int32) (t_site : Int32) (t_exit : Int32) (t_conditional : Int32) (t_there : Int32) (t_on : Int32) (t_failures : Int32) (t_meetings : Int32) : WP_Ru_clear t_length t_actions t_site t_exit t_conditional t_there t_on t_failures t_meetings (fun u => s_Ru_clear t_length t_actions t_site t_exit t_conditional t_there t_on t_failures t_meetings = u) := by
  obtain ⟨tgt, f0⟩ : ∃ tgt, s_Ru_clear t_length t_actions t_site t_exit t_conditional t_there t_on t_failures t_meetings = tgt := ⟨_, rfl⟩
  rw [f0]
  unfold s_Ru_clear at f0
  unfold WP_Ru_clear
  exact f0.symm
theorem c_Ru_clear (l : Launch) (D : va_G) (K : Nat → ClassId) (q_t : Nat) (q_t_steps : Nat) (t_length : Int32) (t_actions : Int32) (t_site : Int32) (t_exit : Int32) (t_conditional : Int32) (t_there : Int32) (t_on : Int32) (t_failures : Int32) (t_meetings : Int32) : zCv l y_Ru_clear wy_Ru_clear rm_Ru_clear D zcl (zT K) [.ref q_t] (w_Ru_clear K q_t q_t_steps (t_length, t_actions, t_site, t_exit, t_conditional, t_there, t_on, t_failures, t_meetings)) (w_Ru_clear K q_t q_t_steps) (fun u => s_Ru_clear t_length t_actions t_site t_exit t_conditional t_there t_on t_failures t_meetings = u) 0 0 := cw_Ru_clear l D K q_t q_t_steps t_length t_actions t_site t_exit t_conditional t_there t_on t_failures t_meetings (v_Ru_clear t_length t_actions t_site t_exit t_conditional t_there t_on t_failures t_meetings)
-- RuleTracer$Rule.add(I)V: reads ['t.length', 't.steps'], changes ['t.length', 't.steps']
abbrev w_Ru_add (K : Nat → ClassId) (q_t : Nat) (q_t_steps : Nat) (t_actions : Int32) (t_site : Int32) (t_exit : Int32) (t_conditional : Int32) (t_there : Int32) (t_on : Int32) (t_failures : Int32) (t_meetings : Int32) (u : Int32 × (Nat → Int32)) : va_W := [zo 2 q_t [.ref q_t_steps, .int u.1, .int t_actions, .int t_site, .int t_exit, .int t_conditional, .int t_there, .int t_on, .int t_failures, .int t_meetings], zaI K q_t_steps 48 u.2]
abbrev rm_Ru_add : Room := { frames := 0, cells := 0, slots := 0, locals := 0 }
abbrev wy_Ru_add : List Cond := .code y_Ru_add b_Ru_add 2 none :: zWT
def WP_Ru_add (t_length : Int32) (t_steps : Nat → Int32) (x1 : Int32) (Q : (Int32 × (Nat → Int32)) → Prop) : Prop := (((48 : Int32) ≤ t_length) → Q (t_length, t_steps)) ∧ ((¬ (48 : Int32) ≤ t_length) → vp_in t_length 48 ∧ Q (t_length + (1 : Int32), upd t_steps t_length.toNatClampNeg x1))
set_option maxHeartbeats 4000000 in
set_option maxRecDepth 100000 in
theorem cw_Ru_add (l : Launch) (D : va_G) (K : Nat → ClassId) (q_t : Nat) (q_t_steps : Nat) (t_length : Int32) (t_actions : Int32) (t_site : Int32) (t_exit : Int32) (t_conditional : Int32) (t_there : Int32) (t_on : Int32) (t_failures : Int32) (t_meetings : Int32) (t_steps : Nat → Int32) (x1 : Int32) {Q : (Int32 × (Nat → Int32)) → Prop} (hS0 : WP_Ru_add t_length t_steps x1 Q) : zCv l y_Ru_add wy_Ru_add rm_Ru_add D zcl (zT K) [.ref q_t, .int x1] (w_Ru_add K q_t q_t_steps t_actions t_site t_exit t_conditional t_there t_on t_failures t_meetings (t_length, t_steps)) (w_Ru_add K q_t q_t_steps t_actions t_site t_exit t_conditional t_there t_on t_failures t_meetings) Q 0 0 := by
  refine z_metv (cc := b_Ru_add) (maxL := 2) (ret := none) (by decide) rfl (Nat.le_of_ble_eq_true rfl) ?_
  intro p e s m args below meth c A C hr hlk hnm
  refine z_lpick (lv' := [(0, .ref q_t), (1, .int x1)]) [0, 1] rfl ?_
  refine z_weq (ws' := [zo 2 q_t [.ref q_t_steps, .int t_length, .int t_actions, .int t_site, .int t_exit, .int t_conditional, .int t_there, .int t_on, .int t_failures, .int t_meetings], zaI K q_t_steps 48 t_steps]) rfl ?_
  refine z_aload_n C d_Ru_add_0 rfl 0 rfl ?_
  refine z_get C 0 rfl rfl in_Ru 1 (by decide) rfl wf_Ru_15 rfl d_Ru_add_1 ?_
  refine z_aload_n C d_Ru_add_4 rfl 0 rfl ?_
  refine z_get C 0 rfl rfl in_Ru 0 (by decide) rfl wf_Ru_9 rfl d_Ru_add_5 ?_
  refine z_alen (v := (48 : Int32)) C 1 0 rfl rfl rfl d_Ru_add_8 ?_
  refine z_icmp_ge (tgt := 32) C d_Ru_add_9 (by decide) (fun c1 => ?_) (fun c1 => ?_)
  · have hS2 := hS0.1 c1
    exact z_vret C hr hlk (t_length, t_steps) rfl hS2 d_Ru_add_32
  · have hS2 := hS0.2 c1
    refine z_aload_n C d_Ru_add_12 rfl 0 rfl ?_
    refine z_get C 0 rfl rfl in_Ru 0 (by decide) rfl wf_Ru_9 rfl d_Ru_add_13 ?_
    refine z_aload_n C d_Ru_add_16 rfl 0 rfl ?_
    refine z_get C 0 rfl rfl in_Ru 1 (by decide) rfl wf_Ru_15 rfl d_Ru_add_17 ?_
    refine z_iload_n C d_Ru_add_20 rfl 1 rfl ?_
    refine z_iast (ws' := [zo 2 q_t [.ref q_t_steps, .int t_length, .int t_actions, .int t_site, .int t_exit, .int t_conditional, .int t_there, .int t_on, .int t_failures, .int t_meetings], zaI K q_t_steps 48 (upd t_steps t_length.toNatClampNeg x1)]) C 1 0 rfl rfl hS2.1 rfl d_Ru_add_21 ?_
    have hS3 := hS2.2
    refine z_aload_n C d_Ru_add_22 rfl 0 rfl ?_
    refine z_dup C d_Ru_add_23 rfl ?_
    refine z_get C 0 rfl rfl in_Ru 1 (by decide) rfl wf_Ru_15 rfl d_Ru_add_24 ?_
    refine z_iconst (v := (1 : Int32)) C d_Ru_add_27 (by decide) ?_
    refine z_iadd C d_Ru_add_28 ?_
    refine z_put (ty := .int) (ws' := [zo 2 q_t [.ref q_t_steps, .int (t_length + (1 : Int32)), .int t_actions, .int t_site, .int t_exit, .int t_conditional, .int t_there, .int t_on, .int t_failures, .int t_meetings], zaI K q_t_steps 48 (upd t_steps t_length.toNatClampNeg x1)]) C ty_Ru to_Ru nm_Ru 0 rfl rfl in_Ru 1 (by decide) rfl wf_Ru_15 rfl rfl rfl rfl (Nat.le_of_ble_eq_true rfl) rfl d_Ru_add_29 ?_
    exact z_vret C hr hlk (t_length + (1 : Int32), upd t_steps t_length.toNatClampNeg x1) rfl hS3 d_Ru_add_32
def s_Ru_add (t_length : Int32) (t_steps : Nat → Int32) (x1 : Int32) : Int32 × (Nat → Int32) := (if (48 : Int32) ≤ t_length then (t_length, t_steps) else (t_length + (1 : Int32), upd t_steps t_length.toNatClampNeg x1))
def p_Ru_add (t_length : Int32) (t_steps : Nat → Int32) (x1 : Int32) : Prop := WP_Ru_add t_length t_steps x1 (fun _ => True)
set_option maxRecDepth 100000 in
theorem v_Ru_add (t_length : Int32) (t_steps : Nat → Int32) (x1 : Int32) (hp : p_Ru_add t_length t_steps x1) : WP_Ru_add t_length t_steps x1 (fun u => s_Ru_add t_length t_steps x1 = u) := by
  unfold p_Ru_add WP_Ru_add at hp
  obtain ⟨tgt, f0⟩ : ∃ tgt, s_Ru_add t_length t_steps x1 = tgt := ⟨_, rfl⟩
  rw [f0]
  unfold s_Ru_add at f0
  unfold WP_Ru_add
  refine ⟨fun c1 => ?_, fun c1 => ?_⟩
  · have f1 := Eq.trans (Eq.symm (if_pos c1)) f0
    have g1 := hp.1 c1
    exact f1.symm
  · have f1 := Eq.trans (Eq.symm (if_neg c1)) f0
    have g1 := hp.2 c1
    refine ⟨g1.1, ?_⟩
    have g2 := g1.2
    exact f1.symm
theorem c_Ru_add (l : Launch) (D : va_G) (K : Nat → ClassId) (q_t : Nat) (q_t_steps : Nat) (t_length : Int32) (t_actions : Int32) (t_site : Int32) (t_exit : Int32) (t_conditional : Int32) (t_there : Int32) (t_on : Int32) (t_failures : Int32) (t_meetings : Int32) (t_steps : Nat → Int32) (x1 : Int32) (hp : p_Ru_add t_length t_steps x1) : zCv l y_Ru_add wy_Ru_add rm_Ru_add D zcl (zT K) [.ref q_t, .int x1] (w_Ru_add K q_t q_t_steps t_actions t_site t_exit t_conditional t_there t_on t_failures t_meetings (t_length, t_steps)) (w_Ru_add K q_t q_t_steps t_actions t_site t_exit t_conditional t_there t_on t_failures t_meetings) (fun u => s_Ru_add t_length t_steps x1 = u) 0 0 := cw_Ru_add l D K q_t q_t_steps t_length t_actions t_site t_exit t_conditional t_there t_on t_failures t_meetings t_steps x1 (v_Ru_add t_length t_steps x1 hp)
-- RuleTracer$Rule.isDoneAt(IZ)Z: reads ['t.site', 't.exit', 't.on'], changes []
abbrev w_Ru_isDoneAt (K : Nat → ClassId) (q_t : Nat) (q_t_steps : Nat) (t_length : Int32) (t_actions : Int32) (t_site : Int32) (t_exit : Int32) (t_conditional : Int32) (t_there : Int32) (t_on : Int32) (t_failures : Int32) (t_meetings : Int32) (u : Unit) : va_W := [zo 2 q_t [.ref q_t_steps, .int t_length, .int t_actions, .int t_site, .int t_exit, .int t_conditional, .int t_there, .int t_on, .int t_failures, .int t_meetings]]
abbrev rm_Ru_isDoneAt : Room := { frames := 0, cells := 0, slots := 0, locals := 0 }
abbrev wy_Ru_isDoneAt : List Cond := .code y_Ru_isDoneAt b_Ru_isDoneAt 3 (some .boolean) :: zWT
def WP_Ru_isDoneAt (t_site : Int32) (t_exit : Int32) (t_on : Int32) (x1 : Int32) (x2 : Int32) (Q : Int32 → Unit → Prop) : Prop := ((t_on = 0) → Q (0 : Int32) ()) ∧ ((¬ t_on = 0) → ((¬ t_site = x1) → Q (0 : Int32) ()) ∧ ((t_site = x1) → ((¬ t_exit = x2) → Q (0 : Int32) ()) ∧ ((t_exit = x2) → Q (1 : Int32) ())))
set_option maxHeartbeats 4000000 in
set_option maxRecDepth 100000 in
theorem cw_Ru_isDoneAt (l : Launch) (D : va_G) (K : Nat → ClassId) (q_t : Nat) (q_t_steps : Nat) (t_length : Int32) (t_actions : Int32) (t_site : Int32) (t_exit : Int32) (t_conditional : Int32) (t_there : Int32) (t_on : Int32) (t_failures : Int32) (t_meetings : Int32) (x1 : Int32) (x2 : Int32) {Q : Int32 → Unit → Prop} (hS0 : WP_Ru_isDoneAt t_site t_exit t_on x1 x2 Q) : zCi l y_Ru_isDoneAt wy_Ru_isDoneAt rm_Ru_isDoneAt D zcl (zT K) [.ref q_t, .int x1, .int x2] (w_Ru_isDoneAt K q_t q_t_steps t_length t_actions t_site t_exit t_conditional t_there t_on t_failures t_meetings ()) (w_Ru_isDoneAt K q_t q_t_steps t_length t_actions t_site t_exit t_conditional t_there t_on t_failures t_meetings) Q 0 0 := by
  refine z_meti (cc := b_Ru_isDoneAt) (maxL := 3) (ret := (some .boolean)) (by decide) rfl (Nat.le_of_ble_eq_true rfl) ?_
  intro p e s m args below meth c A C hr hlk hnm
  refine z_lpick (lv' := [(0, .ref q_t), (1, .int x1), (2, .int x2)]) [0, 1, 2] rfl ?_
  refine z_weq (ws' := [zo 2 q_t [.ref q_t_steps, .int t_length, .int t_actions, .int t_site, .int t_exit, .int t_conditional, .int t_there, .int t_on, .int t_failures, .int t_meetings]]) rfl ?_
  refine z_aload_n C d_Ru_isDoneAt_0 rfl 0 rfl ?_
  refine z_get C 0 rfl rfl in_Ru 7 (by decide) rfl wf_Ru_35 rfl d_Ru_isDoneAt_1 ?_
  refine z_if_eq (tgt := 27) C d_Ru_isDoneAt_4 (by decide) (fun c1 => ?_) (fun c1 => ?_)
  · have hS2 := hS0.1 c1
    refine z_iconst (v := (0 : Int32)) C d_Ru_isDoneAt_27 (by decide) ?_
    exact z_zret C hr rfl hlk () rfl hS2 d_Ru_isDoneAt_28
  · have hS2 := hS0.2 c1
    refine z_aload_n C d_Ru_isDoneAt_7 rfl 0 rfl ?_
    refine z_get C 0 rfl rfl in_Ru 3 (by decide) rfl wf_Ru_22 rfl d_Ru_isDoneAt_8 ?_
    refine z_iload_n C d_Ru_isDoneAt_11 rfl 1 rfl ?_
    refine z_icmp_ne (tgt := 27) C d_Ru_isDoneAt_12 (by decide) (fun c3 => ?_) (fun c3 => ?_)
    · have hS4 := hS2.1 c3
      refine z_iconst (v := (0 : Int32)) C d_Ru_isDoneAt_27 (by decide) ?_
      exact z_zret C hr rfl hlk () rfl hS4 d_Ru_isDoneAt_28
    · have hS4 := hS2.2 c3
      refine z_aload_n C d_Ru_isDoneAt_15 rfl 0 rfl ?_
      refine z_get C 0 rfl rfl in_Ru 4 (by decide) rfl wf_Ru_25 rfl d_Ru_isDoneAt_16 ?_
      refine z_iload_n C d_Ru_isDoneAt_19 rfl 2 rfl ?_
      refine z_icmp_ne (tgt := 27) C d_Ru_isDoneAt_20 (by decide) (fun c5 => ?_) (fun c5 => ?_)
      · have hS6 := hS4.1 c5
        refine z_iconst (v := (0 : Int32)) C d_Ru_isDoneAt_27 (by decide) ?_
        exact z_zret C hr rfl hlk () rfl hS6 d_Ru_isDoneAt_28
      · have hS6 := hS4.2 c5
        refine z_iconst (v := (1 : Int32)) C d_Ru_isDoneAt_23 (by decide) ?_
        refine z_goto (tgt := 28) C d_Ru_isDoneAt_24 (by decide) ?_
        exact z_zret C hr rfl hlk () rfl hS6 d_Ru_isDoneAt_28
def s_Ru_isDoneAt (t_site : Int32) (t_exit : Int32) (t_on : Int32) (x1 : Int32) (x2 : Int32) : Int32 := (if t_on = 0 then (0 : Int32) else (if t_site = x1 then (if t_exit = x2 then (1 : Int32) else (0 : Int32)) else (0 : Int32)))
set_option maxRecDepth 100000 in
theorem v_Ru_isDoneAt (t_site : Int32) (t_exit : Int32) (t_on : Int32) (x1 : Int32) (x2 : Int32) : WP_Ru_isDoneAt t_site t_exit t_on x1 x2 (fun r u => s_Ru_isDoneAt t_site t_exit t_on x1 x2 = r) := by
  obtain ⟨tgt, f0⟩ : ∃ tgt, s_Ru_isDoneAt t_site t_exit t_on x1 x2 = tgt := ⟨_, rfl⟩
  rw [f0]
  unfold s_Ru_isDoneAt at f0
  unfold WP_Ru_isDoneAt
  refine ⟨fun c1 => ?_, fun c1 => ?_⟩
  · have f1 := Eq.trans (Eq.symm (if_pos c1)) f0
    exact f1.symm
  · have f1 := Eq.trans (Eq.symm (if_neg c1)) f0
    refine ⟨fun c3 => ?_, fun c3 => ?_⟩
    · have f2 := Eq.trans (Eq.symm (if_neg c3)) f1
      exact f2.symm
    · have f2 := Eq.trans (Eq.symm (if_pos c3)) f1
      refine ⟨fun c5 => ?_, fun c5 => ?_⟩
      · have f3 := Eq.trans (Eq.symm (if_neg c5)) f2
        exact f3.symm
      · have f3 := Eq.trans (Eq.symm (if_pos c5)) f2
        exact f3.symm
theorem c_Ru_isDoneAt (l : Launch) (D : va_G) (K : Nat → ClassId) (q_t : Nat) (q_t_steps : Nat) (t_length : Int32) (t_actions : Int32) (t_site : Int32) (t_exit : Int32) (t_conditional : Int32) (t_there : Int32) (t_on : Int32) (t_failures : Int32) (t_meetings : Int32) (x1 : Int32) (x2 : Int32) : zCi l y_Ru_isDoneAt wy_Ru_isDoneAt rm_Ru_isDoneAt D zcl (zT K) [.ref q_t, .int x1, .int x2] (w_Ru_isDoneAt K q_t q_t_steps t_length t_actions t_site t_exit t_conditional t_there t_on t_failures t_meetings ()) (w_Ru_isDoneAt K q_t q_t_steps t_length t_actions t_site t_exit t_conditional t_there t_on t_failures t_meetings) (fun r u => s_Ru_isDoneAt t_site t_exit t_on x1 x2 = r) 0 0 := cw_Ru_isDoneAt l D K q_t q_t_steps t_length t_actions t_site t_exit t_conditional t_there t_on t_failures t_meetings x1 x2 (v_Ru_isDoneAt t_site t_exit t_on x1 x2)
