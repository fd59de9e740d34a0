-- RuleTracerModel.thrown()I: reads ['t.thrown'], changes []
abbrev w_Mo_thrown (K : Nat → ClassId) (q_t : Nat) (q_t_text : Nat) (q_t_code : Nat) (q_t_site : Nat) (q_t_condition : Nat) (q_t_actions : Nat) (q_t_kind : Nat) (q_t_target : Nat) (q_t_first : Nat) (q_t_second : Nat) (q_t_failures : Nat) (q_t_met : Nat) (q_t_there : Nat) (q_t_on : Nat) (q_t_compared : Nat) (q_t_globals : Nat) (q_t_own : Nat) (q_t_records : Nat) (q_t_pile : Nat) (q_t_handed : Nat) (q_t_keys : Nat) (q_t_key : Nat) (q_t_count : Nat) (q_t_bins : Nat) (q_t_operator : Nat) (q_t_starts : Nat) (q_t_sum : Nat) (q_t_least : Nat) (q_t_greatest : Nat) (t_newSite : Int32) (t_newCondition : Int32) (t_newActions : Int32) (t_size : Int32) (t_place : Int32) (t_pos : Int32) (t_at : Int32) (t_operators : Int32) (t_recorded : Int32) (t_lost : Int32) (t_dropped : Int32) (t_firings : Int32) (t_time : Int32) (t_thread : Int32) (t_thrown : Int32) (t_failed : Int32) (u : Unit) : va_W := [zo 6 q_t [.ref q_t_text, .ref q_t_code, .ref q_t_site, .ref q_t_condition, .ref q_t_actions, .ref q_t_kind, .ref q_t_target, .ref q_t_first, .ref q_t_second, .ref q_t_failures, .ref q_t_met, .ref q_t_there, .ref q_t_on, .ref q_t_compared, .ref q_t_globals, .ref q_t_own, .ref q_t_records, .ref q_t_pile, .ref q_t_handed, .ref q_t_keys, .ref q_t_key, .ref q_t_count, .ref q_t_bins, .ref q_t_operator, .ref q_t_starts, .ref q_t_sum, .ref q_t_least, .ref q_t_greatest, .int t_newSite, .int t_newCondition, .int t_newActions, .int t_size, .int t_place, .int t_pos, .int t_at, .int t_operators, .int t_recorded, .int t_lost, .int t_dropped, .int t_firings, .int t_time, .int t_thread, .int t_thrown, .int t_failed]]
abbrev rm_Mo_thrown : Room := { frames := 0, cells := 0, slots := 0, locals := 0 }
abbrev wy_Mo_thrown : List Cond := .code y_Mo_thrown b_Mo_thrown 1 (some .int) :: zWT
def WP_Mo_thrown (t_thrown : Int32) (Q : Int32 → Unit → Prop) : Prop := Q t_thrown ()
set_option maxHeartbeats 4000000 in
set_option maxRecDepth 100000 in
theorem cw_Mo_thrown (l : Launch) (D : va_G) (K : Nat → ClassId) (q_t : Nat) (q_t_text : Nat) (q_t_code : Nat) (q_t_site : Nat) (q_t_condition : Nat) (q_t_actions : Nat) (q_t_kind : Nat) (q_t_target : Nat) (q_t_first : Nat) (q_t_second : Nat) (q_t_failures : Nat) (q_t_met : Nat) (q_t_there : Nat) (q_t_on : Nat) (q_t_compared : Nat) (q_t_globals : Nat) (q_t_own : Nat) (q_t_records : Nat) (q_t_pile : Nat) (q_t_handed : Nat) (q_t_keys : Nat) (q_t_key : Nat) (q_t_count : Nat) (q_t_bins : Nat) (q_t_operator : Nat) (q_t_starts : Nat) (q_t_sum : Nat) (q_t_least : Nat) (q_t_greatest : Nat) (t_newSite : Int32) (t_newCondition : Int32) (t_newActions : Int32) (t_size : Int32) (t_place : Int32) (t_pos : Int32) (t_at : Int32) (t_operators : Int32) (t_recorded : Int32) (t_lost : Int32) (t_dropped : Int32) (t_firings : Int32) (t_time : Int32) (t_thread : Int32) (t_thrown : Int32) (t_failed : Int32) {Q : Int32 → Unit → Prop} (hS0 : WP_Mo_thrown t_thrown Q) : zCi l y_Mo_thrown wy_Mo_thrown rm_Mo_thrown D zcl (zT K) [.ref q_t] (w_Mo_thrown K q_t q_t_text q_t_code q_t_site q_t_condition q_t_actions q_t_kind q_t_target q_t_first q_t_second q_t_failures q_t_met q_t_there q_t_on q_t_compared q_t_globals q_t_own q_t_records q_t_pile q_t_handed q_t_keys q_t_key q_t_count q_t_bins q_t_operator q_t_starts q_t_sum q_t_least q_t_greatest t_newSite t_newCondition t_newActions t_size t_place t_pos t_at t_operators t_recorded t_lost t_dropped t_firings t_time t_thread t_thrown t_failed ()) (w_Mo_thrown K q_t q_t_text q_t_code q_t_site q_t_condition q_t_actions q_t_kind q_t_target q_t_first q_t_second q_t_failures q_t_met q_t_there q_t_on q_t_compared q_t_globals q_t_own q_t_records q_t_pile q_t_handed q_t_keys q_t_key q_t_count q_t_bins q_t_operator q_t_starts q_t_sum q_t_least q_t_greatest t_newSite t_newCondition t_newActions t_size t_place t_pos t_at t_operators t_recorded t_lost t_dropped t_firings t_time t_thread t_thrown t_failed) Q 0 0 := by
  refine z_meti (cc := b_Mo_thrown) (maxL := 1) (ret := (some .int)) (by decide) rfl (Nat.le_of_ble_eq_true rfl) ?_
  intro p e s m args below meth c A C hr hlk hnm
  refine z_lpick (lv' := [(0, .ref q_t)]) [0] rfl ?_
  refine z_weq (ws' := [zo 6 q_t [.ref q_t_text, .ref q_t_code, .ref q_t_site, .ref q_t_condition, .ref q_t_actions, .ref q_t_kind, .ref q_t_target, .ref q_t_first, .ref q_t_second, .ref q_t_failures, .ref q_t_met, .ref q_t_there, .ref q_t_on, .ref q_t_compared, .ref q_t_globals, .ref q_t_own, .ref q_t_records, .ref q_t_pile, .ref q_t_handed, .ref q_t_keys, .ref q_t_key, .ref q_t_count, .ref q_t_bins, .ref q_t_operator, .ref q_t_starts, .ref q_t_sum, .ref q_t_least, .ref q_t_greatest, .int t_newSite, .int t_newCondition, .int t_newActions, .int t_size, .int t_place, .int t_pos, .int t_at, .int t_operators, .int t_recorded, .int t_lost, .int t_dropped, .int t_firings, .int t_time, .int t_thread, .int t_thrown, .int t_failed]]) rfl ?_
  refine z_aload_n C d_Mo_thrown_0 rfl 0 rfl ?_
  refine z_get C 0 rfl rfl in_Mo 42 (by decide) rfl wf_Mo_100 rfl d_Mo_thrown_1 ?_
  exact z_iret C hr hlk () rfl hS0 d_Mo_thrown_4
def s_Mo_thrown (t_thrown : Int32) : Int32 := t_thrown
set_option maxRecDepth 100000 in
theorem v_Mo_thrown (t_thrown : Int32) : WP_Mo_thrown t_thrown (fun r u => s_Mo_thrown t_thrown = r) := by
  obtain ⟨tgt, f0⟩ : ∃ tgt, s_Mo_thrown t_thrown = tgt := ⟨_, rfl⟩
  rw [f0]
  unfold s_Mo_thrown at f0
  unfold WP_Mo_thrown
  exact f0.symm
theorem c_Mo_thrown (l : Launch) (D : va_G) (K : Nat → ClassId) (q_t : Nat) (q_t_text : Nat) (q_t_code : Nat) (q_t_site : Nat) (q_t_condition : Nat) (q_t_actions : Nat) (q_t_kind : Nat) (q_t_target : Nat) (q_t_first : Nat) (q_t_second : Nat) (q_t_failures : Nat) (q_t_met : Nat) (q_t_there : Nat) (q_t_on : Nat) (q_t_compared : Nat) (q_t_globals : Nat) (q_t_own : Nat) (q_t_records : Nat) (q_t_pile : Nat) (q_t_handed : Nat) (q_t_keys : Nat) (q_t_key : Nat) (q_t_count : Nat) (q_t_bins : Nat) (q_t_operator : Nat) (q_t_starts : Nat) (q_t_sum : Nat) (q_t_least : Nat) (q_t_greatest : Nat) (t_newSite : Int32) (t_newCondition : Int32) (t_newActions : Int32) (t_size : Int32) (t_place : Int32) (t_pos : Int32) (t_at : Int32) (t_operators : Int32) (t_recorded : Int32) (t_lost : Int32) (t_dropped : Int32) (t_firings : Int32) (t_time : Int32) (t_thread : Int32) (t_thrown : Int32) (t_failed : Int32) : zCi l y_Mo_thrown wy_Mo_thrown rm_Mo_thrown D zcl (zT K) [.ref q_t] (w_Mo_thrown K q_t q_t_text q_t_code q_t_site q_t_condition q_t_actions q_t_kind q_t_target q_t_first q_t_second q_t_failures q_t_met q_t_there q_t_on q_t_compared q_t_globals q_t_own q_t_records q_t_pile q_t_handed q_t_keys q_t_key q_t_count q_t_bins q_t_operator q_t_starts q_t_sum q_t_least q_t_greatest t_newSite t_newCondition t_newActions t_size t_place t_pos t_at t_operators t_recorded t_lost t_dropped t_firings t_time t_thread t_thrown t_failed ()) (w_Mo_thrown K q_t q_t_text q_t_code q_t_site q_t_condition q_t_actions q_t_kind q_t_target q_t_first q_t_second q_t_failures q_t_met q_t_there q_t_on q_t_compared q_t_globals q_t_own q_t_records q_t_pile q_t_handed q_t_keys q_t_key q_t_count q_t_bins q_t_operator q_t_starts q_t_sum q_t_least q_t_greatest t_newSite t_newCondition t_newActions t_size t_place t_pos t_at t_operators t_recorded t_lost t_dropped t_firings t_time t_thread t_thrown t_failed) (fun r u => s_Mo_thrown t_thrown = r) 0 0 := cw_Mo_thrown l D K q_t q_t_text q_t_code q_t_site q_t_condition q_t_actions q_t_kind q_t_target q_t_first q_t_second q_t_failures q_t_met q_t_there q_t_on q_t_compared q_t_globals q_t_own q_t_records q_t_pile q_t_handed q_t_keys q_t_key q_t_count q_t_bins q_t_operator q_t_starts q_t_sum q_t_least q_t_greatest t_newSite t_newCondition t_newActions t_size t_place t_pos t_at t_operators t_recorded t_lost t_dropped t_firings t_time t_thread t_thrown t_failed (v_Mo_thrown t_thrown)
-- RuleTracerModel.in(III)Z: reads [], changes []
abbrev w_Mo_in (K : Nat → ClassId)   (u : Unit) : va_W := []
abbrev rm_Mo_in : Room := { frames := 0, cells := 0, slots := 0, locals := 0 }
abbrev wy_Mo_in : List Cond := .code y_Mo_in b_Mo_in 3 (some .boolean) :: zWT
def WP_Mo_in (x0 : Int32) (x1 : Int32) (x2 : Int32) (Q : Int32 → Unit → Prop) : Prop := ((x0 < x1) → Q (0 : Int32) ()) ∧ ((¬ x0 < x1) → ((x2 < x0) → Q (0 : Int32) ()) ∧ ((¬ x2 < x0) → Q (1 : Int32) ()))
set_option maxHeartbeats 4000000 in
set_option maxRecDepth 100000 in
theorem cw_Mo_in (l : Launch) (D : va_G) (K : Nat → ClassId)  (x0 : Int32) (x1 : Int32) (x2 : Int32) {Q : Int32 → Unit → Prop} (hS0 : WP_Mo_in x0 x1 x2 Q) : zCi l y_Mo_in wy_Mo_in rm_Mo_in D zcl (zT K) [.int x0, .int x1, .int x2] (w_Mo_in K ()) (w_Mo_in K) Q 0 0 := by
  refine z_meti (cc := b_Mo_in) (maxL := 3) (ret := (some .boolean)) (by decide) rfl (Nat.le_of_ble_eq_true rfl) ?_
  intro p e s m args below meth c A C hr hlk hnm
  refine z_lpick (lv' := [(0, .int x0), (1, .int x1), (2, .int x2)]) [0, 1, 2] rfl ?_
  refine z_weq (ws' := []) rfl ?_
  refine z_iload_n C d_Mo_in_0 rfl 0 rfl ?_
  refine z_iload_n C d_Mo_in_1 rfl 1 rfl ?_
  refine z_icmp_lt (tgt := 14) C d_Mo_in_2 (by decide) (fun c1 => ?_) (fun c1 => ?_)
  · have hS2 := hS0.1 c1
    refine z_iconst (v := (0 : Int32)) C d_Mo_in_14 (by decide) ?_
    exact z_zret C hr rfl hlk () rfl hS2 d_Mo_in_15
  · have hS2 := hS0.2 c1
    refine z_iload_n C d_Mo_in_5 rfl 0 rfl ?_
    refine z_iload_n C d_Mo_in_6 rfl 2 rfl ?_
    refine z_icmp_gt (tgt := 14) C d_Mo_in_7 (by decide) (fun c3 => ?_) (fun c3 => ?_)
    · have hS4 := hS2.1 c3
      refine z_iconst (v := (0 : Int32)) C d_Mo_in_14 (by decide) ?_
      exact z_zret C hr rfl hlk () rfl hS4 d_Mo_in_15
    · have hS4 := hS2.2 c3
      refine z_iconst (v := (1 : Int32)) C d_Mo_in_10 (by decide) ?_
      refine z_goto (tgt := 15) C d_Mo_in_11 (by decide) ?_
      exact z_zret C hr rfl hlk () rfl hS4 d_Mo_in_15
def s_Mo_in (x0 : Int32) (x1 : Int32) (x2 : Int32) : Int32 := (if x0 < x1 then (0 : Int32) else (if x2 < x0 then (0 : Int32) else (1 : Int32)))
set_option maxRecDepth 100000 in
theorem v_Mo_in (x0 : Int32) (x1 : Int32) (x2 : Int32) : WP_Mo_in x0 x1 x2 (fun r u => s_Mo_in x0 x1 x2 = r) := by
  obtain ⟨tgt, f0⟩ : ∃ tgt, s_Mo_in x0 x1 x2 = tgt := ⟨_, rfl⟩
  rw [f0]
  unfold s_Mo_in at f0
  unfold WP_Mo_in
  refine ⟨fun c1 => ?_, fun c1 => ?_⟩
  · have f1 := Eq.trans (Eq.symm (if_pos c1)) f0
    exact f1.symm
  · have f1 := Eq.trans (Eq.symm (if_neg c1)) f0
    refine ⟨fun c3 => ?_, fun c3 => ?_⟩
    · have f2 := Eq.trans (Eq.symm (if_pos c3)) f1
      exact f2.symm
    · have f2 := Eq.trans (Eq.symm (if_neg c3)) f1
      exact f2.symm
theorem c_Mo_in (l : Launch) (D : va_G) (K : Nat → ClassId)  (x0 : Int32) (x1 : Int32) (x2 : Int32) : zCi l y_Mo_in wy_Mo_in rm_Mo_in D zcl (zT K) [.int x0, .int x1, .int x2] (w_Mo_in K ()) (w_Mo_in K) (fun r u => s_Mo_in x0 x1 x2 = r) 0 0 := cw_Mo_in l D K x0 x1 x2 (v_Mo_in x0 x1 x2)
-- RuleTracerModel.bad(Z)Z: reads ['t.thrown'], changes ['t.thrown']
abbrev w_Mo_bad (K : Nat → ClassId) (q_t : Nat) (q_t_text : Nat) (q_t_code : Nat) (q_t_site : Nat) (q_t_condition : Nat) (q_t_actions : Nat) (q_t_kind : Nat) (q_t_target : Nat) (q_t_first : Nat) (q_t_second : Nat) (q_t_failures : Nat) (q_t_met : Nat) (q_t_there : Nat) (q_t_on : Nat) (q_t_compared : Nat) (q_t_globals : Nat) (q_t_own : Nat) (q_t_records : Nat) (q_t_pile : Nat) (q_t_handed : Nat) (q_t_keys : Nat) (q_t_key : Nat) (q_t_count : Nat) (q_t_bins : Nat) (q_t_operator : Nat) (q_t_starts : Nat) (q_t_sum : Nat) (q_t_least : Nat) (q_t_greatest : Nat) (t_newSite : Int32) (t_newCondition : Int32) (t_newActions : Int32) (t_size : Int32) (t_place : Int32) (t_pos : Int32) (t_at : Int32) (t_operators : Int32) (t_recorded : Int32) (t_lost : Int32) (t_dropped : Int32) (t_firings : Int32) (t_time : Int32) (t_thread : Int32) (t_failed : Int32) (u : Int32) : va_W := [zo 6 q_t [.ref q_t_text, .ref q_t_code, .ref q_t_site, .ref q_t_condition, .ref q_t_actions, .ref q_t_kind, .ref q_t_target, .ref q_t_first, .ref q_t_second, .ref q_t_failures, .ref q_t_met, .ref q_t_there, .ref q_t_on, .ref q_t_compared, .ref q_t_globals, .ref q_t_own, .ref q_t_records, .ref q_t_pile, .ref q_t_handed, .ref q_t_keys, .ref q_t_key, .ref q_t_count, .ref q_t_bins, .ref q_t_operator, .ref q_t_starts, .ref q_t_sum, .ref q_t_least, .ref q_t_greatest, .int t_newSite, .int t_newCondition, .int t_newActions, .int t_size, .int t_place, .int t_pos, .int t_at, .int t_operators, .int t_recorded, .int t_lost, .int t_dropped, .int t_firings, .int t_time, .int t_thread, .int u, .int t_failed]]
abbrev rm_Mo_bad : Room := { frames := 0, cells := 0, slots := 0, locals := 0 }
abbrev wy_Mo_bad : List Cond := .code y_Mo_bad b_Mo_bad 2 (some .boolean) :: zWT
def WP_Mo_bad (t_thrown : Int32) (x1 : Int32) (Q : Int32 → Int32 → Prop) : Prop := ((x1 = 0) → Q (1 : Int32) (1 : Int32)) ∧ ((¬ x1 = 0) → Q (0 : Int32) (0 : Int32))
set_option maxHeartbeats 4000000 in
set_option maxRecDepth 100000 in
theorem cw_Mo_bad (l : Launch) (D : va_G) (K : Nat → ClassId) (q_t : Nat) (q_t_text : Nat) (q_t_code : Nat) (q_t_site : Nat) (q_t_condition : Nat) (q_t_actions : Nat) (q_t_kind : Nat) (q_t_target : Nat) (q_t_first : Nat) (q_t_second : Nat) (q_t_failures : Nat) (q_t_met : Nat) (q_t_there : Nat) (q_t_on : Nat) (q_t_compared : Nat) (q_t_globals : Nat) (q_t_own : Nat) (q_t_records : Nat) (q_t_pile : Nat) (q_t_handed : Nat) (q_t_keys : Nat) (q_t_key : Nat) (q_t_count : Nat) (q_t_bins : Nat) (q_t_operator : Nat) (q_t_starts : Nat) (q_t_sum : Nat) (q_t_least : Nat) (q_t_greatest : Nat) (t_newSite : Int32) (t_newCondition : Int32) (t_newActions : Int32) (t_size : Int32) (t_place : Int32) (t_pos : Int32) (t_at : Int32) (t_operators : Int32) (t_recorded : Int32) (t_lost : Int32) (t_dropped : Int32) (t_firings : Int32) (t_time : Int32) (t_thread : Int32) (t_thrown : Int32) (t_failed : Int32) (x1 : Int32) {Q : Int32 → Int32 → Prop} (hS0 : WP_Mo_bad t_thrown x1 Q) : zCi l y_Mo_bad wy_Mo_bad rm_Mo_bad D zcl (zT K) [.ref q_t, .int x1] (w_Mo_bad K q_t q_t_text q_t_code q_t_site q_t_condition q_t_actions q_t_kind q_t_target q_t_first q_t_second q_t_failures q_t_met q_t_there q_t_on q_t_compared q_t_globals q_t_own q_t_records q_t_pile q_t_handed q_t_keys q_t_key q_t_count q_t_bins q_t_operator q_t_starts q_t_sum q_t_least q_t_greatest t_newSite t_newCondition t_newActions t_size t_place t_pos t_at t_operators t_recorded t_lost t_dropped t_firings t_time t_thread t_failed t_thrown) (w_Mo_bad K q_t q_t_text q_t_code q_t_site q_t_condition q_t_actions q_t_kind q_t_target q_t_first q_t_second q_t_failures q_t_met q_t_there q_t_on q_t_compared q_t_globals q_t_own q_t_records q_t_pile q_t_handed q_t_keys q_t_key q_t_count q_t_bins q_t_operator q_t_starts q_t_sum q_t_least q_t_greatest t_newSite t_newCondition t_newActions t_size t_place t_pos t_at t_operators t_recorded t_lost t_dropped t_firings t_time t_thread t_failed) Q 0 0 := by
  refine z_meti (cc := b_Mo_bad) (maxL := 2) (ret := (some .boolean)) (by decide) rfl (Nat.le_of_ble_eq_true rfl) ?_
  intro p e s m args below meth c A C hr hlk hnm
  refine z_lpick (lv' := [(0, .ref q_t), (1, .int x1)]) [0, 1] rfl ?_
  refine z_weq (ws' := [zo 6 q_t [.ref q_t_text, .ref q_t_code, .ref q_t_site, .ref q_t_condition, .ref q_t_actions, .ref q_t_kind, .ref q_t_target, .ref q_t_first, .ref q_t_second, .ref q_t_failures, .ref q_t_met, .ref q_t_there, .ref q_t_on, .ref q_t_compared, .ref q_t_globals, .ref q_t_own, .ref q_t_records, .ref q_t_pile, .ref q_t_handed, .ref q_t_keys, .ref q_t_key, .ref q_t_count, .ref q_t_bins, .ref q_t_operator, .ref q_t_starts, .ref q_t_sum, .ref q_t_least, .ref q_t_greatest, .int t_newSite, .int t_newCondition, .int t_newActions, .int t_size, .int t_place, .int t_pos, .int t_at, .int t_operators, .int t_recorded, .int t_lost, .int t_dropped, .int t_firings, .int t_time, .int t_thread, .int t_thrown, .int t_failed]]) rfl ?_
  refine z_aload_n C d_Mo_bad_0 rfl 0 rfl ?_
  refine z_iload_n C d_Mo_bad_1 rfl 1 rfl ?_
  refine z_if_eq (tgt := 9) C d_Mo_bad_2 (by decide) (fun c1 => ?_) (fun c1 => ?_)
  · have hS2 := hS0.1 c1
    refine z_iconst (v := (1 : Int32)) C d_Mo_bad_9 (by decide) ?_
    refine z_put (ty := .int) (ws' := [zo 6 q_t [.ref q_t_text, .ref q_t_code, .ref q_t_site, .ref q_t_condition, .ref q_t_actions, .ref q_t_kind, .ref q_t_target, .ref q_t_first, .ref q_t_second, .ref q_t_failures, .ref q_t_met, .ref q_t_there, .ref q_t_on, .ref q_t_compared, .ref q_t_globals, .ref q_t_own, .ref q_t_records, .ref q_t_pile, .ref q_t_handed, .ref q_t_keys, .ref q_t_key, .ref q_t_count, .ref q_t_bins, .ref q_t_operator, .ref q_t_starts, .ref q_t_sum, .ref q_t_least, .ref q_t_greatest, .int t_newSite, .int t_newCondition, .int t_newActions, .int t_size, .int t_place, .int t_pos, .int t_at, .int t_operators, .int t_recorded, .int t_lost, .int t_dropped, .int t_firings, .int t_time, .int t_thread, .int (1 : Int32), .int t_failed]]) C ty_Mo to_Mo nm_Mo 0 rfl rfl in_Mo 42 (by decide) rfl wf_Mo_100 rfl rfl rfl rfl (Nat.le_of_ble_eq_true rfl) rfl d_Mo_bad_10 ?_
    refine z_iload_n C d_Mo_bad_13 rfl 1 rfl ?_
    refine z_if_ne (tgt := 21) C d_Mo_bad_14 (by decide) (fun c3 => absurd c1 c3) (fun c3 => ?_)
    refine z_iconst (v := (1 : Int32)) C d_Mo_bad_17 (by decide) ?_
    refine z_goto (tgt := 22) C d_Mo_bad_18 (by decide) ?_
    exact z_zret C hr rfl hlk (1 : Int32) rfl hS2 d_Mo_bad_22
  · have hS2 := hS0.2 c1
    refine z_iconst (v := (0 : Int32)) C d_Mo_bad_5 (by decide) ?_
    refine z_goto (tgt := 10) C d_Mo_bad_6 (by decide) ?_
    refine z_put (ty := .int) (ws' := [zo 6 q_t [.ref q_t_text, .ref q_t_code, .ref q_t_site, .ref q_t_condition, .ref q_t_actions, .ref q_t_kind, .ref q_t_target, .ref q_t_first, .ref q_t_second, .ref q_t_failures, .ref q_t_met, .ref q_t_there, .ref q_t_on, .ref q_t_compared, .ref q_t_globals, .ref q_t_own, .ref q_t_records, .ref q_t_pile, .ref q_t_handed, .ref q_t_keys, .ref q_t_key, .ref q_t_count, .ref q_t_bins, .ref q_t_operator, .ref q_t_starts, .ref q_t_sum, .ref q_t_least, .ref q_t_greatest, .int t_newSite, .int t_newCondition, .int t_newActions, .int t_size, .int t_place, .int t_pos, .int t_at, .int t_operators, .int t_recorded, .int t_lost, .int t_dropped, .int t_firings, .int t_time, .int t_thread, .int (0 : Int32), .int t_failed]]) C ty_Mo to_Mo nm_Mo 0 rfl rfl in_Mo 42 (by decide) rfl wf_Mo_100 rfl rfl rfl rfl (Nat.le_of_ble_eq_true rfl) rfl d_Mo_bad_10 ?_
    refine z_iload_n C d_Mo_bad_13 rfl 1 rfl ?_
    refine z_if_ne (tgt := 21) C d_Mo_bad_14 (by decide) (fun c4 => ?_) (fun c4 => absurd c4 c1)
    refine z_iconst (v := (0 : Int32)) C d_Mo_bad_21 (by decide) ?_
    exact z_zret C hr rfl hlk (0 : Int32) rfl hS2 d_Mo_bad_22
def s_Mo_bad (t_thrown : Int32) (x1 : Int32) : Int32 × Int32 := (if x1 = 0 then ((1 : Int32), (1 : Int32)) else ((0 : Int32), (0 : Int32)))
set_option maxRecDepth 100000 in
theorem v_Mo_bad (t_thrown : Int32) (x1 : Int32) : WP_Mo_bad t_thrown x1 (fun r u => s_Mo_bad t_thrown x1 = (r, u)) := by
  obtain ⟨tgt, f0⟩ : ∃ tgt, s_Mo_bad t_thrown x1 = tgt := ⟨_, rfl⟩
  rw [f0]
  unfold s_Mo_bad at f0
  unfold WP_Mo_bad
  refine ⟨fun c1 => ?_, fun c1 => ?_⟩
  · have f1 := Eq.trans (Eq.symm (if_pos c1)) f0
    exact f1.symm
  · have f1 := Eq.trans (Eq.symm (if_neg c1)) f0
    exact f1.symm
theorem c_Mo_bad (l : Launch) (D : va_G) (K : Nat → ClassId) (q_t : Nat) (q_t_text : Nat) (q_t_code : Nat) (q_t_site : Nat) (q_t_condition : Nat) (q_t_actions : Nat) (q_t_kind : Nat) (q_t_target : Nat) (q_t_first : Nat) (q_t_second : Nat) (q_t_failures : Nat) (q_t_met : Nat) (q_t_there : Nat) (q_t_on : Nat) (q_t_compared : Nat) (q_t_globals : Nat) (q_t_own : Nat) (q_t_records : Nat) (q_t_pile : Nat) (q_t_handed : Nat) (q_t_keys : Nat) (q_t_key : Nat) (q_t_count : Nat) (q_t_bins : Nat) (q_t_operator : Nat) (q_t_starts : Nat) (q_t_sum : Nat) (q_t_least : Nat) (q_t_greatest : Nat) (t_newSite : Int32) (t_newCondition : Int32) (t_newActions : Int32) (t_size : Int32) (t_place : Int32) (t_pos : Int32) (t_at : Int32) (t_operators : Int32) (t_recorded : Int32) (t_lost : Int32) (t_dropped : Int32) (t_firings : Int32) (t_time : Int32) (t_thread : Int32) (t_thrown : Int32) (t_failed : Int32) (x1 : Int32) : zCi l y_Mo_bad wy_Mo_bad rm_Mo_bad D zcl (zT K) [.ref q_t, .int x1] (w_Mo_bad K q_t q_t_text q_t_code q_t_site q_t_condition q_t_actions q_t_kind q_t_target q_t_first q_t_second q_t_failures q_t_met q_t_there q_t_on q_t_compared q_t_globals q_t_own q_t_records q_t_pile q_t_handed q_t_keys q_t_key q_t_count q_t_bins q_t_operator q_t_starts q_t_sum q_t_least q_t_greatest t_newSite t_newCondition t_newActions t_size t_place t_pos t_at t_operators t_recorded t_lost t_dropped t_firings t_time t_thread t_failed t_thrown) (w_Mo_bad K q_t q_t_text q_t_code q_t_site q_t_condition q_t_actions q_t_kind q_t_target q_t_first q_t_second q_t_failures q_t_met q_t_there q_t_on q_t_compared q_t_globals q_t_own q_t_records q_t_pile q_t_handed q_t_keys q_t_key q_t_count q_t_bins q_t_operator q_t_starts q_t_sum q_t_least q_t_greatest t_newSite t_newCondition t_newActions t_size t_place t_pos t_at t_operators t_recorded t_lost t_dropped t_firings t_time t_thread t_failed) (fun r u => s_Mo_bad t_thrown x1 = (r, u)) 0 0 := cw_Mo_bad l D K q_t q_t_text q_t_code q_t_site q_t_condition q_t_actions q_t_kind q_t_target q_t_first q_t_second q_t_failures q_t_met q_t_there q_t_on q_t_compared q_t_globals q_t_own q_t_records q_t_pile q_t_handed q_t_keys q_t_key q_t_count q_t_bins q_t_operator q_t_starts q_t_sum q_t_least q_t_greatest t_newSite t_newCondition t_newActions t_size t_place t_pos t_at t_operators t_recorded t_lost t_dropped t_firings t_time t_thread t_thrown t_failed x1 (v_Mo_bad t_thrown x1)
-- RuleTracerModel.fail(I)D: reads ['t.thrown'], changes ['t.thrown']
abbrev w_Mo_fail (K : Nat → ClassId) (q_t : Nat) (q_t_text : Nat) (q_t_code : Nat) (q_t_site : Nat) (q_t_condition : Nat) (q_t_actions : Nat) (q_t_kind : Nat) (q_t_target : Nat) (q_t_first : Nat) (q_t_second : Nat) (q_t_failures : Nat) (q_t_met : Nat) (q_t_there : Nat) (q_t_on : Nat) (q_t_compared : Nat) (q_t_globals : Nat) (q_t_own : Nat) (q_t_records : Nat) (q_t_pile : Nat) (q_t_handed : Nat) (q_t_keys : Nat) (q_t_key : Nat) (q_t_count : Nat) (q_t_bins : Nat) (q_t_operator : Nat) (q_t_starts : Nat) (q_t_sum : Nat) (q_t_least : Nat) (q_t_greatest : Nat) (t_newSite : Int32) (t_newCondition : Int32) (t_newActions : Int32) (t_size : Int32) (t_place : Int32) (t_pos : Int32) (t_at : Int32) (t_operators : Int32) (t_recorded : Int32) (t_lost : Int32) (t_dropped : Int32) (t_firings : Int32) (t_time : Int32) (t_thread : Int32) (t_failed : Int32) (u : Int32) : va_W := [zo 6 q_t [.ref q_t_text, .ref q_t_code, .ref q_t_site, .ref q_t_condition, .ref q_t_actions, .ref q_t_kind, .ref q_t_target, .ref q_t_first, .ref q_t_second, .ref q_t_failures, .ref q_t_met, .ref q_t_there, .ref q_t_on, .ref q_t_compared, .ref q_t_globals, .ref q_t_own, .ref q_t_records, .ref q_t_pile, .ref q_t_handed, .ref q_t_keys, .ref q_t_key, .ref q_t_count, .ref q_t_bins, .ref q_t_operator, .ref q_t_starts, .ref q_t_sum, .ref q_t_least, .ref q_t_greatest, .int t_newSite, .int t_newCondition, .int t_newActions, .int t_size, .int t_place, .int t_pos, .int t_at, .int t_operators, .int t_recorded, .int t_lost, .int t_dropped, .int t_firings, .int t_time, .int t_thread, .int u, .int t_failed]]
abbrev rm_Mo_fail : Room := { frames := 0, cells := 0, slots := 0, locals := 0 }
abbrev wy_Mo_fail : List Cond := .code y_Mo_fail b_Mo_fail 2 (some .double) :: zWT
def WP_Mo_fail (t_thrown : Int32) (x1 : Int32) (Q : UInt64 → Int32 → Prop) : Prop := Q FP.dconst0 x1
set_option maxHeartbeats 4000000 in
set_option maxRecDepth 100000 in
theorem cw_Mo_fail (l : Launch) (D : va_G) (K : Nat → ClassId) (q_t : Nat) (q_t_text : Nat) (q_t_code : Nat) (q_t_site : Nat) (q_t_condition : Nat) (q_t_actions : Nat) (q_t_kind : Nat) (q_t_target : Nat) (q_t_first : Nat) (q_t_second : Nat) (q_t_failures : Nat) (q_t_met : Nat) (q_t_there : Nat) (q_t_on : Nat) (q_t_compared : Nat) (q_t_globals : Nat) (q_t_own : Nat) (q_t_records : Nat) (q_t_pile : Nat) (q_t_handed : Nat) (q_t_keys : Nat) (q_t_key : Nat) (q_t_count : Nat) (q_t_bins : Nat) (q_t_operator : Nat) (q_t_starts : Nat) (q_t_sum : Nat) (q_t_least : Nat) (q_t_greatest : Nat) (t_newSite : Int32) (t_newCondition : Int32) (t_newActions : Int32) (t_size : Int32) (t_place : Int32) (t_pos : Int32) (t_at : Int32) (t_operators : Int32) (t_recorded : Int32) (t_lost : Int32) (t_dropped : Int32) (t_firings : Int32) (t_time : Int32) (t_thread : Int32) (t_thrown : Int32) (t_failed : Int32) (x1 : Int32) {Q : UInt64 → Int32 → Prop} (hS0 : WP_Mo_fail t_thrown x1 Q) : zCd l y_Mo_fail wy_Mo_fail rm_Mo_fail D zcl (zT K) [.ref q_t, .int x1] (w_Mo_fail K q_t q_t_text q_t_code q_t_site q_t_condition q_t_actions q_t_kind q_t_target q_t_first q_t_second q_t_failures q_t_met q_t_there q_t_on q_t_compared q_t_globals q_t_own q_t_records q_t_pile q_t_handed q_t_keys q_t_key q_t_count q_t_bins q_t_operator q_t_starts q_t_sum q_t_least q_t_greatest t_newSite t_newCondition t_newActions t_size t_place t_pos t_at t_operators t_recorded t_lost t_dropped t_firings t_time t_thread t_failed t_thrown) (w_Mo_fail K q_t q_t_text q_t_code q_t_site q_t_condition q_t_actions q_t_kind q_t_target q_t_first q_t_second q_t_failures q_t_met q_t_there q_t_on q_t_compared q_t_globals q_t_own q_t_records q_t_pile q_t_handed q_t_keys q_t_key q_t_count q_t_bins q_t_operator q_t_starts q_t_sum q_t_least q_t_greatest t_newSite t_newCondition t_newActions t_size t_place t_pos t_at t_operators t_recorded t_lost t_dropped t_firings t_time t_thread t_failed) Q 0 0 := by
  refine z_metd (cc := b_Mo_fail) (maxL := 2) (ret := (some .double)) (by decide) rfl (Nat.le_of_ble_eq_true rfl) ?_
  intro p e s m args below meth c A C hr hlk hnm
  refine z_lpick (lv' := [(0, .ref q_t), (1, .int x1)]) [0, 1] rfl ?_
  refine z_weq (ws' := [zo 6 q_t [.ref q_t_text, .ref q_t_code, .ref q_t_site, .ref q_t_condition, .ref q_t_actions, .ref q_t_kind, .ref q_t_target, .ref q_t_first, .ref q_t_second, .ref q_t_failures, .ref q_t_met, .ref q_t_there, .ref q_t_on, .ref q_t_compared, .ref q_t_globals, .ref q_t_own, .ref q_t_records, .ref q_t_pile, .ref q_t_handed, .ref q_t_keys, .ref q_t_key, .ref q_t_count, .ref q_t_bins, .ref q_t_operator, .ref q_t_starts, .ref q_t_sum, .ref q_t_least, .ref q_t_greatest, .int t_newSite, .int t_newCondition, .int t_newActions, .int t_size, .int t_place, .int t_pos, .int t_at, .int t_operators, .int t_recorded, .int t_lost, .int t_dropped, .int t_firings, .int t_time, .int t_thread, .int t_thrown, .int t_failed]]) rfl ?_
  refine z_aload_n C d_Mo_fail_0 rfl 0 rfl ?_
  refine z_iload_n C d_Mo_fail_1 rfl 1 rfl ?_
  refine z_put (ty := .int) (ws' := [zo 6 q_t [.ref q_t_text, .ref q_t_code, .ref q_t_site, .ref q_t_condition, .ref q_t_actions, .ref q_t_kind, .ref q_t_target, .ref q_t_first, .ref q_t_second, .ref q_t_failures, .ref q_t_met, .ref q_t_there, .ref q_t_on, .ref q_t_compared, .ref q_t_globals, .ref q_t_own, .ref q_t_records, .ref q_t_pile, .ref q_t_handed, .ref q_t_keys, .ref q_t_key, .ref q_t_count, .ref q_t_bins, .ref q_t_operator, .ref q_t_starts, .ref q_t_sum, .ref q_t_least, .ref q_t_greatest, .int t_newSite, .int t_newCondition, .int t_newActions, .int t_size, .int t_place, .int t_pos, .int t_at, .int t_operators, .int t_recorded, .int t_lost, .int t_dropped, .int t_firings, .int t_time, .int t_thread, .int x1, .int t_failed]]) C ty_Mo to_Mo nm_Mo 0 rfl rfl in_Mo 42 (by decide) rfl wf_Mo_100 rfl rfl rfl rfl (Nat.le_of_ble_eq_true rfl) rfl d_Mo_fail_2 ?_
  refine z_dconst0 C d_Mo_fail_5 ?_
  exact z_dret C hr hlk x1 rfl hS0 d_Mo_fail_6
def s_Mo_fail (t_thrown : Int32) (x1 : Int32) : UInt64 × Int32 := (FP.dconst0, x1)
set_option maxRecDepth 100000 in
theorem v_Mo_fail (t_thrown : Int32) (x1 : Int32) : WP_Mo_fail t_thrown x1 (fun r u => s_Mo_fail t_thrown x1 = (r, u)) := by
  obtain ⟨tgt, f0⟩ : ∃ tgt, s_Mo_fail t_thrown x1 = tgt := ⟨_, rfl⟩
  rw [f0]
  unfold s_Mo_fail at f0
  unfold WP_Mo_fail
  exact f0.symm
theorem c_Mo_fail (l : Launch) (D : va_G) (K : Nat → ClassId) (q_t : Nat) (q_t_text : Nat) (q_t_code : Nat) (q_t_site : Nat) (q_t_condition : Nat) (q_t_actions : Nat) (q_t_kind : Nat) (q_t_target : Nat) (q_t_first : Nat) (q_t_second : Nat) (q_t_failures : Nat) (q_t_met : Nat) (q_t_there : Nat) (q_t_on : Nat) (q_t_compared : Nat) (q_t_globals : Nat) (q_t_own : Nat) (q_t_records : Nat) (q_t_pile : Nat) (q_t_handed : Nat) (q_t_keys : Nat) (q_t_key : Nat) (q_t_count : Nat) (q_t_bins : Nat) (q_t_operator : Nat) (q_t_starts : Nat) (q_t_sum : Nat) (q_t_least : Nat) (q_t_greatest : Nat) (t_newSite : Int32) (t_newCondition : Int32) (t_newActions : Int32) (t_size : Int32) (t_place : Int32) (t_pos : Int32) (t_at : Int32) (t_operators : Int32) (t_recorded : Int32) (t_lost : Int32) (t_dropped : Int32) (t_firings : Int32) (t_time : Int32) (t_thread : Int32) (t_thrown : Int32) (t_failed : Int32) (x1 : Int32) : zCd l y_Mo_fail wy_Mo_fail rm_Mo_fail D zcl (zT K) [.ref q_t, .int x1] (w_Mo_fail K q_t q_t_text q_t_code q_t_site q_t_condition q_t_actions q_t_kind q_t_target q_t_first q_t_second q_t_failures q_t_met q_t_there q_t_on q_t_compared q_t_globals q_t_own q_t_records q_t_pile q_t_handed q_t_keys q_t_key q_t_count q_t_bins q_t_operator q_t_starts q_t_sum q_t_least q_t_greatest t_newSite t_newCondition t_newActions t_size t_place t_pos t_at t_operators t_recorded t_lost t_dropped t_firings t_time t_thread t_failed t_thrown) (w_Mo_fail K q_t q_t_text q_t_code q_t_site q_t_condition q_t_actions q_t_kind q_t_target q_t_first q_t_second q_t_failures q_t_met q_t_there q_t_on q_t_compared q_t_globals q_t_own q_t_records q_t_pile q_t_handed q_t_keys q_t_key q_t_count q_t_bins q_t_operator q_t_starts q_t_sum q_t_least q_t_greatest t_newSite t_newCondition t_newActions t_size t_place t_pos t_at t_operators t_recorded t_lost t_dropped t_firings t_time t_thread t_failed) (fun r u => s_Mo_fail t_thrown x1 = (r, u)) 0 0 := cw_Mo_fail l D K q_t q_t_text q_t_code q_t_site q_t_condition q_t_actions q_t_kind q_t_target q_t_first q_t_second q_t_failures q_t_met q_t_there q_t_on q_t_compared q_t_globals q_t_own q_t_records q_t_pile q_t_handed q_t_keys q_t_key q_t_count q_t_bins q_t_operator q_t_starts q_t_sum q_t_least q_t_greatest t_newSite t_newCondition t_newActions t_size t_place t_pos t_at t_operators t_recorded t_lost t_dropped t_firings t_time t_thread t_thrown t_failed x1 (v_Mo_fail t_thrown x1)
-- RuleTracerModel.type(J)I: reads ['t.size', 't.thrown', 't.text'], changes ['t.size', 't.thrown', 't.text']
abbrev w_Mo_type (K : Nat → ClassId) (q_t : Nat) (q_t_text : Nat) (q_t_code : Nat) (q_t_site : Nat) (q_t_condition : Nat) (q_t_actions : Nat) (q_t_kind : Nat) (q_t_target : Nat) (q_t_first : Nat) (q_t_second : Nat) (q_t_failures : Nat) (q_t_met : Nat) (q_t_there : Nat) (q_t_on : Nat) (q_t_compared : Nat) (q_t_globals : Nat) (q_t_own : Nat) (q_t_records : Nat) (q_t_pile : Nat) (q_t_handed : Nat) (q_t_keys : Nat) (q_t_key : Nat) (q_t_count : Nat) (q_t_bins : Nat) (q_t_operator : Nat) (q_t_starts : Nat) (q_t_sum : Nat) (q_t_least : Nat) (q_t_greatest : Nat) (t_newSite : Int32) (t_newCondition : Int32) (t_newActions : Int32) (t_place : Int32) (t_pos : Int32) (t_at : Int32) (t_operators : Int32) (t_recorded : Int32) (t_lost : Int32) (t_dropped : Int32) (t_firings : Int32) (t_time : Int32) (t_thread : Int32) (t_failed : Int32) (u : Int32 × Int32 × (Nat → Int32)) : va_W := [zo 6 q_t [.ref q_t_text, .ref q_t_code, .ref q_t_site, .ref q_t_condition, .ref q_t_actions, .ref q_t_kind, .ref q_t_target, .ref q_t_first, .ref q_t_second, .ref q_t_failures, .ref q_t_met, .ref q_t_there, .ref q_t_on, .ref q_t_compared, .ref q_t_globals, .ref q_t_own, .ref q_t_records, .ref q_t_pile, .ref q_t_handed, .ref q_t_keys, .ref q_t_key, .ref q_t_count, .ref q_t_bins, .ref q_t_operator, .ref q_t_starts, .ref q_t_sum, .ref q_t_least, .ref q_t_greatest, .int t_newSite, .int t_newCondition, .int t_newActions, .int u.1, .int t_place, .int t_pos, .int t_at, .int t_operators, .int t_recorded, .int t_lost, .int t_dropped, .int t_firings, .int t_time, .int t_thread, .int u.2.1, .int t_failed], zaI K q_t_text 48 u.2.2]
abbrev rm_Mo_type : Room := { frames := 1, cells := 0, slots := 0, locals := 22 }
abbrev wy_Mo_type : List Cond := .code y_Mo_type b_Mo_type 7 (some .int) :: zWT
def WP_Mo_type_L92 : Nat → Int64 → Int32 → Int32 → Int32 → Int32 → Int32 → (Nat → Int32) → (Int32 → (Int32 × Int32 × (Nat → Int32)) → Prop) → Prop
  | 0, _, _, _, _, _, _, _, _ => False
  | n + 1, y1, y3, y4, y5, t_size, t_thrown, t_text, Q => ((y5 < 0) → Q t_size (t_size, t_thrown, t_text)) ∧ ((¬ y5 < 0) → ((¬ ((((y1.toUInt64 >>> (y5.toInt64.toUInt64 &&& Int64.toUInt64 63)).toInt64).toInt32) &&& (255 : Int32)) = 0) → vp_in t_size 48 ∧ WP_Mo_type_L92 n y1 y3 y4 (y5 + (-8 : Int32)) (t_size + (1 : Int32)) t_thrown (upd t_text t_size.toNatClampNeg ((((y1.toUInt64 >>> (y5.toInt64.toUInt64 &&& Int64.toUInt64 63)).toInt64).toInt32) &&& (255 : Int32))) Q) ∧ ((((((y1.toUInt64 >>> (y5.toInt64.toUInt64 &&& Int64.toUInt64 63)).toInt64).toInt32) &&& (255 : Int32)) = 0) → WP_Mo_type_L92 n y1 y3 y4 (y5 + (-8 : Int32)) t_size t_thrown t_text Q))
def WP_Mo_type_L9 : Nat → Int64 → Int32 → Int32 → Int32 → Int32 → Int32 → (Nat → Int32) → (Int32 → (Int32 × Int32 × (Nat → Int32)) → Prop) → Prop
  | 0, _, _, _, _, _, _, _, _ => False
  | n + 1, y1, y3, y4, y5, t_size, t_thrown, t_text, Q => ((y5 < 0) → (∀ (r3 : Int32) (u4 : Int32), s_Mo_bad t_thrown y4 = (r3, u4) → ((r3 = 0) → (((t_size + y3) ≤ (48 : Int32)) → WP_Mo_type_L92 600 y1 y3 y4 (56 : Int32) t_size u4 t_text Q) ∧ ((¬ (t_size + y3) ≤ (48 : Int32)) → Q (0 : Int32) (t_size, (2 : Int32), t_text))) ∧ ((¬ r3 = 0) → Q (0 : Int32) (t_size, u4, t_text)))) ∧ ((¬ y5 < 0) → ((((((y1.toUInt64 >>> (y5.toInt64.toUInt64 &&& Int64.toUInt64 63)).toInt64).toInt32) &&& (255 : Int32)) = 0) → WP_Mo_type_L9 n y1 y3 y4 (y5 + (-8 : Int32)) t_size t_thrown t_text Q) ∧ ((¬ ((((y1.toUInt64 >>> (y5.toInt64.toUInt64 &&& Int64.toUInt64 63)).toInt64).toInt32) &&& (255 : Int32)) = 0) → (∀ (r15 : Int32), s_Mo_in ((((y1.toUInt64 >>> (y5.toInt64.toUInt64 &&& Int64.toUInt64 63)).toInt64).toInt32) &&& (255 : Int32)) (33 : Int32) (126 : Int32) = r15 → ((¬ r15 = 0) → WP_Mo_type_L9 n y1 (y3 + (1 : Int32)) y4 (y5 + (-8 : Int32)) t_size t_thrown t_text Q) ∧ ((r15 = 0) → WP_Mo_type_L9 n y1 (y3 + (1 : Int32)) (0 : Int32) (y5 + (-8 : Int32)) t_size t_thrown t_text Q))))
def WP_Mo_type (t_size : Int32) (t_thrown : Int32) (t_text : Nat → Int32) (x1 : Int64) (Q : Int32 → (Int32 × Int32 × (Nat → Int32)) → Prop) : Prop := WP_Mo_type_L9 600 x1 (0 : Int32) (1 : Int32) (56 : Int32) t_size t_thrown t_text Q
set_option maxHeartbeats 4000000 in
set_option maxRecDepth 100000 in
theorem lw_Mo_type_L92 {p : Program} {e : Env} {s : State} {m : MethodId} {args : Array Value} {below : List Frame} {meth : Method} {c : Code} {A : Nat → Prop} (l : Launch) (D : va_G) (K : Nat → ClassId) (q_t : Nat) (q_t_text : Nat) (q_t_code : Nat) (q_t_site : Nat) (q_t_condition : Nat) (q_t_actions : Nat) (q_t_kind : Nat) (q_t_target : Nat) (q_t_first : Nat) (q_t_second : Nat) (q_t_failures : Nat) (q_t_met : Nat) (q_t_there : Nat) (q_t_on : Nat) (q_t_compared : Nat) (q_t_globals : Nat) (q_t_own : Nat) (q_t_records : Nat) (q_t_pile : Nat) (q_t_handed : Nat) (q_t_keys : Nat) (q_t_key : Nat) (q_t_count : Nat) (q_t_bins : Nat) (q_t_operator : Nat) (q_t_starts : Nat) (q_t_sum : Nat) (q_t_least : Nat) (q_t_greatest : Nat) (t_newSite : Int32) (t_newCondition : Int32) (t_newActions : Int32) (t_place : Int32) (t_pos : Int32) (t_at : Int32) (t_operators : Int32) (t_recorded : Int32) (t_lost : Int32) (t_dropped : Int32) (t_firings : Int32) (t_time : Int32) (t_thread : Int32) (t_failed : Int32) {Q : Int32 → (Int32 × Int32 × (Nat → Int32)) → Prop} (C : zCx p s m args c b_Mo_type 7 R_Mo zWT D zcl (zT K) A) (hr : meth.sig.returnType = (some .int)) (hlk : meth.locks = false) : ∀ (n : Nat) (y1 : Int64) (y3 : Int32) (y4 : Int32) (y5 : Int32) (t_size : Int32) (t_thrown : Int32) (t_text : Nat → Int32), WP_Mo_type_L92 n y1 y3 y4 y5 t_size t_thrown t_text Q → zW p l e (headSpec wy_Mo_type rm_Mo_type).room s m args below meth c D zcl A 7 0 0 (MQ below (va_Qi Q (zB D zcl (zT K) (w_Mo_type K q_t q_t_text q_t_code q_t_site q_t_condition q_t_actions q_t_kind q_t_target q_t_first q_t_second q_t_failures q_t_met q_t_there q_t_on q_t_compared q_t_globals q_t_own q_t_records q_t_pile q_t_handed q_t_keys q_t_key q_t_count q_t_bins q_t_operator q_t_starts q_t_sum q_t_least q_t_greatest t_newSite t_newCondition t_newActions t_place t_pos t_at t_operators t_recorded t_lost t_dropped t_firings t_time t_thread t_failed) A) A) args s 0 0 A) [(0, .ref q_t), (1, .long y1), (3, .int y3), (4, .int y4), (5, .int y5)] [zo 6 q_t [.ref q_t_text, .ref q_t_code, .ref q_t_site, .ref q_t_condition, .ref q_t_actions, .ref q_t_kind, .ref q_t_target, .ref q_t_first, .ref q_t_second, .ref q_t_failures, .ref q_t_met, .ref q_t_there, .ref q_t_on, .ref q_t_compared, .ref q_t_globals, .ref q_t_own, .ref q_t_records, .ref q_t_pile, .ref q_t_handed, .ref q_t_keys, .ref q_t_key, .ref q_t_count, .ref q_t_bins, .ref q_t_operator, .ref q_t_starts, .ref q_t_sum, .ref q_t_least, .ref q_t_greatest, .int t_newSite, .int t_newCondition, .int t_newActions, .int t_size, .int t_place, .int t_pos, .int t_at, .int t_operators, .int t_recorded, .int t_lost, .int t_dropped, .int t_firings, .int t_time, .int t_thread, .int t_thrown, .int t_failed], zaI K q_t_text 48 t_text] 92 [] := by
  intro n
  induction n with
  | zero => intros; contradiction
  | succ n ih =>
    intro y1 y3 y4 y5 t_size t_thrown t_text hS0
    refine z_iload C d_Mo_type_92 4 rfl ?_
    refine z_if_lt (tgt := 143) C d_Mo_type_94 (by decide) (fun c21 => ?_) (fun c21 => ?_)
    · have hS22 := hS0.1 c21
      refine z_aload_n C d_Mo_type_143 rfl 0 rfl ?_
      refine z_get C 0 rfl rfl in_Mo 31 (by decide) rfl wf_Mo_111 rfl d_Mo_type_144 ?_
      exact z_iret C hr hlk (t_size, t_thrown, t_text) rfl hS22 d_Mo_type_147
    · have hS22 := hS0.2 c21
      refine z_lload_n C d_Mo_type_97 rfl 1 rfl ?_
      refine z_iload C d_Mo_type_98 4 rfl ?_
      refine z_lushr C d_Mo_type_100 ?_
      refine z_l2i C d_Mo_type_101 ?_
      refine z_sipush (v := (255 : Int32)) C d_Mo_type_102 (by decide) ?_
      refine z_iand C d_Mo_type_105 ?_
      refine z_istore (lv' := [(6, .int ((((y1.toUInt64 >>> (y5.toInt64.toUInt64 &&& Int64.toUInt64 63)).toInt64).toInt32) &&& (255 : Int32))), (0, .ref q_t), (1, .long y1), (3, .int y3), (4, .int y4), (5, .int y5)]) C d_Mo_type_106 (by decide) rfl ?_
      refine z_iload C d_Mo_type_108 0 rfl ?_
      refine z_if_ne (tgt := 116) C d_Mo_type_110 (by decide) (fun c23 => ?_) (fun c23 => ?_)
      · have hS24 := hS22.1 c23
        refine z_aload_n C d_Mo_type_116 rfl 1 rfl ?_
        refine z_get C 0 rfl rfl in_Mo 0 (by decide) rfl wf_Mo_7 rfl d_Mo_type_117 ?_
        refine z_aload_n C d_Mo_type_120 rfl 1 rfl ?_
        refine z_get C 0 rfl rfl in_Mo 31 (by decide) rfl wf_Mo_111 rfl d_Mo_type_121 ?_
        refine z_iload C d_Mo_type_124 0 rfl ?_
        refine z_iast (ws' := [zo 6 q_t [.ref q_t_text, .ref q_t_code, .ref q_t_site, .ref q_t_condition, .ref q_t_actions, .ref q_t_kind, .ref q_t_target, .ref q_t_first, .ref q_t_second, .ref q_t_failures, .ref q_t_met, .ref q_t_there, .ref q_t_on, .ref q_t_compared, .ref q_t_globals, .ref q_t_own, .ref q_t_records, .ref q_t_pile, .ref q_t_handed, .ref q_t_keys, .ref q_t_key, .ref q_t_count, .ref q_t_bins, .ref q_t_operator, .ref q_t_starts, .ref q_t_sum, .ref q_t_least, .ref q_t_greatest, .int t_newSite, .int t_newCondition, .int t_newActions, .int t_size, .int t_place, .int t_pos, .int t_at, .int t_operators, .int t_recorded, .int t_lost, .int t_dropped, .int t_firings, .int t_time, .int t_thread, .int t_thrown, .int t_failed], zaI K q_t_text 48 (upd t_text t_size.toNatClampNeg ((((y1.toUInt64 >>> (y5.toInt64.toUInt64 &&& Int64.toUInt64 63)).toInt64).toInt32) &&& (255 : Int32)))]) C 1 0 rfl rfl hS24.1 rfl d_Mo_type_126 ?_
        have hS25 := hS24.2
        refine z_aload_n C d_Mo_type_127 rfl 1 rfl ?_
        refine z_dup C d_Mo_type_128 rfl ?_
        refine z_get C 0 rfl rfl in_Mo 31 (by decide) rfl wf_Mo_111 rfl d_Mo_type_129 ?_
        refine z_iconst (v := (1 : Int32)) C d_Mo_type_132 (by decide) ?_
        refine z_iadd C d_Mo_type_133 ?_
        refine z_put (ty := .int) (ws' := [zo 6 q_t [.ref q_t_text, .ref q_t_code, .ref q_t_site, .ref q_t_condition, .ref q_t_actions, .ref q_t_kind, .ref q_t_target, .ref q_t_first, .ref q_t_second, .ref q_t_failures, .ref q_t_met, .ref q_t_there, .ref q_t_on, .ref q_t_compared, .ref q_t_globals, .ref q_t_own, .ref q_t_records, .ref q_t_pile, .ref q_t_handed, .ref q_t_keys, .ref q_t_key, .ref q_t_count, .ref q_t_bins, .ref q_t_operator, .ref q_t_starts, .ref q_t_sum, .ref q_t_least, .ref q_t_greatest, .int t_newSite, .int t_newCondition, .int t_newActions, .int (t_size + (1 : Int32)), .int t_place, .int t_pos, .int t_at, .int t_operators, .int t_recorded, .int t_lost, .int t_dropped, .int t_firings, .int t_time, .int t_thread, .int t_thrown, .int t_failed], zaI K q_t_text 48 (upd t_text t_size.toNatClampNeg ((((y1.toUInt64 >>> (y5.toInt64.toUInt64 &&& Int64.toUInt64 63)).toInt64).toInt32) &&& (255 : Int32)))]) C ty_Mo to_Mo nm_Mo 0 rfl rfl in_Mo 31 (by decide) rfl wf_Mo_111 rfl rfl rfl rfl (Nat.le_of_ble_eq_true rfl) rfl d_Mo_type_134 ?_
        refine z_iinc (j := 5) (v := y5 + (-8 : Int32)) (lv' := [(5, .int (y5 + (-8 : Int32))), (6, .int ((((y1.toUInt64 >>> (y5.toInt64.toUInt64 &&& Int64.toUInt64 63)).toInt64).toInt32) &&& (255 : Int32))), (0, .ref q_t), (1, .long y1), (3, .int y3), (4, .int y4)]) C d_Mo_type_137 rfl rfl (by decide) rfl ?_
        refine z_goto (tgt := 92) C d_Mo_type_140 (by decide) ?_
        refine z_lpick (lv' := [(0, .ref q_t), (1, .long y1), (3, .int y3), (4, .int y4), (5, .int (y5 + (-8 : Int32)))]) [2, 3, 4, 5, 0] rfl ?_
        exact ih y1 y3 y4 (y5 + (-8 : Int32)) (t_size + (1 : Int32)) t_thrown (upd t_text t_size.toNatClampNeg ((((y1.toUInt64 >>> (y5.toInt64.toUInt64 &&& Int64.toUInt64 63)).toInt64).toInt32) &&& (255 : Int32))) hS25
      · have hS24 := hS22.2 c23
        refine z_goto (tgt := 137) C d_Mo_type_113 (by decide) ?_
        refine z_iinc (j := 5) (v := y5 + (-8 : Int32)) (lv' := [(5, .int (y5 + (-8 : Int32))), (6, .int ((((y1.toUInt64 >>> (y5.toInt64.toUInt64 &&& Int64.toUInt64 63)).toInt64).toInt32) &&& (255 : Int32))), (0, .ref q_t), (1, .long y1), (3, .int y3), (4, .int y4)]) C d_Mo_type_137 rfl rfl (by decide) rfl ?_
        refine z_goto (tgt := 92) C d_Mo_type_140 (by decide) ?_
        refine z_lpick (lv' := [(0, .ref q_t), (1, .long y1), (3, .int y3), (4, .int y4), (5, .int (y5 + (-8 : Int32)))]) [2, 3, 4, 5, 0] rfl ?_
        exact ih y1 y3 y4 (y5 + (-8 : Int32)) t_size t_thrown t_text hS24
set_option maxHeartbeats 4000000 in
set_option maxRecDepth 100000 in
theorem lw_Mo_type_L9 {p : Program} {e : Env} {s : State} {m : MethodId} {args : Array Value} {below : List Frame} {meth : Method} {c : Code} {A : Nat → Prop} (l : Launch) (D : va_G) (K : Nat → ClassId) (q_t : Nat) (q_t_text : Nat) (q_t_code : Nat) (q_t_site : Nat) (q_t_condition : Nat) (q_t_actions : Nat) (q_t_kind : Nat) (q_t_target : Nat) (q_t_first : Nat) (q_t_second : Nat) (q_t_failures : Nat) (q_t_met : Nat) (q_t_there : Nat) (q_t_on : Nat) (q_t_compared : Nat) (q_t_globals : Nat) (q_t_own : Nat) (q_t_records : Nat) (q_t_pile : Nat) (q_t_handed : Nat) (q_t_keys : Nat) (q_t_key : Nat) (q_t_count : Nat) (q_t_bins : Nat) (q_t_operator : Nat) (q_t_starts : Nat) (q_t_sum : Nat) (q_t_least : Nat) (q_t_greatest : Nat) (t_newSite : Int32) (t_newCondition : Int32) (t_newActions : Int32) (t_place : Int32) (t_pos : Int32) (t_at : Int32) (t_operators : Int32) (t_recorded : Int32) (t_lost : Int32) (t_dropped : Int32) (t_firings : Int32) (t_time : Int32) (t_thread : Int32) (t_failed : Int32) {Q : Int32 → (Int32 × Int32 × (Nat → Int32)) → Prop} (C : zCx p s m args c b_Mo_type 7 R_Mo zWT D zcl (zT K) A) (hr : meth.sig.returnType = (some .int)) (hlk : meth.locks = false) : ∀ (n : Nat) (y1 : Int64) (y3 : Int32) (y4 : Int32) (y5 : Int32) (t_size : Int32) (t_thrown : Int32) (t_text : Nat → Int32), WP_Mo_type_L9 n y1 y3 y4 y5 t_size t_thrown t_text Q → zW p l e (headSpec wy_Mo_type rm_Mo_type).room s m args below meth c D zcl A 7 0 0 (MQ below (va_Qi Q (zB D zcl (zT K) (w_Mo_type K q_t q_t_text q_t_code q_t_site q_t_condition q_t_actions q_t_kind q_t_target q_t_first q_t_second q_t_failures q_t_met q_t_there q_t_on q_t_compared q_t_globals q_t_own q_t_records q_t_pile q_t_handed q_t_keys q_t_key q_t_count q_t_bins q_t_operator q_t_starts q_t_sum q_t_least q_t_greatest t_newSite t_newCondition t_newActions t_place t_pos t_at t_operators t_recorded t_lost t_dropped t_firings t_time t_thread t_failed) A) A) args s 0 0 A) [(0, .ref q_t), (1, .long y1), (3, .int y3), (4, .int y4), (5, .int y5)] [zo 6 q_t [.ref q_t_text, .ref q_t_code, .ref q_t_site, .ref q_t_condition, .ref q_t_actions, .ref q_t_kind, .ref q_t_target, .ref q_t_first, .ref q_t_second, .ref q_t_failures, .ref q_t_met, .ref q_t_there, .ref q_t_on, .ref q_t_compared, .ref q_t_globals, .ref q_t_own, .ref q_t_records, .ref q_t_pile, .ref q_t_handed, .ref q_t_keys, .ref q_t_key, .ref q_t_count, .ref q_t_bins, .ref q_t_operator, .ref q_t_starts, .ref q_t_sum, .ref q_t_least, .ref q_t_greatest, .int t_newSite, .int t_newCondition, .int t_newActions, .int t_size, .int t_place, .int t_pos, .int t_at, .int t_operators, .int t_recorded, .int t_lost, .int t_dropped, .int t_firings, .int t_time, .int t_thread, .int t_thrown, .int t_failed], zaI K q_t_text 48 t_text] 9 [] := by
  intro n
  induction n with
  | zero => intros; contradiction
  | succ n ih =>
    intro y1 y3 y4 y5 t_size t_thrown t_text hS0
    refine z_iload C d_Mo_type_9 4 rfl ?_
    refine z_if_lt (tgt := 59) C d_Mo_type_11 (by decide) (fun c1 => ?_) (fun c1 => ?_)
    · have hS2 := hS0.1 c1
      refine z_aload_n C d_Mo_type_59 rfl 0 rfl ?_
      refine z_iload C d_Mo_type_60 3 rfl ?_
      refine z_callVi (As := [.int y4]) (b := q_t) (st := []) (wr := [zaI K q_t_text 48 t_text]) (wj := fun u => [zo 6 q_t [.ref q_t_text, .ref q_t_code, .ref q_t_site, .ref q_t_condition, .ref q_t_actions, .ref q_t_kind, .ref q_t_target, .ref q_t_first, .ref q_t_second, .ref q_t_failures, .ref q_t_met, .ref q_t_there, .ref q_t_on, .ref q_t_compared, .ref q_t_globals, .ref q_t_own, .ref q_t_records, .ref q_t_pile, .ref q_t_handed, .ref q_t_keys, .ref q_t_key, .ref q_t_count, .ref q_t_bins, .ref q_t_operator, .ref q_t_starts, .ref q_t_sum, .ref q_t_least, .ref q_t_greatest, .int t_newSite, .int t_newCondition, .int t_newActions, .int t_size, .int t_place, .int t_pos, .int t_at, .int t_operators, .int t_recorded, .int t_lost, .int t_dropped, .int t_firings, .int t_time, .int t_thread, .int u, .int t_failed], zaI K q_t_text 48 t_text]) C 0 rfl rfl (c_Mo_bad l D K q_t q_t_text q_t_code q_t_site q_t_condition q_t_actions q_t_kind q_t_target q_t_first q_t_second q_t_failures q_t_met q_t_there q_t_on q_t_compared q_t_globals q_t_own q_t_records q_t_pile q_t_handed q_t_keys q_t_key q_t_count q_t_bins q_t_operator q_t_starts q_t_sum q_t_least q_t_greatest t_newSite t_newCondition t_newActions t_size t_place t_pos t_at t_operators t_recorded t_lost t_dropped t_firings t_time t_thread t_thrown t_failed y4) (cwV 1 C.2.2.2.2.1 (z_gV wl_Mo_107 wi_Mo_bad wv_Mo_bad wz_Mo wk_Mo_bad) rfl rfl rfl (by decide +kernel) ⟨Nat.le_of_ble_eq_true rfl, Nat.le_of_ble_eq_true rfl⟩) [0] [1] [1, 0] rfl rfl rfl rfl (by decide) (fun _ => rfl) rfl rfl rfl (Nat.le_of_ble_eq_true rfl) d_Mo_type_62 ⟨Nat.le_of_ble_eq_true rfl, Nat.le_of_ble_eq_true rfl⟩ (fun r3 u4 e5 => ?_)
      have hS6 := hS2 r3 u4 e5
      refine z_if_eq (tgt := 70) C d_Mo_type_65 (by decide) (fun c7 => ?_) (fun c7 => ?_)
      · have hS8 := hS6.1 c7
        refine z_aload_n C d_Mo_type_70 rfl 0 rfl ?_
        refine z_get C 0 rfl rfl in_Mo 31 (by decide) rfl wf_Mo_111 rfl d_Mo_type_71 ?_
        refine z_iload_n C d_Mo_type_74 rfl 2 rfl ?_
        refine z_iadd C d_Mo_type_75 ?_
        refine z_bipush (v := (48 : Int32)) C d_Mo_type_76 (by decide) ?_
        refine z_icmp_le (tgt := 88) C d_Mo_type_78 (by decide) (fun c9 => ?_) (fun c9 => ?_)
        · have hS10 := hS8.1 c9
          refine z_bipush (v := (56 : Int32)) C d_Mo_type_88 (by decide) ?_
          refine z_istore (lv' := [(5, .int (56 : Int32)), (0, .ref q_t), (1, .long y1), (3, .int y3), (4, .int y4)]) C d_Mo_type_90 (by decide) rfl ?_
          refine z_lpick (lv' := [(0, .ref q_t), (1, .long y1), (3, .int y3), (4, .int y4), (5, .int (56 : Int32))]) [1, 2, 3, 4, 0] rfl ?_
          exact lw_Mo_type_L92 l D K q_t q_t_text q_t_code q_t_site q_t_condition q_t_actions q_t_kind q_t_target q_t_first q_t_second q_t_failures q_t_met q_t_there q_t_on q_t_compared q_t_globals q_t_own q_t_records q_t_pile q_t_handed q_t_keys q_t_key q_t_count q_t_bins q_t_operator q_t_starts q_t_sum q_t_least q_t_greatest t_newSite t_newCondition t_newActions t_place t_pos t_at t_operators t_recorded t_lost t_dropped t_firings t_time t_thread t_failed C hr hlk 600 y1 y3 y4 (56 : Int32) t_size u4 t_text hS10
        · have hS10 := hS8.2 c9
          refine z_aload_n C d_Mo_type_81 rfl 0 rfl ?_
          refine z_iconst (v := (2 : Int32)) C d_Mo_type_82 (by decide) ?_
          refine z_put (ty := .int) (ws' := [zo 6 q_t [.ref q_t_text, .ref q_t_code, .ref q_t_site, .ref q_t_condition, .ref q_t_actions, .ref q_t_kind, .ref q_t_target, .ref q_t_first, .ref q_t_second, .ref q_t_failures, .ref q_t_met, .ref q_t_there, .ref q_t_on, .ref q_t_compared, .ref q_t_globals, .ref q_t_own, .ref q_t_records, .ref q_t_pile, .ref q_t_handed, .ref q_t_keys, .ref q_t_key, .ref q_t_count, .ref q_t_bins, .ref q_t_operator, .ref q_t_starts, .ref q_t_sum, .ref q_t_least, .ref q_t_greatest, .int t_newSite, .int t_newCondition, .int t_newActions, .int t_size, .int t_place, .int t_pos, .int t_at, .int t_operators, .int t_recorded, .int t_lost, .int t_dropped, .int t_firings, .int t_time, .int t_thread, .int (2 : Int32), .int t_failed], zaI K q_t_text 48 t_text]) C ty_Mo to_Mo nm_Mo 0 rfl rfl in_Mo 42 (by decide) rfl wf_Mo_100 rfl rfl rfl rfl (Nat.le_of_ble_eq_true rfl) rfl d_Mo_type_83 ?_
          refine z_iconst (v := (0 : Int32)) C d_Mo_type_86 (by decide) ?_
          exact z_iret C hr hlk (t_size, (2 : Int32), t_text) rfl hS10 d_Mo_type_87
      · have hS8 := hS6.2 c7
        refine z_iconst (v := (0 : Int32)) C d_Mo_type_68 (by decide) ?_
        exact z_iret C hr hlk (t_size, u4, t_text) rfl hS8 d_Mo_type_69
    · have hS2 := hS0.2 c1
      refine z_lload_n C d_Mo_type_14 rfl 1 rfl ?_
      refine z_iload C d_Mo_type_15 4 rfl ?_
      refine z_lushr C d_Mo_type_17 ?_
      refine z_l2i C d_Mo_type_18 ?_
      refine z_sipush (v := (255 : Int32)) C d_Mo_type_19 (by decide) ?_
      refine z_iand C d_Mo_type_22 ?_
      refine z_istore (lv' := [(6, .int ((((y1.toUInt64 >>> (y5.toInt64.toUInt64 &&& Int64.toUInt64 63)).toInt64).toInt32) &&& (255 : Int32))), (0, .ref q_t), (1, .long y1), (3, .int y3), (4, .int y4), (5, .int y5)]) C d_Mo_type_23 (by decide) rfl ?_
      refine z_iload C d_Mo_type_25 0 rfl ?_
      refine z_if_eq (tgt := 33) C d_Mo_type_27 (by decide) (fun c11 => ?_) (fun c11 => ?_)
      · have hS12 := hS2.1 c11
        refine z_iload C d_Mo_type_33 0 rfl ?_
        refine z_if_eq (tgt := 53) C d_Mo_type_35 (by decide) (fun c13 => ?_) (fun c13 => absurd c11 c13)
        refine z_iinc (j := 5) (v := y5 + (-8 : Int32)) (lv' := [(5, .int (y5 + (-8 : Int32))), (6, .int ((((y1.toUInt64 >>> (y5.toInt64.toUInt64 &&& Int64.toUInt64 63)).toInt64).toInt32) &&& (255 : Int32))), (0, .ref q_t), (1, .long y1), (3, .int y3), (4, .int y4)]) C d_Mo_type_53 rfl rfl (by decide) rfl ?_
        refine z_goto (tgt := 9) C d_Mo_type_56 (by decide) ?_
        refine z_lpick (lv' := [(0, .ref q_t), (1, .long y1), (3, .int y3), (4, .int y4), (5, .int (y5 + (-8 : Int32)))]) [2, 3, 4, 5, 0] rfl ?_
        exact ih y1 y3 y4 (y5 + (-8 : Int32)) t_size t_thrown t_text hS12
      · have hS12 := hS2.2 c11
        refine z_iinc (j := 3) (v := y3 + (1 : Int32)) (lv' := [(3, .int (y3 + (1 : Int32))), (6, .int ((((y1.toUInt64 >>> (y5.toInt64.toUInt64 &&& Int64.toUInt64 63)).toInt64).toInt32) &&& (255 : Int32))), (0, .ref q_t), (1, .long y1), (4, .int y4), (5, .int y5)]) C d_Mo_type_30 rfl rfl (by decide) rfl ?_
        refine z_iload C d_Mo_type_33 1 rfl ?_
        refine z_if_eq (tgt := 53) C d_Mo_type_35 (by decide) (fun c14 => absurd c14 c11) (fun c14 => ?_)
        refine z_iload C d_Mo_type_38 1 rfl ?_
        refine z_bipush (v := (33 : Int32)) C d_Mo_type_40 (by decide) ?_
        refine z_bipush (v := (126 : Int32)) C d_Mo_type_42 (by decide) ?_
        refine z_callSi (As := [.int ((((y1.toUInt64 >>> (y5.toInt64.toUInt64 &&& Int64.toUInt64 63)).toInt64).toInt32) &&& (255 : Int32)), .int (33 : Int32), .int (126 : Int32)]) (st := []) (wr := [zo 6 q_t [.ref q_t_text, .ref q_t_code, .ref q_t_site, .ref q_t_condition, .ref q_t_actions, .ref q_t_kind, .ref q_t_target, .ref q_t_first, .ref q_t_second, .ref q_t_failures, .ref q_t_met, .ref q_t_there, .ref q_t_on, .ref q_t_compared, .ref q_t_globals, .ref q_t_own, .ref q_t_records, .ref q_t_pile, .ref q_t_handed, .ref q_t_keys, .ref q_t_key, .ref q_t_count, .ref q_t_bins, .ref q_t_operator, .ref q_t_starts, .ref q_t_sum, .ref q_t_least, .ref q_t_greatest, .int t_newSite, .int t_newCondition, .int t_newActions, .int t_size, .int t_place, .int t_pos, .int t_at, .int t_operators, .int t_recorded, .int t_lost, .int t_dropped, .int t_firings, .int t_time, .int t_thread, .int t_thrown, .int t_failed], zaI K q_t_text 48 t_text]) (wj := fun u => [zo 6 q_t [.ref q_t_text, .ref q_t_code, .ref q_t_site, .ref q_t_condition, .ref q_t_actions, .ref q_t_kind, .ref q_t_target, .ref q_t_first, .ref q_t_second, .ref q_t_failures, .ref q_t_met, .ref q_t_there, .ref q_t_on, .ref q_t_compared, .ref q_t_globals, .ref q_t_own, .ref q_t_records, .ref q_t_pile, .ref q_t_handed, .ref q_t_keys, .ref q_t_key, .ref q_t_count, .ref q_t_bins, .ref q_t_operator, .ref q_t_starts, .ref q_t_sum, .ref q_t_least, .ref q_t_greatest, .int t_newSite, .int t_newCondition, .int t_newActions, .int t_size, .int t_place, .int t_pos, .int t_at, .int t_operators, .int t_recorded, .int t_lost, .int t_dropped, .int t_firings, .int t_time, .int t_thread, .int t_thrown, .int t_failed], zaI K q_t_text 48 t_text]) C (c_Mo_in l D K ((((y1.toUInt64 >>> (y5.toInt64.toUInt64 &&& Int64.toUInt64 63)).toInt64).toInt32) &&& (255 : Int32)) (33 : Int32) (126 : Int32)) (cwS 3 C.2.2.2.2.1 (z_gS wl_Mo_103 ws_Mo_in wz_Mo wk_Mo_in) rfl rfl rfl (by decide +kernel) ⟨Nat.le_of_ble_eq_true rfl, Nat.le_of_ble_eq_true rfl⟩) [] [0, 1] [0, 1] rfl rfl rfl rfl (by decide) (fun _ => rfl) rfl rfl rfl (Nat.le_of_ble_eq_true rfl) d_Mo_type_44 ⟨Nat.le_of_ble_eq_true rfl, Nat.le_of_ble_eq_true rfl⟩ (fun r15 u16 e17 => ?_)
        have hS18 := hS12 r15 e17
        refine z_if_ne (tgt := 53) C d_Mo_type_47 (by decide) (fun c19 => ?_) (fun c19 => ?_)
        · have hS20 := hS18.1 c19
          refine z_iinc (j := 5) (v := y5 + (-8 : Int32)) (lv' := [(5, .int (y5 + (-8 : Int32))), (3, .int (y3 + (1 : Int32))), (6, .int ((((y1.toUInt64 >>> (y5.toInt64.toUInt64 &&& Int64.toUInt64 63)).toInt64).toInt32) &&& (255 : Int32))), (0, .ref q_t), (1, .long y1), (4, .int y4)]) C d_Mo_type_53 rfl rfl (by decide) rfl ?_
          refine z_goto (tgt := 9) C d_Mo_type_56 (by decide) ?_
          refine z_lpick (lv' := [(0, .ref q_t), (1, .long y1), (3, .int (y3 + (1 : Int32))), (4, .int y4), (5, .int (y5 + (-8 : Int32)))]) [3, 4, 1, 5, 0] rfl ?_
          exact ih y1 (y3 + (1 : Int32)) y4 (y5 + (-8 : Int32)) t_size t_thrown t_text hS20
        · have hS20 := hS18.2 c19
          refine z_iconst (v := (0 : Int32)) C d_Mo_type_50 (by decide) ?_
          refine z_istore (lv' := [(4, .int (0 : Int32)), (3, .int (y3 + (1 : Int32))), (6, .int ((((y1.toUInt64 >>> (y5.toInt64.toUInt64 &&& Int64.toUInt64 63)).toInt64).toInt32) &&& (255 : Int32))), (0, .ref q_t), (1, .long y1), (5, .int y5)]) C d_Mo_type_51 (by decide) rfl ?_
          refine z_iinc (j := 5) (v := y5 + (-8 : Int32)) (lv' := [(5, .int (y5 + (-8 : Int32))), (4, .int (0 : Int32)), (3, .int (y3 + (1 : Int32))), (6, .int ((((y1.toUInt64 >>> (y5.toInt64.toUInt64 &&& Int64.toUInt64 63)).toInt64).toInt32) &&& (255 : Int32))), (0, .ref q_t), (1, .long y1)]) C d_Mo_type_53 rfl rfl (by decide) rfl ?_
          refine z_goto (tgt := 9) C d_Mo_type_56 (by decide) ?_
          refine z_lpick (lv' := [(0, .ref q_t), (1, .long y1), (3, .int (y3 + (1 : Int32))), (4, .int (0 : Int32)), (5, .int (y5 + (-8 : Int32)))]) [4, 5, 2, 1, 0] rfl ?_
          exact ih y1 (y3 + (1 : Int32)) (0 : Int32) (y5 + (-8 : Int32)) t_size t_thrown t_text hS20
set_option maxHeartbeats 4000000 in
set_option maxRecDepth 100000 in
theorem cw_Mo_type (l : Launch) (D : va_G) (K : Nat → ClassId) (q_t : Nat) (q_t_text : Nat) (q_t_code : Nat) (q_t_site : Nat) (q_t_condition : Nat) (q_t_actions : Nat) (q_t_kind : Nat) (q_t_target : Nat) (q_t_first : Nat) (q_t_second : Nat) (q_t_failures : Nat) (q_t_met : Nat) (q_t_there : Nat) (q_t_on : Nat) (q_t_compared : Nat) (q_t_globals : Nat) (q_t_own : Nat) (q_t_records : Nat) (q_t_pile : Nat) (q_t_handed : Nat) (q_t_keys : Nat) (q_t_key : Nat) (q_t_count : Nat) (q_t_bins : Nat) (q_t_operator : Nat) (q_t_starts : Nat) (q_t_sum : Nat) (q_t_least : Nat) (q_t_greatest : Nat) (t_newSite : Int32) (t_newCondition : Int32) (t_newActions : Int32) (t_size : Int32) (t_place : Int32) (t_pos : Int32) (t_at : Int32) (t_operators : Int32) (t_recorded : Int32) (t_lost : Int32) (t_dropped : Int32) (t_firings : Int32) (t_time : Int32) (t_thread : Int32) (t_thrown : Int32) (t_failed : Int32) (t_text : Nat → Int32) (x1 : Int64) {Q : Int32 → (Int32 × Int32 × (Nat → Int32)) → Prop} (hS0 : WP_Mo_type t_size t_thrown t_text x1 Q) : zCi l y_Mo_type wy_Mo_type rm_Mo_type D zcl (zT K) [.ref q_t, .long x1] (w_Mo_type K q_t q_t_text q_t_code q_t_site q_t_condition q_t_actions q_t_kind q_t_target q_t_first q_t_second q_t_failures q_t_met q_t_there q_t_on q_t_compared q_t_globals q_t_own q_t_records q_t_pile q_t_handed q_t_keys q_t_key q_t_count q_t_bins q_t_operator q_t_starts q_t_sum q_t_least q_t_greatest t_newSite t_newCondition t_newActions t_place t_pos t_at t_operators t_recorded t_lost t_dropped t_firings t_time t_thread t_failed (t_size, t_thrown, t_text)) (w_Mo_type K q_t q_t_text q_t_code q_t_site q_t_condition q_t_actions q_t_kind q_t_target q_t_first q_t_second q_t_failures q_t_met q_t_there q_t_on q_t_compared q_t_globals q_t_own q_t_records q_t_pile q_t_handed q_t_keys q_t_key q_t_count q_t_bins q_t_operator q_t_starts q_t_sum q_t_least q_t_greatest t_newSite t_newCondition t_newActions t_place t_pos t_at t_operators t_recorded t_lost t_dropped t_firings t_time t_thread t_failed) Q 0 0 := by
  refine z_meti (cc := b_Mo_type) (maxL := 7) (ret := (some .int)) (by decide) rfl (Nat.le_of_ble_eq_true rfl) ?_
  intro p e s m args below meth c A C hr hlk hnm
  refine z_lpick (lv' := [(0, .ref q_t), (1, .long x1)]) [0, 1] rfl ?_
  refine z_weq (ws' := [zo 6 q_t [.ref q_t_text, .ref q_t_code, .ref q_t_site, .ref q_t_condition, .ref q_t_actions, .ref q_t_kind, .ref q_t_target, .ref q_t_first, .ref q_t_second, .ref q_t_failures, .ref q_t_met, .ref q_t_there, .ref q_t_on, .ref q_t_compared, .ref q_t_globals, .ref q_t_own, .ref q_t_records, .ref q_t_pile, .ref q_t_handed, .ref q_t_keys, .ref q_t_key, .ref q_t_count, .ref q_t_bins, .ref q_t_operator, .ref q_t_starts, .ref q_t_sum, .ref q_t_least, .ref q_t_greatest, .int t_newSite, .int t_newCondition, .int t_newActions, .int t_size, .int t_place, .int t_pos, .int t_at, .int t_operators, .int t_recorded, .int t_lost, .int t_dropped, .int t_firings, .int t_time, .int t_thread, .int t_thrown, .int t_failed], zaI K q_t_text 48 t_text]) rfl ?_
  refine z_iconst (v := (0 : Int32)) C d_Mo_type_0 (by decide) ?_
  refine z_istore_n (lv' := [(3, .int (0 : Int32)), (0, .ref q_t), (1, .long x1)]) C d_Mo_type_1 rfl (by decide) rfl ?_
  refine z_iconst (v := (1 : Int32)) C d_Mo_type_2 (by decide) ?_
  refine z_istore (lv' := [(4, .int (1 : Int32)), (3, .int (0 : Int32)), (0, .ref q_t), (1, .long x1)]) C d_Mo_type_3 (by decide) rfl ?_
  refine z_bipush (v := (56 : Int32)) C d_Mo_type_5 (by decide) ?_
  refine z_istore (lv' := [(5, .int (56 : Int32)), (4, .int (1 : Int32)), (3, .int (0 : Int32)), (0, .ref q_t), (1, .long x1)]) C d_Mo_type_7 (by decide) rfl ?_
  refine z_lpick (lv' := [(0, .ref q_t), (1, .long x1), (3, .int (0 : Int32)), (4, .int (1 : Int32)), (5, .int (56 : Int32))]) [3, 4, 2, 1, 0] rfl ?_
  exact lw_Mo_type_L9 l D K q_t q_t_text q_t_code q_t_site q_t_condition q_t_actions q_t_kind q_t_target q_t_first q_t_second q_t_failures q_t_met q_t_there q_t_on q_t_compared q_t_globals q_t_own q_t_records q_t_pile q_t_handed q_t_keys q_t_key q_t_count q_t_bins q_t_operator q_t_starts q_t_sum q_t_least q_t_greatest t_newSite t_newCondition t_newActions t_place t_pos t_at t_operators t_recorded t_lost t_dropped t_firings t_time t_thread t_failed C hr hlk 600 x1 (0 : Int32) (1 : Int32) (56 : Int32) t_size t_thrown t_text hS0
def s_Mo_type_L92 : Nat → Int64 → Int32 → Int32 → Int32 → Int32 → Int32 → (Nat → Int32) → Int32 × Int32 × Int32 × (Nat → Int32)
  | 0, _, _, _, _, t_size, t_thrown, t_text => (0, t_size, t_thrown, t_text)
  | n + 1, y1, y3, y4, y5, t_size, t_thrown, t_text => (if y5 < 0 then (t_size, t_size, t_thrown, t_text) else (if ((((y1.toUInt64 >>> (y5.toInt64.toUInt64 &&& Int64.toUInt64 63)).toInt64).toInt32) &&& (255 : Int32)) = 0 then s_Mo_type_L92 n y1 y3 y4 (y5 + (-8 : Int32)) t_size t_thrown t_text else s_Mo_type_L92 n y1 y3 y4 (y5 + (-8 : Int32)) (t_size + (1 : Int32)) t_thrown (upd t_text t_size.toNatClampNeg ((((y1.toUInt64 >>> (y5.toInt64.toUInt64 &&& Int64.toUInt64 63)).toInt64).toInt32) &&& (255 : Int32)))))
def s_Mo_type_L9 : Nat → Int64 → Int32 → Int32 → Int32 → Int32 → Int32 → (Nat → Int32) → Int32 × Int32 × Int32 × (Nat → Int32)
  | 0, _, _, _, _, t_size, t_thrown, t_text => (0, t_size, t_thrown, t_text)
  | n + 1, y1, y3, y4, y5, t_size, t_thrown, t_text => (if y5 < 0 then (zl2 (s_Mo_bad t_thrown y4) (fun r3 u4 => (if r3 = 0 then (if (t_size + y3) ≤ (48 : Int32) then s_Mo_type_L92 600 y1 y3 y4 (56 : Int32) t_size u4 t_text else ((0 : Int32), t_size, (2 : Int32), t_text)) else ((0 : Int32), t_size, u4, t_text)))) else (if ((((y1.toUInt64 >>> (y5.toInt64.toUInt64 &&& Int64.toUInt64 63)).toInt64).toInt32) &&& (255 : Int32)) = 0 then s_Mo_type_L9 n y1 y3 y4 (y5 + (-8 : Int32)) t_size t_thrown t_text else (zl1 (s_Mo_in ((((y1.toUInt64 >>> (y5.toInt64.toUInt64 &&& Int64.toUInt64 63)).toInt64).toInt32) &&& (255 : Int32)) (33 : Int32) (126 : Int32)) fun r15 => (if r15 = 0 then s_Mo_type_L9 n y1 (y3 + (1 : Int32)) (0 : Int32) (y5 + (-8 : Int32)) t_size t_thrown t_text else s_Mo_type_L9 n y1 (y3 + (1 : Int32)) y4 (y5 + (-8 : Int32)) t_size t_thrown t_text))))
def s_Mo_type (t_size : Int32) (t_thrown : Int32) (t_text : Nat → Int32) (x1 : Int64) : Int32 × Int32 × Int32 × (Nat → Int32) := s_Mo_type_L9 600 x1 (0 : Int32) (1 : Int32) (56 : Int32) t_size t_thrown t_text
def p_Mo_type (t_size : Int32) (t_thrown : Int32) (t_text : Nat → Int32) (x1 : Int64) : Prop := WP_Mo_type t_size t_thrown t_text x1 (fun _ _ => True)
set_option maxRecDepth 100000 in
theorem v_Mo_type_L92 : ∀ (n : Nat) (y1 : Int64) (y3 : Int32) (y4 : Int32) (y5 : Int32) (t_size : Int32) (t_thrown : Int32) (t_text : Nat → Int32) (tgt : Int32 × Int32 × Int32 × (Nat → Int32)), s_Mo_type_L92 n y1 y3 y4 y5 t_size t_thrown t_text = tgt → WP_Mo_type_L92 n y1 y3 y4 y5 t_size t_thrown t_text (fun _ _ => True) → WP_Mo_type_L92 n y1 y3 y4 y5 t_size t_thrown t_text (fun r u => tgt = (r, u.1, u.2.1, u.2.2)) := by
  intro n
  induction n with
  | zero => intros; contradiction
  | succ n ih =>
    intro y1 y3 y4 y5 t_size t_thrown t_text tgt f0 hp
    unfold s_Mo_type_L92 at f0
    unfold WP_Mo_type_L92 at hp ⊢
    refine ⟨fun c21 => ?_, fun c21 => ?_⟩
    · have f1 := Eq.trans (Eq.symm (if_pos c21)) f0
      have g1 := hp.1 c21
      exact f1.symm
    · have f1 := Eq.trans (Eq.symm (if_neg c21)) f0
      have g1 := hp.2 c21
      refine ⟨fun c23 => ?_, fun c23 => ?_⟩
      · have f2 := Eq.trans (Eq.symm (if_neg c23)) f1
        have g2 := g1.1 c23
        refine ⟨g2.1, ?_⟩
        have g3 := g2.2
        exact ih y1 y3 y4 (y5 + (-8 : Int32)) (t_size + (1 : Int32)) t_thrown (upd t_text t_size.toNatClampNeg ((((y1.toUInt64 >>> (y5.toInt64.toUInt64 &&& Int64.toUInt64 63)).toInt64).toInt32) &&& (255 : Int32))) _ f2 g3
      · have f2 := Eq.trans (Eq.symm (if_pos c23)) f1
        have g2 := g1.2 c23
        exact ih y1 y3 y4 (y5 + (-8 : Int32)) t_size t_thrown t_text _ f2 g2
set_option maxRecDepth 100000 in
theorem v_Mo_type_L9 : ∀ (n : Nat) (y1 : Int64) (y3 : Int32) (y4 : Int32) (y5 : Int32) (t_size : Int32) (t_thrown : Int32) (t_text : Nat → Int32) (tgt : Int32 × Int32 × Int32 × (Nat → Int32)), s_Mo_type_L9 n y1 y3 y4 y5 t_size t_thrown t_text = tgt → WP_Mo_type_L9 n y1 y3 y4 y5 t_size t_thrown t_text (fun _ _ => True) → WP_Mo_type_L9 n y1 y3 y4 y5 t_size t_thrown t_text (fun r u => tgt = (r, u.1, u.2.1, u.2.2)) := by
  intro n
  induction n with
  | zero => intros; contradiction
  | succ n ih =>
    intro y1 y3 y4 y5 t_size t_thrown t_text tgt f0 hp
    unfold s_Mo_type_L9 at f0
    unfold WP_Mo_type_L9 at hp ⊢
    refine ⟨fun c1 => ?_, fun c1 => ?_⟩
    · have f1 := Eq.trans (Eq.symm (if_pos c1)) f0
      have g1 := hp.1 c1
      intro r3 u4 e5
      have g2 := g1 r3 u4 e5
      have f2 := Eq.trans (Eq.symm (zl2_eq e5)) f1
      refine ⟨fun c7 => ?_, fun c7 => ?_⟩
      · have f3 := Eq.trans (Eq.symm (if_pos c7)) f2
        have g3 := g2.1 c7
        refine ⟨fun c9 => ?_, fun c9 => ?_⟩
        · have f4 := Eq.trans (Eq.symm (if_pos c9)) f3
          have g4 := g3.1 c9
          exact v_Mo_type_L92 600 y1 y3 y4 (56 : Int32) t_size u4 t_text _ f4 g4
        · have f4 := Eq.trans (Eq.symm (if_neg c9)) f3
          have g4 := g3.2 c9
          exact f4.symm
      · have f3 := Eq.trans (Eq.symm (if_neg c7)) f2
        have g3 := g2.2 c7
        exact f3.symm
    · have f1 := Eq.trans (Eq.symm (if_neg c1)) f0
      have g1 := hp.2 c1
      refine ⟨fun c11 => ?_, fun c11 => ?_⟩
      · have f5 := Eq.trans (Eq.symm (if_pos c11)) f1
        have g5 := g1.1 c11
        exact ih y1 y3 y4 (y5 + (-8 : Int32)) t_size t_thrown t_text _ f5 g5
      · have f5 := Eq.trans (Eq.symm (if_neg c11)) f1
        have g5 := g1.2 c11
        intro r15 e17
        have g6 := g5 r15 e17
        have f6 := Eq.trans (Eq.symm (zl1_eq e17)) f5
        refine ⟨fun c19 => ?_, fun c19 => ?_⟩
        · have f7 := Eq.trans (Eq.symm (if_neg c19)) f6
          have g7 := g6.1 c19
          exact ih y1 (y3 + (1 : Int32)) y4 (y5 + (-8 : Int32)) t_size t_thrown t_text _ f7 g7
        · have f7 := Eq.trans (Eq.symm (if_pos c19)) f6
          have g7 := g6.2 c19
          exact ih y1 (y3 + (1 : Int32)) (0 : Int32) (y5 + (-8 : Int32)) t_size t_thrown t_text _ f7 g7
set_option maxRecDepth 100000 in
theorem v_Mo_type (t_size : Int32) (t_thrown : Int32) (t_text : Nat → Int32) (x1 : Int64) (hp : p_Mo_type t_size t_thrown t_text x1) : WP_Mo_type t_size t_thrown t_text x1 (fun r u => s_Mo_type t_size t_thrown t_text x1 = (r, u.1, u.2.1, u.2.2)) := by
  unfold p_Mo_type WP_Mo_type at hp
  obtain ⟨tgt, f0⟩ : ∃ tgt, s_Mo_type t_size t_thrown t_text x1 = tgt := ⟨_, rfl⟩
  rw [f0]
  unfold s_Mo_type at f0
  unfold WP_Mo_type
  exact v_Mo_type_L9 600 x1 (0 : Int32) (1 : Int32) (56 : Int32) t_size t_thrown t_text _ f0 hp
theorem c_Mo_type (l : Launch) (D : va_G) (K : Nat → ClassId) (q_t : Nat) (q_t_text : Nat) (q_t_code : Nat) (q_t_site : Nat) (q_t_condition : Nat) (q_t_actions : Nat) (q_t_kind : Nat) (q_t_target : Nat) (q_t_first : Nat) (q_t_second : Nat) (q_t_failures : Nat) (q_t_met : Nat) (q_t_there : Nat) (q_t_on : Nat) (q_t_compared : Nat) (q_t_globals : Nat) (q_t_own : Nat) (q_t_records : Nat) (q_t_pile : Nat) (q_t_handed : Nat) (q_t_keys : Nat) (q_t_key : Nat) (q_t_count : Nat) (q_t_bins : Nat) (q_t_operator : Nat) (q_t_starts : Nat) (q_t_sum : Nat) (q_t_least : Nat) (q_t_greatest : Nat) (t_newSite : Int32) (t_newCondition : Int32) (t_newActions : Int32) (t_size : Int32) (t_place : Int32) (t_pos : Int32) (t_at : Int32) (t_operators : Int32) (t_recorded : Int32) (t_lost : Int32) (t_dropped : Int32) (t_firings : Int32) (t_time : Int32) (t_thread : Int32) (t_thrown : Int32) (t_failed : Int32) (t_text : Nat → Int32) (x1 : Int64) (hp : p_Mo_type t_size t_thrown t_text x1) : zCi l y_Mo_type wy_Mo_type rm_Mo_type D zcl (zT K) [.ref q_t, .long x1] (w_Mo_type K q_t q_t_text q_t_code q_t_site q_t_condition q_t_actions q_t_kind q_t_target q_t_first q_t_second q_t_failures q_t_met q_t_there q_t_on q_t_compared q_t_globals q_t_own q_t_records q_t_pile q_t_handed q_t_keys q_t_key q_t_count q_t_bins q_t_operator q_t_starts q_t_sum q_t_least q_t_greatest t_newSite t_newCondition t_newActions t_place t_pos t_at t_operators t_recorded t_lost t_dropped t_firings t_time t_thread t_failed (t_size, t_thrown, t_text)) (w_Mo_type K q_t q_t_text q_t_code q_t_site q_t_condition q_t_actions q_t_kind q_t_target q_t_first q_t_second q_t_failures q_t_met q_t_there q_t_on q_t_compared q_t_globals q_t_own q_t_records q_t_pile q_t_handed q_t_keys q_t_key q_t_count q_t_bins q_t_operator q_t_starts q_t_sum q_t_least q_t_greatest t_newSite t_newCondition t_newActions t_place t_pos t_at t_operators t_recorded t_lost t_dropped t_firings t_time t_thread t_failed) (fun r u => s_Mo_type t_size t_thrown t_text x1 = (r, u.1, u.2.1, u.2.2)) 0 0 := cw_Mo_type l D K q_t q_t_text q_t_code q_t_site q_t_condition q_t_actions q_t_kind q_t_target q_t_first q_t_second q_t_failures q_t_met q_t_there q_t_on q_t_compared q_t_globals q_t_own q_t_records q_t_pile q_t_handed q_t_keys q_t_key q_t_count q_t_bins q_t_operator q_t_starts q_t_sum q_t_least q_t_greatest t_newSite t_newCondition t_newActions t_size t_place t_pos t_at t_operators t_recorded t_lost t_dropped t_firings t_time t_thread t_thrown t_failed t_text x1 (v_Mo_type t_size t_thrown t_text x1 hp)
-- RuleTracerModel.look()I: reads ['t.size', 't.pos', 't.text'], changes []
abbrev w_Mo_look (K : Nat → ClassId) (q_t : Nat) (q_t_text : Nat) (q_t_code : Nat) (q_t_site : Nat) (q_t_condition : Nat) (q_t_actions : Nat) (q_t_kind : Nat) (q_t_target : Nat) (q_t_first : Nat) (q_t_second : Nat) (q_t_failures : Nat) (q_t_met : Nat) (q_t_there : Nat) (q_t_on : Nat) (q_t_compared : Nat) (q_t_globals : Nat) (q_t_own : Nat) (q_t_records : Nat) (q_t_pile : Nat) (q_t_handed : Nat) (q_t_keys : Nat) (q_t_key : Nat) (q_t_count : Nat) (q_t_bins : Nat) (q_t_operator : Nat) (q_t_starts : Nat) (q_t_sum : Nat) (q_t_least : Nat) (q_t_greatest : Nat) (t_newSite : Int32) (t_newCondition : Int32) (t_newActions : Int32) (t_size : Int32) (t_place : Int32) (t_pos : Int32) (t_at : Int32) (t_operators : Int32) (t_recorded : Int32) (t_lost : Int32) (t_dropped : Int32) (t_firings : Int32) (t_time : Int32) (t_thread : Int32) (t_thrown : Int32) (t_failed : Int32) (t_text : Nat → Int32) (u : Unit) : va_W := [zo 6 q_t [.ref q_t_text, .ref q_t_code, .ref q_t_site, .ref q_t_condition, .ref q_t_actions, .ref q_t_kind, .ref q_t_target, .ref q_t_first, .ref q_t_second, .ref q_t_failures, .ref q_t_met, .ref q_t_there, .ref q_t_on, .ref q_t_compared, .ref q_t_globals, .ref q_t_own, .ref q_t_records, .ref q_t_pile, .ref q_t_handed, .ref q_t_keys, .ref q_t_key, .ref q_t_count, .ref q_t_bins, .ref q_t_operator, .ref q_t_starts, .ref q_t_sum, .ref q_t_least, .ref q_t_greatest, .int t_newSite, .int t_newCondition, .int t_newActions, .int t_size, .int t_place, .int t_pos, .int t_at, .int t_operators, .int t_recorded, .int t_lost, .int t_dropped, .int t_firings, .int t_time, .int t_thread, .int t_thrown, .int t_failed], zaI K q_t_text 48 t_text]
abbrev rm_Mo_look : Room := { frames := 0, cells := 0, slots := 0, locals := 0 }
abbrev wy_Mo_look : List Cond := .code y_Mo_look b_Mo_look 1 (some .int) :: zWT
def WP_Mo_look (t_size : Int32) (t_pos : Int32) (t_text : Nat → Int32) (Q : Int32 → Unit → Prop) : Prop := ((t_size ≤ t_pos) → Q (0 : Int32) ()) ∧ ((¬ t_size ≤ t_pos) → vp_in t_pos 48 ∧ Q (t_text t_pos.toNatClampNeg) ())
set_option maxHeartbeats 4000000 in
set_option maxRecDepth 100000 in
theorem cw_Mo_look (l : Launch) (D : va_G) (K : Nat → ClassId) (q_t : Nat) (q_t_text : Nat) (q_t_code : Nat) (q_t_site : Nat) (q_t_condition : Nat) (q_t_actions : Nat) (q_t_kind : Nat) (q_t_target : Nat) (q_t_first : Nat) (q_t_second : Nat) (q_t_failures : Nat) (q_t_met : Nat) (q_t_there : Nat) (q_t_on : Nat) (q_t_compared : Nat) (q_t_globals : Nat) (q_t_own : Nat) (q_t_records : Nat) (q_t_pile : Nat) (q_t_handed : Nat) (q_t_keys : Nat) (q_t_key : Nat) (q_t_count : Nat) (q_t_bins : Nat) (q_t_operator : Nat) (q_t_starts : Nat) (q_t_sum : Nat) (q_t_least : Nat) (q_t_greatest : Nat) (t_newSite : Int32) (t_newCondition : Int32) (t_newActions : Int32) (t_size : Int32) (t_place : Int32) (t_pos : Int32) (t_at : Int32) (t_operators : Int32) (t_recorded : Int32) (t_lost : Int32) (t_dropped : Int32) (t_firings : Int32) (t_time : Int32) (t_thread : Int32) (t_thrown : Int32) (t_failed : Int32) (t_text : Nat → Int32) {Q : Int32 → Unit → Prop} (hS0 : WP_Mo_look t_size t_pos t_text Q) : zCi l y_Mo_look wy_Mo_look rm_Mo_look D zcl (zT K) [.ref q_t] (w_Mo_look K q_t q_t_text q_t_code q_t_site q_t_condition q_t_actions q_t_kind q_t_target q_t_first q_t_second q_t_failures q_t_met q_t_there q_t_on q_t_compared q_t_globals q_t_own q_t_records q_t_pile q_t_handed q_t_keys q_t_key q_t_count q_t_bins q_t_operator q_t_starts q_t_sum q_t_least q_t_greatest t_newSite t_newCondition t_newActions t_size t_place t_pos t_at t_operators t_recorded t_lost t_dropped t_firings t_time t_thread t_thrown t_failed t_text ()) (w_Mo_look K q_t q_t_text q_t_code q_t_site q_t_condition q_t_actions q_t_kind q_t_target q_t_first q_t_second q_t_failures q_t_met q_t_there q_t_on q_t_compared q_t_globals q_t_own q_t_records q_t_pile q_t_handed q_t_keys q_t_key q_t_count q_t_bins q_t_operator q_t_starts q_t_sum q_t_least q_t_greatest t_newSite t_newCondition t_newActions t_size t_place t_pos t_at t_operators t_recorded t_lost t_dropped t_firings t_time t_thread t_thrown t_failed t_text) Q 0 0 := by
  refine z_meti (cc := b_Mo_look) (maxL := 1) (ret := (some .int)) (by decide) rfl (Nat.le_of_ble_eq_true rfl) ?_
  intro p e s m args below meth c A C hr hlk hnm
  refine z_lpick (lv' := [(0, .ref q_t)]) [0] rfl ?_
  refine z_weq (ws' := [zo 6 q_t [.ref q_t_text, .ref q_t_code, .ref q_t_site, .ref q_t_condition, .ref q_t_actions, .ref q_t_kind, .ref q_t_target, .ref q_t_first, .ref q_t_second, .ref q_t_failures, .ref q_t_met, .ref q_t_there, .ref q_t_on, .ref q_t_compared, .ref q_t_globals, .ref q_t_own, .ref q_t_records, .ref q_t_pile, .ref q_t_handed, .ref q_t_keys, .ref q_t_key, .ref q_t_count, .ref q_t_bins, .ref q_t_operator, .ref q_t_starts, .ref q_t_sum, .ref q_t_least, .ref q_t_greatest, .int t_newSite, .int t_newCondition, .int t_newActions, .int t_size, .int t_place, .int t_pos, .int t_at, .int t_operators, .int t_recorded, .int t_lost, .int t_dropped, .int t_firings, .int t_time, .int t_thread, .int t_thrown, .int t_failed], zaI K q_t_text 48 t_text]) rfl ?_
  refine z_aload_n C d_Mo_look_0 rfl 0 rfl ?_
  refine z_get C 0 rfl rfl in_Mo 33 (by decide) rfl wf_Mo_114 rfl d_Mo_look_1 ?_
  refine z_aload_n C d_Mo_look_4 rfl 0 rfl ?_
  refine z_get C 0 rfl rfl in_Mo 31 (by decide) rfl wf_Mo_111 rfl d_Mo_look_5 ?_
  refine z_icmp_ge (tgt := 23) C d_Mo_look_8 (by decide) (fun c1 => ?_) (fun c1 => ?_)
  · have hS2 := hS0.1 c1
    refine z_iconst (v := (0 : Int32)) C d_Mo_look_23 (by decide) ?_
    exact z_iret C hr hlk () rfl hS2 d_Mo_look_24
  · have hS2 := hS0.2 c1
    refine z_aload_n C d_Mo_look_11 rfl 0 rfl ?_
    refine z_get C 0 rfl rfl in_Mo 0 (by decide) rfl wf_Mo_7 rfl d_Mo_look_12 ?_
    refine z_aload_n C d_Mo_look_15 rfl 0 rfl ?_
    refine z_get C 0 rfl rfl in_Mo 33 (by decide) rfl wf_Mo_114 rfl d_Mo_look_16 ?_
    refine z_iald C 1 0 rfl rfl hS2.1 d_Mo_look_19 ?_
    have hS3 := hS2.2
    refine z_goto (tgt := 24) C d_Mo_look_20 (by decide) ?_
    exact z_iret C hr hlk () rfl hS3 d_Mo_look_24
def s_Mo_look (t_size : Int32) (t_pos : Int32) (t_text : Nat → Int32) : Int32 := (if t_size ≤ t_pos then (0 : Int32) else t_text t_pos.toNatClampNeg)
def p_Mo_look (t_size : Int32) (t_pos : Int32) (t_text : Nat → Int32) : Prop := WP_Mo_look t_size t_pos t_text (fun _ _ => True)
set_option maxRecDepth 100000 in
theorem v_Mo_look (t_size : Int32) (t_pos : Int32) (t_text : Nat → Int32) (hp : p_Mo_look t_size t_pos t_text) : WP_Mo_look t_size t_pos t_text (fun r u => s_Mo_look t_size t_pos t_text = r) := by
  unfold p_Mo_look WP_Mo_look at hp
  obtain ⟨tgt, f0⟩ : ∃ tgt, s_Mo_look t_size t_pos t_text = tgt := ⟨_, rfl⟩
  rw [f0]
  unfold s_Mo_look at f0
  unfold WP_Mo_look
  refine ⟨fun c1 => ?_, fun c1 => ?_⟩
  · have f1 := Eq.trans (Eq.symm (if_pos c1)) f0
    have g1 := hp.1 c1
    exact f1.symm
  · have f1 := Eq.trans (Eq.symm (if_neg c1)) f0
    have g1 := hp.2 c1
    refine ⟨g1.1, ?_⟩
    have g2 := g1.2
    exact f1.symm
theorem c_Mo_look (l : Launch) (D : va_G) (K : Nat → ClassId) (q_t : Nat) (q_t_text : Nat) (q_t_code : Nat) (q_t_site : Nat) (q_t_condition : Nat) (q_t_actions : Nat) (q_t_kind : Nat) (q_t_target : Nat) (q_t_first : Nat) (q_t_second : Nat) (q_t_failures : Nat) (q_t_met : Nat) (q_t_there : Nat) (q_t_on : Nat) (q_t_compared : Nat) (q_t_globals : Nat) (q_t_own : Nat) (q_t_records : Nat) (q_t_pile : Nat) (q_t_handed : Nat) (q_t_keys : Nat) (q_t_key : Nat) (q_t_count : Nat) (q_t_bins : Nat) (q_t_operator : Nat) (q_t_starts : Nat) (q_t_sum : Nat) (q_t_least : Nat) (q_t_greatest : Nat) (t_newSite : Int32) (t_newCondition : Int32) (t_newActions : Int32) (t_size : Int32) (t_place : Int32) (t_pos : Int32) (t_at : Int32) (t_operators : Int32) (t_recorded : Int32) (t_lost : Int32) (t_dropped : Int32) (t_firings : Int32) (t_time : Int32) (t_thread : Int32) (t_thrown : Int32) (t_failed : Int32) (t_text : Nat → Int32) (hp : p_Mo_look t_size t_pos t_text) : zCi l y_Mo_look wy_Mo_look rm_Mo_look D zcl (zT K) [.ref q_t] (w_Mo_look K q_t q_t_text q_t_code q_t_site q_t_condition q_t_actions q_t_kind q_t_target q_t_first q_t_second q_t_failures q_t_met q_t_there q_t_on q_t_compared q_t_globals q_t_own q_t_records q_t_pile q_t_handed q_t_keys q_t_key q_t_count q_t_bins q_t_operator q_t_starts q_t_sum q_t_least q_t_greatest t_newSite t_newCondition t_newActions t_size t_place t_pos t_at t_operators t_recorded t_lost t_dropped t_firings t_time t_thread t_thrown t_failed t_text ()) (w_Mo_look K q_t q_t_text q_t_code q_t_site q_t_condition q_t_actions q_t_kind q_t_target q_t_first q_t_second q_t_failures q_t_met q_t_there q_t_on q_t_compared q_t_globals q_t_own q_t_records q_t_pile q_t_handed q_t_keys q_t_key q_t_count q_t_bins q_t_operator q_t_starts q_t_sum q_t_least q_t_greatest t_newSite t_newCondition t_newActions t_size t_place t_pos t_at t_operators t_recorded t_lost t_dropped t_firings t_time t_thread t_thrown t_failed t_text) (fun r u => s_Mo_look t_size t_pos t_text = r) 0 0 := cw_Mo_look l D K q_t q_t_text q_t_code q_t_site q_t_condition q_t_actions q_t_kind q_t_target q_t_first q_t_second q_t_failures q_t_met q_t_there q_t_on q_t_compared q_t_globals q_t_own q_t_records q_t_pile q_t_handed q_t_keys q_t_key q_t_count q_t_bins q_t_operator q_t_starts q_t_sum q_t_least q_t_greatest t_newSite t_newCondition t_newActions t_size t_place t_pos t_at t_operators t_recorded t_lost t_dropped t_firings t_time t_thread t_thrown t_failed t_text (v_Mo_look t_size t_pos t_text hp)
-- RuleTracerModel.passes(I)Z: reads ['t.size', 't.pos', 't.text'], changes ['t.pos']
abbrev w_Mo_passes (K : Nat → ClassId) (q_t : Nat) (q_t_text : Nat) (q_t_code : Nat) (q_t_site : Nat) (q_t_condition : Nat) (q_t_actions : Nat) (q_t_kind : Nat) (q_t_target : Nat) (q_t_first : Nat) (q_t_second : Nat) (q_t_failures : Nat) (q_t_met : Nat) (q_t_there : Nat) (q_t_on : Nat) (q_t_compared : Nat) (q_t_globals : Nat) (q_t_own : Nat) (q_t_records : Nat) (q_t_pile : Nat) (q_t_handed : Nat) (q_t_keys : Nat) (q_t_key : Nat) (q_t_count : Nat) (q_t_bins : Nat) (q_t_operator : Nat) (q_t_starts : Nat) (q_t_sum : Nat) (q_t_least : Nat) (q_t_greatest : Nat) (t_newSite : Int32) (t_newCondition : Int32) (t_newActions : Int32) (t_size : Int32) (t_place : Int32) (t_at : Int32) (t_operators : Int32) (t_recorded : Int32) (t_lost : Int32) (t_dropped : Int32) (t_firings : Int32) (t_time : Int32) (t_thread : Int32) (t_thrown : Int32) (t_failed : Int32) (t_text : Nat → Int32) (u : Int32) : va_W := [zo 6 q_t [.ref q_t_text, .ref q_t_code, .ref q_t_site, .ref q_t_condition, .ref q_t_actions, .ref q_t_kind, .ref q_t_target, .ref q_t_first, .ref q_t_second, .ref q_t_failures, .ref q_t_met, .ref q_t_there, .ref q_t_on, .ref q_t_compared, .ref q_t_globals, .ref q_t_own, .ref q_t_records, .ref q_t_pile, .ref q_t_handed, .ref q_t_keys, .ref q_t_key, .ref q_t_count, .ref q_t_bins, .ref q_t_operator, .ref q_t_starts, .ref q_t_sum, .ref q_t_least, .ref q_t_greatest, .int t_newSite, .int t_newCondition, .int t_newActions, .int t_size, .int t_place, .int u, .int t_at, .int t_operators, .int t_recorded, .int t_lost, .int t_dropped, .int t_firings, .int t_time, .int t_thread, .int t_thrown, .int t_failed], zaI K q_t_text 48 t_text]
abbrev rm_Mo_passes : Room := { frames := 1, cells := 0, slots := 0, locals := 20 }
abbrev wy_Mo_passes : List Cond := .code y_Mo_passes b_Mo_passes 2 (some .boolean) :: zWT
def WP_Mo_passes (t_size : Int32) (t_pos : Int32) (t_text : Nat → Int32) (x1 : Int32) (Q : Int32 → Int32 → Prop) : Prop := p_Mo_look t_size t_pos t_text ∧ (∀ (r1 : Int32), s_Mo_look t_size t_pos t_text = r1 → ((r1 = x1) → Q (1 : Int32) (t_pos + (1 : Int32))) ∧ ((¬ r1 = x1) → Q (0 : Int32) t_pos))
set_option maxHeartbeats 4000000 in
set_option maxRecDepth 100000 in
theorem cw_Mo_passes (l : Launch) (D : va_G) (K : Nat → ClassId) (q_t : Nat) (q_t_text : Nat) (q_t_code : Nat) (q_t_site : Nat) (q_t_condition : Nat) (q_t_actions : Nat) (q_t_kind : Nat) (q_t_target : Nat) (q_t_first : Nat) (q_t_second : Nat) (q_t_failures : Nat) (q_t_met : Nat) (q_t_there : Nat) (q_t_on : Nat) (q_t_compared : Nat) (q_t_globals : Nat) (q_t_own : Nat) (q_t_records : Nat) (q_t_pile : Nat) (q_t_handed : Nat) (q_t_keys : Nat) (q_t_key : Nat) (q_t_count : Nat) (q_t_bins : Nat) (q_t_operator : Nat) (q_t_starts : Nat) (q_t_sum : Nat) (q_t_least : Nat) (q_t_greatest : Nat) (t_newSite : Int32) (t_newCondition : Int32) (t_newActions : Int32) (t_size : Int32) (t_place : Int32) (t_pos : Int32) (t_at : Int32) (t_operators : Int32) (t_recorded : Int32) (t_lost : Int32) (t_dropped : Int32) (t_firings : Int32) (t_time : Int32) (t_thread : Int32) (t_thrown : Int32) (t_failed : Int32) (t_text : Nat → Int32) (x1 : Int32) {Q : Int32 → Int32 → Prop} (hS0 : WP_Mo_passes t_size t_pos t_text x1 Q) : zCi l y_Mo_passes wy_Mo_passes rm_Mo_passes D zcl (zT K) [.ref q_t, .int x1] (w_Mo_passes K q_t q_t_text q_t_code q_t_site q_t_condition q_t_actions q_t_kind q_t_target q_t_first q_t_second q_t_failures q_t_met q_t_there q_t_on q_t_compared q_t_globals q_t_own q_t_records q_t_pile q_t_handed q_t_keys q_t_key q_t_count q_t_bins q_t_operator q_t_starts q_t_sum q_t_least q_t_greatest t_newSite t_newCondition t_newActions t_size t_place t_at t_operators t_recorded t_lost t_dropped t_firings t_time t_thread t_thrown t_failed t_text t_pos) (w_Mo_passes K q_t q_t_text q_t_code q_t_site q_t_condition q_t_actions q_t_kind q_t_target q_t_first q_t_second q_t_failures q_t_met q_t_there q_t_on q_t_compared q_t_globals q_t_own q_t_records q_t_pile q_t_handed q_t_keys q_t_key q_t_count q_t_bins q_t_operator q_t_starts q_t_sum q_t_least q_t_greatest t_newSite t_newCondition t_newActions t_size t_place t_at t_operators t_recorded t_lost t_dropped t_firings t_time t_thread t_thrown t_failed t_text) Q 0 0 := by
  refine z_meti (cc := b_Mo_passes) (maxL := 2) (ret := (some .boolean)) (by decide) rfl (Nat.le_of_ble_eq_true rfl) ?_
  intro p e s m args below meth c A C hr hlk hnm
  refine z_lpick (lv' := [(0, .ref q_t), (1, .int x1)]) [0, 1] rfl ?_
  refine z_weq (ws' := [zo 6 q_t [.ref q_t_text, .ref q_t_code, .ref q_t_site, .ref q_t_condition, .ref q_t_actions, .ref q_t_kind, .ref q_t_target, .ref q_t_first, .ref q_t_second, .ref q_t_failures, .ref q_t_met, .ref q_t_there, .ref q_t_on, .ref q_t_compared, .ref q_t_globals, .ref q_t_own, .ref q_t_records, .ref q_t_pile, .ref q_t_handed, .ref q_t_keys, .ref q_t_key, .ref q_t_count, .ref q_t_bins, .ref q_t_operator, .ref q_t_starts, .ref q_t_sum, .ref q_t_least, .ref q_t_greatest, .int t_newSite, .int t_newCondition, .int t_newActions, .int t_size, .int t_place, .int t_pos, .int t_at, .int t_operators, .int t_recorded, .int t_lost, .int t_dropped, .int t_firings, .int t_time, .int t_thread, .int t_thrown, .int t_failed], zaI K q_t_text 48 t_text]) rfl ?_
  refine z_aload_n C d_Mo_passes_0 rfl 0 rfl ?_
  refine z_callVi (As := []) (b := q_t) (st := []) (wr := []) (wj := fun u => [zo 6 q_t [.ref q_t_text, .ref q_t_code, .ref q_t_site, .ref q_t_condition, .ref q_t_actions, .ref q_t_kind, .ref q_t_target, .ref q_t_first, .ref q_t_second, .ref q_t_failures, .ref q_t_met, .ref q_t_there, .ref q_t_on, .ref q_t_compared, .ref q_t_globals, .ref q_t_own, .ref q_t_records, .ref q_t_pile, .ref q_t_handed, .ref q_t_keys, .ref q_t_key, .ref q_t_count, .ref q_t_bins, .ref q_t_operator, .ref q_t_starts, .ref q_t_sum, .ref q_t_least, .ref q_t_greatest, .int t_newSite, .int t_newCondition, .int t_newActions, .int t_size, .int t_place, .int t_pos, .int t_at, .int t_operators, .int t_recorded, .int t_lost, .int t_dropped, .int t_firings, .int t_time, .int t_thread, .int t_thrown, .int t_failed], zaI K q_t_text 48 t_text]) C 0 rfl rfl (c_Mo_look l D K q_t q_t_text q_t_code q_t_site q_t_condition q_t_actions q_t_kind q_t_target q_t_first q_t_second q_t_failures q_t_met q_t_there q_t_on q_t_compared q_t_globals q_t_own q_t_records q_t_pile q_t_handed q_t_keys q_t_key q_t_count q_t_bins q_t_operator q_t_starts q_t_sum q_t_least q_t_greatest t_newSite t_newCondition t_newActions t_size t_place t_pos t_at t_operators t_recorded t_lost t_dropped t_firings t_time t_thread t_thrown t_failed t_text hS0.1) (cwV 0 C.2.2.2.2.1 (z_gV wl_Mo_117 wi_Mo_look wv_Mo_look wz_Mo wk_Mo_look) rfl rfl rfl (by decide +kernel) ⟨Nat.le_of_ble_eq_true rfl, Nat.le_of_ble_eq_true rfl⟩) [0, 1] [] [0, 1] rfl rfl rfl rfl (by decide) (fun _ => rfl) rfl rfl rfl (Nat.le_of_ble_eq_true rfl) d_Mo_passes_1 ⟨Nat.le_of_ble_eq_true rfl, Nat.le_of_ble_eq_true rfl⟩ (fun r1 u2 e3 => ?_)
  have hS4 := hS0.2 r1 e3
  refine z_iload_n C d_Mo_passes_4 rfl 1 rfl ?_
  refine z_icmp_eq (tgt := 10) C d_Mo_passes_5 (by decide) (fun c5 => ?_) (fun c5 => ?_)
  · have hS6 := hS4.1 c5
    refine z_aload_n C d_Mo_passes_10 rfl 0 rfl ?_
    refine z_dup C d_Mo_passes_11 rfl ?_
    refine z_get C 0 rfl rfl in_Mo 33 (by decide) rfl wf_Mo_114 rfl d_Mo_passes_12 ?_
    refine z_iconst (v := (1 : Int32)) C d_Mo_passes_15 (by decide) ?_
    refine z_iadd C d_Mo_passes_16 ?_
    refine z_put (ty := .int) (ws' := [zo 6 q_t [.ref q_t_text, .ref q_t_code, .ref q_t_site, .ref q_t_condition, .ref q_t_actions, .ref q_t_kind, .ref q_t_target, .ref q_t_first, .ref q_t_second, .ref q_t_failures, .ref q_t_met, .ref q_t_there, .ref q_t_on, .ref q_t_compared, .ref q_t_globals, .ref q_t_own, .ref q_t_records, .ref q_t_pile, .ref q_t_handed, .ref q_t_keys, .ref q_t_key, .ref q_t_count, .ref q_t_bins, .ref q_t_operator, .ref q_t_starts, .ref q_t_sum, .ref q_t_least, .ref q_t_greatest, .int t_newSite, .int t_newCondition, .int t_newActions, .int t_size, .int t_place, .int (t_pos + (1 : Int32)), .int t_at, .int t_operators, .int t_recorded, .int t_lost, .int t_dropped, .int t_firings, .int t_time, .int t_thread, .int t_thrown, .int t_failed], zaI K q_t_text 48 t_text]) C ty_Mo to_Mo nm_Mo 0 rfl rfl in_Mo 33 (by decide) rfl wf_Mo_114 rfl rfl rfl rfl (Nat.le_of_ble_eq_true rfl) rfl d_Mo_passes_17 ?_
    refine z_iconst (v := (1 : Int32)) C d_Mo_passes_20 (by decide) ?_
    exact z_zret C hr rfl hlk (t_pos + (1 : Int32)) rfl hS6 d_Mo_passes_21
  · have hS6 := hS4.2 c5
    refine z_iconst (v := (0 : Int32)) C d_Mo_passes_8 (by decide) ?_
    exact z_zret C hr rfl hlk t_pos rfl hS6 d_Mo_passes_9
def s_Mo_passes (t_size : Int32) (t_pos : Int32) (t_text : Nat → Int32) (x1 : Int32) : Int32 × Int32 := (zl1 (s_Mo_look t_size t_pos t_text) fun r1 => (if r1 = x1 then ((1 : Int32), t_pos + (1 : Int32)) else ((0 : Int32), t_pos)))
def p_Mo_passes (t_size : Int32) (t_pos : Int32) (t_text : Nat → Int32) (x1 : Int32) : Prop := WP_Mo_passes t_size t_pos t_text x1 (fun _ _ => True)
set_option maxRecDepth 100000 in
theorem v_Mo_passes (t_size : Int32) (t_pos : Int32) (t_text : Nat → Int32) (x1 : Int32) (hp : p_Mo_passes t_size t_pos t_text x1) : WP_Mo_passes t_size t_pos t_text x1 (fun r u => s_Mo_passes t_size t_pos t_text x1 = (r, u)) := by
  unfold p_Mo_passes WP_Mo_passes at hp
  obtain ⟨tgt, f0⟩ : ∃ tgt, s_Mo_passes t_size t_pos t_text x1 = tgt := ⟨_, rfl⟩
  rw [f0]
  unfold s_Mo_passes at f0
  unfold WP_Mo_passes
  refine ⟨hp.1, ?_⟩
  have g2 := hp.2
  intro r1 e3
  have g1 := g2 r1 e3
  have f1 := Eq.trans (Eq.symm (zl1_eq e3)) f0
  refine ⟨fun c5 => ?_, fun c5 => ?_⟩
  · have f3 := Eq.trans (Eq.symm (if_pos c5)) f1
    have g3 := g1.1 c5
    exact f3.symm
  · have f3 := Eq.trans (Eq.symm (if_neg c5)) f1
    have g3 := g1.2 c5
    exact f3.symm
theorem c_Mo_passes (l : Launch) (D : va_G) (K : Nat → ClassId) (q_t : Nat) (q_t_text : Nat) (q_t_code : Nat) (q_t_site : Nat) (q_t_condition : Nat) (q_t_actions : Nat) (q_t_kind : Nat) (q_t_target : Nat) (q_t_first : Nat) (q_t_second : Nat) (q_t_failures : Nat) (q_t_met : Nat) (q_t_there : Nat) (q_t_on : Nat) (q_t_compared : Nat) (q_t_globals : Nat) (q_t_own : Nat) (q_t_records : Nat) (q_t_pile : Nat) (q_t_handed : Nat) (q_t_keys : Nat) (q_t_key : Nat) (q_t_count : Nat) (q_t_bins : Nat) (q_t_operator : Nat) (q_t_starts : Nat) (q_t_sum : Nat) (q_t_least : Nat) (q_t_greatest : Nat) (t_newSite : Int32) (t_newCondition : Int32) (t_newActions : Int32) (t_size : Int32) (t_place : Int32) (t_pos : Int32) (t_at : Int32) (t_operators : Int32) (t_recorded : Int32) (t_lost : Int32) (t_dropped : Int32) (t_firings : Int32) (t_time : Int32) (t_thread : Int32) (t_thrown : Int32) (t_failed : Int32) (t_text : Nat → Int32) (x1 : Int32) (hp : p_Mo_passes t_size t_pos t_text x1) : zCi l y_Mo_passes wy_Mo_passes rm_Mo_passes D zcl (zT K) [.ref q_t, .int x1] (w_Mo_passes K q_t q_t_text q_t_code q_t_site q_t_condition q_t_actions q_t_kind q_t_target q_t_first q_t_second q_t_failures q_t_met q_t_there q_t_on q_t_compared q_t_globals q_t_own q_t_records q_t_pile q_t_handed q_t_keys q_t_key q_t_count q_t_bins q_t_operator q_t_starts q_t_sum q_t_least q_t_greatest t_newSite t_newCondition t_newActions t_size t_place t_at t_operators t_recorded t_lost t_dropped t_firings t_time t_thread t_thrown t_failed t_text t_pos) (w_Mo_passes K q_t q_t_text q_t_code q_t_site q_t_condition q_t_actions q_t_kind q_t_target q_t_first q_t_second q_t_failures q_t_met q_t_there q_t_on q_t_compared q_t_globals q_t_own q_t_records q_t_pile q_t_handed q_t_keys q_t_key q_t_count q_t_bins q_t_operator q_t_starts q_t_sum q_t_least q_t_greatest t_newSite t_newCondition t_newActions t_size t_place t_at t_operators t_recorded t_lost t_dropped t_firings t_time t_thread t_thrown t_failed t_text) (fun r u => s_Mo_passes t_size t_pos t_text x1 = (r, u)) 0 0 := cw_Mo_passes l D K q_t q_t_text q_t_code q_t_site q_t_condition q_t_actions q_t_kind q_t_target q_t_first q_t_second q_t_failures q_t_met q_t_there q_t_on q_t_compared q_t_globals q_t_own q_t_records q_t_pile q_t_handed q_t_keys q_t_key q_t_count q_t_bins q_t_operator q_t_starts q_t_sum q_t_least q_t_greatest t_newSite t_newCondition t_newActions t_size t_place t_pos t_at t_operators t_recorded t_lost t_dropped t_firings t_time t_thread t_thrown t_failed t_text x1 (v_Mo_passes t_size t_pos t_text x1 hp)
-- RuleTracerModel.emit(II)V: reads ['t.at', 't.code'], changes ['t.at', 't.code']
abbrev w_Mo_emit (K : Nat → ClassId) (q_t : Nat) (q_t_text : Nat) (q_t_code : Nat) (q_t_site : Nat) (q_t_condition : Nat) (q_t_actions : Nat) (q_t_kind : Nat) (q_t_target : Nat) (q_t_first : Nat) (q_t_second : Nat) (q_t_failures : Nat) (q_t_met : Nat) (q_t_there : Nat) (q_t_on : Nat) (q_t_compared : Nat) (q_t_globals : Nat) (q_t_own : Nat) (q_t_records : Nat) (q_t_pile : Nat) (q_t_handed : Nat) (q_t_keys : Nat) (q_t_key : Nat) (q_t_count : Nat) (q_t_bins : Nat) (q_t_operator : Nat) (q_t_starts : Nat) (q_t_sum : Nat) (q_t_least : Nat) (q_t_greatest : Nat) (t_newSite : Int32) (t_newCondition : Int32) (t_newActions : Int32) (t_size : Int32) (t_place : Int32) (t_pos : Int32) (t_operators : Int32) (t_recorded : Int32) (t_lost : Int32) (t_dropped : Int32) (t_firings : Int32) (t_time : Int32) (t_thread : Int32) (t_thrown : Int32) (t_failed : Int32) (u : Int32 × (Nat → Int32)) : va_W := [zo 6 q_t [.ref q_t_text, .ref q_t_code, .ref q_t_site, .ref q_t_condition, .ref q_t_actions, .ref q_t_kind, .ref q_t_target, .ref q_t_first, .ref q_t_second, .ref q_t_failures, .ref q_t_met, .ref q_t_there, .ref q_t_on, .ref q_t_compared, .ref q_t_globals, .ref q_t_own, .ref q_t_records, .ref q_t_pile, .ref q_t_handed, .ref q_t_keys, .ref q_t_key, .ref q_t_count, .ref q_t_bins, .ref q_t_operator, .ref q_t_starts, .ref q_t_sum, .ref q_t_least, .ref q_t_greatest, .int t_newSite, .int t_newCondition, .int t_newActions, .int t_size, .int t_place, .int t_pos, .int u.1, .int t_operators, .int t_recorded, .int t_lost, .int t_dropped, .int t_firings, .int t_time, .int t_thread, .int t_thrown, .int t_failed], zaI K q_t_code 1400 u.2]
abbrev rm_Mo_emit : Room := { frames := 0, cells := 0, slots := 0, locals := 0 }
abbrev wy_Mo_emit : List Cond := .code y_Mo_emit b_Mo_emit 3 none :: zWT
def WP_Mo_emit (t_at : Int32) (t_code : Nat → Int32) (x1 : Int32) (x2 : Int32) (Q : (Int32 × (Nat → Int32)) → Prop) : Prop := vp_in t_at 1400 ∧ vp_in (t_at + (1 : Int32)) 1400 ∧ Q (t_at + (2 : Int32), upd (upd t_code t_at.toNatClampNeg x1) (t_at + (1 : Int32)).toNatClampNeg x2)
set_option maxHeartbeats 4000000 in
set_option maxRecDepth 100000 in
theorem cw_Mo_emit (l : Launch) (D : va_G) (K : Nat → ClassId) (q_t : Nat) (q_t_text : Nat) (q_t_code : Nat) (q_t_site : Nat) (q_t_condition : Nat) (q_t_actions : Nat) (q_t_kind : Nat) (q_t_target : Nat) (q_t_first : Nat) (q_t_second : Nat) (q_t_failures : Nat) (q_t_met : Nat) (q_t_there : Nat) (q_t_on : Nat) (q_t_compared : Nat) (q_t_globals : Nat) (q_t_own : Nat) (q_t_records : Nat) (q_t_pile : Nat) (q_t_handed : Nat) (q_t_keys : Nat) (q_t_key : Nat) (q_t_count : Nat) (q_t_bins : Nat) (q_t_operator : Nat) (q_t_starts : Nat) (q_t_sum : Nat) (q_t_least : Nat) (q_t_greatest : Nat) (t_newSite : Int32) (t_newCondition : Int32) (t_newActions : Int32) (t_size : Int32) (t_place : Int32) (t_pos : Int32) (t_at : Int32) (t_operators : Int32) (t_recorded : Int32) (t_lost : Int32) (t_dropped : Int32) (t_firings : Int32) (t_time : Int32) (t_thread : Int32) (t_thrown : Int32) (t_failed : Int32) (t_code : Nat → Int32) (x1 : Int32) (x2 : Int32) {Q : (Int32 × (Nat → Int32)) → Prop} (hS0 : WP_Mo_emit t_at t_code x1 x2 Q) : zCv l y_Mo_emit wy_Mo_emit rm_Mo_emit D zcl (zT K) [.ref q_t, .int x1, .int x2] (w_Mo_emit K q_t q_t_text q_t_code q_t_site q_t_condition q_t_actions q_t_kind q_t_target q_t_first q_t_second q_t_failures q_t_met q_t_there q_t_on q_t_compared q_t_globals q_t_own q_t_records q_t_pile q_t_handed q_t_keys q_t_key q_t_count q_t_bins q_t_operator q_t_starts q_t_sum q_t_least q_t_greatest t_newSite t_newCondition t_newActions t_size t_place t_pos t_operators t_recorded t_lost t_dropped t_firings t_time t_thread t_thrown t_failed (t_at, t_code)) (w_Mo_emit K q_t q_t_text q_t_code q_t_site q_t_condition q_t_actions q_t_kind q_t_target q_t_first q_t_second q_t_failures q_t_met q_t_there q_t_on q_t_compared q_t_globals q_t_own q_t_records q_t_pile q_t_handed q_t_keys q_t_key q_t_count q_t_bins q_t_operator q_t_starts q_t_sum q_t_least q_t_greatest t_newSite t_newCondition t_newActions t_size t_place t_pos t_operators t_recorded t_lost t_dropped t_firings t_time t_thread t_thrown t_failed) Q 0 0 := by
  refine z_metv (cc := b_Mo_emit) (maxL := 3) (ret := none) (by decide) rfl (Nat.le_of_ble_eq_true rfl) ?_
  intro p e s m args below meth c A C hr hlk hnm
  refine z_lpick (lv' := [(0, .ref q_t), (1, .int x1), (2, .int x2)]) [0, 1, 2] rfl ?_
  refine z_weq (ws' := [zo 6 q_t [.ref q_t_text, .ref q_t_code, .ref q_t_site, .ref q_t_condition, .ref q_t_actions, .ref q_t_kind, .ref q_t_target, .ref q_t_first, .ref q_t_second, .ref q_t_failures, .ref q_t_met, .ref q_t_there, .ref q_t_on, .ref q_t_compared, .ref q_t_globals, .ref q_t_own, .ref q_t_records, .ref q_t_pile, .ref q_t_handed, .ref q_t_keys, .ref q_t_key, .ref q_t_count, .ref q_t_bins, .ref q_t_operator, .ref q_t_starts, .ref q_t_sum, .ref q_t_least, .ref q_t_greatest, .int t_newSite, .int t_newCondition, .int t_newActions, .int t_size, .int t_place, .int t_pos, .int t_at, .int t_operators, .int t_recorded, .int t_lost, .int t_dropped, .int t_firings, .int t_time, .int t_thread, .int t_thrown, .int t_failed], zaI K q_t_code 1400 t_code]) rfl ?_
  refine z_aload_n C d_Mo_emit_0 rfl 0 rfl ?_
  refine z_get C 0 rfl rfl in_Mo 1 (by decide) rfl wf_Mo_13 rfl d_Mo_emit_1 ?_
  refine z_aload_n C d_Mo_emit_4 rfl 0 rfl ?_
  refine z_get C 0 rfl rfl in_Mo 34 (by decide) rfl wf_Mo_121 rfl d_Mo_emit_5 ?_
  refine z_iload_n C d_Mo_emit_8 rfl 1 rfl ?_
  refine z_iast (ws' := [zo 6 q_t [.ref q_t_text, .ref q_t_code, .ref q_t_site, .ref q_t_condition, .ref q_t_actions, .ref q_t_kind, .ref q_t_target, .ref q_t_first, .ref q_t_second, .ref q_t_failures, .ref q_t_met, .ref q_t_there, .ref q_t_on, .ref q_t_compared, .ref q_t_globals, .ref q_t_own, .ref q_t_records, .ref q_t_pile, .ref q_t_handed, .ref q_t_keys, .ref q_t_key, .ref q_t_count, .ref q_t_bins, .ref q_t_operator, .ref q_t_starts, .ref q_t_sum, .ref q_t_least, .ref q_t_greatest, .int t_newSite, .int t_newCondition, .int t_newActions, .int t_size, .int t_place, .int t_pos, .int t_at, .int t_operators, .int t_recorded, .int t_lost, .int t_dropped, .int t_firings, .int t_time, .int t_thread, .int t_thrown, .int t_failed], zaI K q_t_code 1400 (upd t_code t_at.toNatClampNeg x1)]) C 1 0 rfl rfl hS0.1 rfl d_Mo_emit_9 ?_
  have hS1 := hS0.2
  refine z_aload_n C d_Mo_emit_10 rfl 0 rfl ?_
  refine z_get C 0 rfl rfl in_Mo 1 (by decide) rfl wf_Mo_13 rfl d_Mo_emit_11 ?_
  refine z_aload_n C d_Mo_emit_14 rfl 0 rfl ?_
  refine z_get C 0 rfl rfl in_Mo 34 (by decide) rfl wf_Mo_121 rfl d_Mo_emit_15 ?_
  refine z_iconst (v := (1 : Int32)) C d_Mo_emit_18 (by decide) ?_
  refine z_iadd C d_Mo_emit_19 ?_
  refine z_iload_n C d_Mo_emit_20 rfl 2 rfl ?_
  refine z_iast (ws' := [zo 6 q_t [.ref q_t_text, .ref q_t_code, .ref q_t_site, .ref q_t_condition, .ref q_t_actions, .ref q_t_kind, .ref q_t_target, .ref q_t_first, .ref q_t_second, .ref q_t_failures, .ref q_t_met, .ref q_t_there, .ref q_t_on, .ref q_t_compared, .ref q_t_globals, .ref q_t_own, .ref q_t_records, .ref q_t_pile, .ref q_t_handed, .ref q_t_keys, .ref q_t_key, .ref q_t_count, .ref q_t_bins, .ref q_t_operator, .ref q_t_starts, .ref q_t_sum, .ref q_t_least, .ref q_t_greatest, .int t_newSite, .int t_newCondition, .int t_newActions, .int t_size, .int t_place, .int t_pos, .int t_at, .int t_operators, .int t_recorded, .int t_lost, .int t_dropped, .int t_firings, .int t_time, .int t_thread, .int t_thrown, .int t_failed], zaI K q_t_code 1400 (upd (upd t_code t_at.toNatClampNeg x1) (t_at + (1 : Int32)).toNatClampNeg x2)]) C 1 0 rfl rfl hS1.1 rfl d_Mo_emit_21 ?_
  have hS2 := hS1.2
  refine z_aload_n C d_Mo_emit_22 rfl 0 rfl ?_
  refine z_dup C d_Mo_emit_23 rfl ?_
  refine z_get C 0 rfl rfl in_Mo 34 (by decide) rfl wf_Mo_121 rfl d_Mo_emit_24 ?_
  refine z_iconst (v := (2 : Int32)) C d_Mo_emit_27 (by decide) ?_
  refine z_iadd C d_Mo_emit_28 ?_
  refine z_put (ty := .int) (ws' := [zo 6 q_t [.ref q_t_text, .ref q_t_code, .ref q_t_site, .ref q_t_condition, .ref q_t_actions, .ref q_t_kind, .ref q_t_target, .ref q_t_first, .ref q_t_second, .ref q_t_failures, .ref q_t_met, .ref q_t_there, .ref q_t_on, .ref q_t_compared, .ref q_t_globals, .ref q_t_own, .ref q_t_records, .ref q_t_pile, .ref q_t_handed, .ref q_t_keys, .ref q_t_key, .ref q_t_count, .ref q_t_bins, .ref q_t_operator, .ref q_t_starts, .ref q_t_sum, .ref q_t_least, .ref q_t_greatest, .int t_newSite, .int t_newCondition, .int t_newActions, .int t_size, .int t_place, .int t_pos, .int (t_at + (2 : Int32)), .int t_operators, .int t_recorded, .int t_lost, .int t_dropped, .int t_firings, .int t_time, .int t_thread, .int t_thrown, .int t_failed], zaI K q_t_code 1400 (upd (upd t_code t_at.toNatClampNeg x1) (t_at + (1 : Int32)).toNatClampNeg x2)]) C ty_Mo to_Mo nm_Mo 0 rfl rfl in_Mo 34 (by decide) rfl wf_Mo_121 rfl rfl rfl rfl (Nat.le_of_ble_eq_true rfl) rfl d_Mo_emit_29 ?_
  exact z_vret C hr hlk (t_at + (2 : Int32), upd (upd t_code t_at.toNatClampNeg x1) (t_at + (1 : Int32)).toNatClampNeg x2) rfl hS2 d_Mo_emit_32
def s_Mo_emit (t_at : Int32) (t_code : Nat → Int32) (x1 : Int32) (x2 : Int32) : Int32 × (Nat → Int32) := (t_at + (2 : Int32), upd (upd t_code t_at.toNatClampNeg x1) (t_at + (1 : Int32)).toNatClampNeg x2)
def p_Mo_emit (t_at : Int32) (t_code : Nat → Int32) (x1 : Int32) (x2 : Int32) : Prop := WP_Mo_emit t_at t_code x1 x2 (fun _ => True)
set_option maxRecDepth 100000 in
theorem v_Mo_emit (t_at : Int32) (t_code : Nat → Int32) (x1 : Int32) (x2 : Int32) (hp : p_Mo_emit t_at t_code x1 x2) : WP_Mo_emit t_at t_code x1 x2 (fun u => s_Mo_emit t_at t_code x1 x2 = u) := by
  unfold p_Mo_emit WP_Mo_emit at hp
  obtain ⟨tgt, f0⟩ : ∃ tgt, s_Mo_emit t_at t_code x1 x2 = tgt := ⟨_, rfl⟩
  rw [f0]
  unfold s_Mo_emit at f0
  unfold WP_Mo_emit
  refine ⟨hp.1, ?_⟩
  have g1 := hp.2
  refine ⟨g1.1, ?_⟩
  have g2 := g1.2
  exact f0.symm
theorem c_Mo_emit (l : Launch) (D : va_G) (K : Nat → ClassId) (q_t : Nat) (q_t_text : Nat) (q_t_code : Nat) (q_t_site : Nat) (q_t_condition : Nat) (q_t_actions : Nat) (q_t_kind : Nat) (q_t_target : Nat) (q_t_first : Nat) (q_t_second : Nat) (q_t_failures : Nat) (q_t_met : Nat) (q_t_there : Nat) (q_t_on : Nat) (q_t_compared : Nat) (q_t_globals : Nat) (q_t_own : Nat) (q_t_records : Nat) (q_t_pile : Nat) (q_t_handed : Nat) (q_t_keys : Nat) (q_t_key : Nat) (q_t_count : Nat) (q_t_bins : Nat) (q_t_operator : Nat) (q_t_starts : Nat) (q_t_sum : Nat) (q_t_least : Nat) (q_t_greatest : Nat) (t_newSite : Int32) (t_newCondition : Int32) (t_newActions : Int32) (t_size : Int32) (t_place : Int32) (t_pos : Int32) (t_at : Int32) (t_operators : Int32) (t_recorded : Int32) (t_lost : Int32) (t_dropped : Int32) (t_firings : Int32) (t_time : Int32) (t_thread : Int32) (t_thrown : Int32) (t_failed : Int32) (t_code : Nat → Int32) (x1 : Int32) (x2 : Int32) (hp : p_Mo_emit t_at t_code x1 x2) : zCv l y_Mo_emit wy_Mo_emit rm_Mo_emit D zcl (zT K) [.ref q_t, .int x1, .int x2] (w_Mo_emit K q_t q_t_text q_t_code q_t_site q_t_condition q_t_actions q_t_kind q_t_target q_t_first q_t_second q_t_failures q_t_met q_t_there q_t_on q_t_compared q_t_globals q_t_own q_t_records q_t_pile q_t_handed q_t_keys q_t_key q_t_count q_t_bins q_t_operator q_t_starts q_t_sum q_t_least q_t_greatest t_newSite t_newCondition t_newActions t_size t_place t_pos t_operators t_recorded t_lost t_dropped t_firings t_time t_thread t_thrown t_failed (t_at, t_code)) (w_Mo_emit K q_t q_t_text q_t_code q_t_site q_t_condition q_t_actions q_t_kind q_t_target q_t_first q_t_second q_t_failures q_t_met q_t_there q_t_on q_t_compared q_t_globals q_t_own q_t_records q_t_pile q_t_handed q_t_keys q_t_key q_t_count q_t_bins q_t_operator q_t_starts q_t_sum q_t_least q_t_greatest t_newSite t_newCondition t_newActions t_size t_place t_pos t_operators t_recorded t_lost t_dropped t_firings t_time t_thread t_thrown t_failed) (fun u => s_Mo_emit t_at t_code x1 x2 = u) 0 0 := cw_Mo_emit l D K q_t q_t_text q_t_code q_t_site q_t_condition q_t_actions q_t_kind q_t_target q_t_first q_t_second q_t_failures q_t_met q_t_there q_t_on q_t_compared q_t_globals q_t_own q_t_records q_t_pile q_t_handed q_t_keys q_t_key q_t_count q_t_bins q_t_operator q_t_starts q_t_sum q_t_least q_t_greatest t_newSite t_newCondition t_newActions t_size t_place t_pos t_at t_operators t_recorded t_lost t_dropped t_firings t_time t_thread t_thrown t_failed t_code x1 x2 (v_Mo_emit t_at t_code x1 x2 hp)
-- RuleTracerModel.rank(I)I: reads [], changes []
abbrev w_Mo_rank (K : Nat → ClassId)   (u : Unit) : va_W := []
abbrev rm_Mo_rank : Room := { frames := 0, cells := 0, slots := 0, locals := 0 }
abbrev wy_Mo_rank : List Cond := .code y_Mo_rank b_Mo_rank 1 (some .int) :: zWT
def WP_Mo_rank (x0 : Int32) (Q : Int32 → Unit → Prop) : Prop := ((x0 = (60 : Int32)) → Q (1 : Int32) ()) ∧ ((¬ x0 = (60 : Int32)) → ((x0 = (62 : Int32)) → Q (1 : Int32) ()) ∧ ((¬ x0 = (62 : Int32)) → ((¬ x0 = (61 : Int32)) → ((x0 = (43 : Int32)) → Q (2 : Int32) ()) ∧ ((¬ x0 = (43 : Int32)) → ((¬ x0 = (45 : Int32)) → ((x0 = (42 : Int32)) → Q (3 : Int32) ()) ∧ ((¬ x0 = (42 : Int32)) → ((¬ x0 = (58 : Int32)) → Q (0 : Int32) ()) ∧ ((x0 = (58 : Int32)) → Q (3 : Int32) ()))) ∧ ((x0 = (45 : Int32)) → Q (2 : Int32) ()))) ∧ ((x0 = (61 : Int32)) → Q (1 : Int32) ())))
set_option maxHeartbeats 4000000 in
set_option maxRecDepth 100000 in
theorem cw_Mo_rank (l : Launch) (D : va_G) (K : Nat → ClassId)  (x0 : Int32) {Q : Int32 → Unit → Prop} (hS0 : WP_Mo_rank x0 Q) : zCi l y_Mo_rank wy_Mo_rank rm_Mo_rank D zcl (zT K) [.int x0] (w_Mo_rank K ()) (w_Mo_rank K) Q 0 0 := by
  refine z_meti (cc := b_Mo_rank) (maxL := 1) (ret := (some .int)) (by decide) rfl (Nat.le_of_ble_eq_true rfl) ?_
  intro p e s m args below meth c A C hr hlk hnm
  refine z_lpick (lv' := [(0, .int x0)]) [0] rfl ?_
  refine z_weq (ws' := []) rfl ?_
  refine z_iload_n C d_Mo_rank_0 rfl 0 rfl ?_
  refine z_bipush (v := (60 : Int32)) C d_Mo_rank_1 (by decide) ?_
  refine z_icmp_eq (tgt := 18) C d_Mo_rank_3 (by decide) (fun c1 => ?_) (fun c1 => ?_)
  · have hS2 := hS0.1 c1
    refine z_iconst (v := (1 : Int32)) C d_Mo_rank_18 (by decide) ?_
    refine z_goto (tgt := 55) C d_Mo_rank_19 (by decide) ?_
    exact z_iret C hr hlk () rfl hS2 d_Mo_rank_55
  · have hS2 := hS0.2 c1
    refine z_iload_n C d_Mo_rank_6 rfl 0 rfl ?_
    refine z_bipush (v := (62 : Int32)) C d_Mo_rank_7 (by decide) ?_
    refine z_icmp_eq (tgt := 18) C d_Mo_rank_9 (by decide) (fun c3 => ?_) (fun c3 => ?_)
    · have hS4 := hS2.1 c3
      refine z_iconst (v := (1 : Int32)) C d_Mo_rank_18 (by decide) ?_
      refine z_goto (tgt := 55) C d_Mo_rank_19 (by decide) ?_
      exact z_iret C hr hlk () rfl hS4 d_Mo_rank_55
    · have hS4 := hS2.2 c3
      refine z_iload_n C d_Mo_rank_12 rfl 0 rfl ?_
      refine z_bipush (v := (61 : Int32)) C d_Mo_rank_13 (by decide) ?_
      refine z_icmp_ne (tgt := 22) C d_Mo_rank_15 (by decide) (fun c5 => ?_) (fun c5 => ?_)
      · have hS6 := hS4.1 c5
        refine z_iload_n C d_Mo_rank_22 rfl 0 rfl ?_
        refine z_bipush (v := (43 : Int32)) C d_Mo_rank_23 (by decide) ?_
        refine z_icmp_eq (tgt := 34) C d_Mo_rank_25 (by decide) (fun c7 => ?_) (fun c7 => ?_)
        · have hS8 := hS6.1 c7
          refine z_iconst (v := (2 : Int32)) C d_Mo_rank_34 (by decide) ?_
          refine z_goto (tgt := 55) C d_Mo_rank_35 (by decide) ?_
          exact z_iret C hr hlk () rfl hS8 d_Mo_rank_55
        · have hS8 := hS6.2 c7
          refine z_iload_n C d_Mo_rank_28 rfl 0 rfl ?_
          refine z_bipush (v := (45 : Int32)) C d_Mo_rank_29 (by decide) ?_
          refine z_icmp_ne (tgt := 38) C d_Mo_rank_31 (by decide) (fun c9 => ?_) (fun c9 => ?_)
          · have hS10 := hS8.1 c9
            refine z_iload_n C d_Mo_rank_38 rfl 0 rfl ?_
            refine z_bipush (v := (42 : Int32)) C d_Mo_rank_39 (by decide) ?_
            refine z_icmp_eq (tgt := 50) C d_Mo_rank_41 (by decide) (fun c11 => ?_) (fun c11 => ?_)
            · have hS12 := hS10.1 c11
              refine z_iconst (v := (3 : Int32)) C d_Mo_rank_50 (by decide) ?_
              refine z_goto (tgt := 55) C d_Mo_rank_51 (by decide) ?_
              exact z_iret C hr hlk () rfl hS12 d_Mo_rank_55
            · have hS12 := hS10.2 c11
              refine z_iload_n C d_Mo_rank_44 rfl 0 rfl ?_
              refine z_bipush (v := (58 : Int32)) C d_Mo_rank_45 (by decide) ?_
              refine z_icmp_ne (tgt := 54) C d_Mo_rank_47 (by decide) (fun c13 => ?_) (fun c13 => ?_)
              · have hS14 := hS12.1 c13
                refine z_iconst (v := (0 : Int32)) C d_Mo_rank_54 (by decide) ?_
                exact z_iret C hr hlk () rfl hS14 d_Mo_rank_55
              · have hS14 := hS12.2 c13
                refine z_iconst (v := (3 : Int32)) C d_Mo_rank_50 (by decide) ?_
                refine z_goto (tgt := 55) C d_Mo_rank_51 (by decide) ?_
                exact z_iret C hr hlk () rfl hS14 d_Mo_rank_55
          · have hS10 := hS8.2 c9
            refine z_iconst (v := (2 : Int32)) C d_Mo_rank_34 (by decide) ?_
            refine z_goto (tgt := 55) C d_Mo_rank_35 (by decide) ?_
            exact z_iret C hr hlk () rfl hS10 d_Mo_rank_55
      · have hS6 := hS4.2 c5
        refine z_iconst (v := (1 : Int32)) C d_Mo_rank_18 (by decide) ?_
        refine z_goto (tgt := 55) C d_Mo_rank_19 (by decide) ?_
        exact z_iret C hr hlk () rfl hS6 d_Mo_rank_55
def s_Mo_rank (x0 : Int32) : Int32 := (if x0 = (60 : Int32) then (1 : Int32) else (if x0 = (62 : Int32) then (1 : Int32) else (if x0 = (61 : Int32) then (1 : Int32) else (if x0 = (43 : Int32) then (2 : Int32) else (if x0 = (45 : Int32) then (2 : Int32) else (if x0 = (42 : Int32) then (3 : Int32) else (if x0 = (58 : Int32) then (3 : Int32) else (0 : Int32))))))))
set_option maxRecDepth 100000 in
theorem v_Mo_rank (x0 : Int32) : WP_Mo_rank x0 (fun r u => s_Mo_rank x0 = r) := by
  obtain ⟨tgt, f0⟩ : ∃ tgt, s_Mo_rank x0 = tgt := ⟨_, rfl⟩
  rw [f0]
  unfold s_Mo_rank at f0
  unfold WP_Mo_rank
  refine ⟨fun c1 => ?_, fun c1 => ?_⟩
  · have f1 := Eq.trans (Eq.symm (if_pos c1)) f0
    exact f1.symm
  · have f1 := Eq.trans (Eq.symm (if_neg c1)) f0
    refine ⟨fun c3 => ?_, fun c3 => ?_⟩
    · have f2 := Eq.trans (Eq.symm (if_pos c3)) f1
      exact f2.symm
    · have f2 := Eq.trans (Eq.symm (if_neg c3)) f1
      refine ⟨fun c5 => ?_, fun c5 => ?_⟩
      · have f3 := Eq.trans (Eq.symm (if_neg c5)) f2
        refine ⟨fun c7 => ?_, fun c7 => ?_⟩
        · have f4 := Eq.trans (Eq.symm (if_pos c7)) f3
          exact f4.symm
        · have f4 := Eq.trans (Eq.symm (if_neg c7)) f3
          refine ⟨fun c9 => ?_, fun c9 => ?_⟩
          · have f5 := Eq.trans (Eq.symm (if_neg c9)) f4
            refine ⟨fun c11 => ?_, fun c11 => ?_⟩
            · have f6 := Eq.trans (Eq.symm (if_pos c11)) f5
              exact f6.symm
            · have f6 := Eq.trans (Eq.symm (if_neg c11)) f5
              refine ⟨fun c13 => ?_, fun c13 => ?_⟩
              · have f7 := Eq.trans (Eq.symm (if_neg c13)) f6
                exact f7.symm
              · have f7 := Eq.trans (Eq.symm (if_pos c13)) f6
                exact f7.symm
          · have f5 := Eq.trans (Eq.symm (if_pos c9)) f4
            exact f5.symm
      · have f3 := Eq.trans (Eq.symm (if_pos c5)) f2
        exact f3.symm
theorem c_Mo_rank (l : Launch) (D : va_G) (K : Nat → ClassId)  (x0 : Int32) : zCi l y_Mo_rank wy_Mo_rank rm_Mo_rank D zcl (zT K) [.int x0] (w_Mo_rank K ()) (w_Mo_rank K) (fun r u => s_Mo_rank x0 = r) 0 0 := cw_Mo_rank l D K x0 (v_Mo_rank x0)
-- RuleTracerModel.write(II)V: reads ['t.at', 't.operators', 't.operator', 't.code'], changes ['t.at', 't.operators', 't.code']
abbrev w_Mo_write (K : Nat → ClassId) (q_t : Nat) (q_t_text : Nat) (q_t_code : Nat) (q_t_site : Nat) (q_t_condition : Nat) (q_t_actions : Nat) (q_t_kind : Nat) (q_t_target : Nat) (q_t_first : Nat) (q_t_second : Nat) (q_t_failures : Nat) (q_t_met : Nat) (q_t_there : Nat) (q_t_on : Nat) (q_t_compared : Nat) (q_t_globals : Nat) (q_t_own : Nat) (q_t_records : Nat) (q_t_pile : Nat) (q_t_handed : Nat) (q_t_keys : Nat) (q_t_key : Nat) (q_t_count : Nat) (q_t_bins : Nat) (q_t_operator : Nat) (q_t_starts : Nat) (q_t_sum : Nat) (q_t_least : Nat) (q_t_greatest : Nat) (t_newSite : Int32) (t_newCondition : Int32) (t_newActions : Int32) (t_size : Int32) (t_place : Int32) (t_pos : Int32) (t_recorded : Int32) (t_lost : Int32) (t_dropped : Int32) (t_firings : Int32) (t_time : Int32) (t_thread : Int32) (t_thrown : Int32) (t_failed : Int32) (t_operator : Nat → Int32) (u : Int32 × Int32 × (Nat → Int32)) : va_W := [zo 6 q_t [.ref q_t_text, .ref q_t_code, .ref q_t_site, .ref q_t_condition, .ref q_t_actions, .ref q_t_kind, .ref q_t_target, .ref q_t_first, .ref q_t_second, .ref q_t_failures, .ref q_t_met, .ref q_t_there, .ref q_t_on, .ref q_t_compared, .ref q_t_globals, .ref q_t_own, .ref q_t_records, .ref q_t_pile, .ref q_t_handed, .ref q_t_keys, .ref q_t_key, .ref q_t_count, .ref q_t_bins, .ref q_t_operator, .ref q_t_starts, .ref q_t_sum, .ref q_t_least, .ref q_t_greatest, .int t_newSite, .int t_newCondition, .int t_newActions, .int t_size, .int t_place, .int t_pos, .int u.1, .int u.2.1, .int t_recorded, .int t_lost, .int t_dropped, .int t_firings, .int t_time, .int t_thread, .int t_thrown, .int t_failed], zaI K q_t_operator 60 t_operator, zaI K q_t_code 1400 u.2.2]
abbrev rm_Mo_write : Room := { frames := 1, cells := 0, slots := 0, locals := 22 }
abbrev wy_Mo_write : List Cond := .code y_Mo_write b_Mo_write 3 none :: zWT
def WP_Mo_write_L0 : Nat → Int32 → Int32 → Int32 → Int32 → (Nat → Int32) → (Nat → Int32) → ((Int32 × Int32 × (Nat → Int32)) → Prop) → Prop
  | 0, _, _, _, _, _, _, _ => False
  | n + 1, y1, y2, t_at, t_operators, t_operator, t_code, Q => ((t_operators ≤ y1) → Q (t_at, t_operators, t_code)) ∧ ((¬ t_operators ≤ y1) → vp_in (t_operators - (1 : Int32)) 60 ∧ (((t_operator (t_operators - (1 : Int32)).toNatClampNeg) ≤ 0) → Q (t_at, t_operators, t_code)) ∧ ((¬ (t_operator (t_operators - (1 : Int32)).toNatClampNeg) ≤ 0) → vp_in (t_operators - (1 : Int32)) 60 ∧ (∀ (r7 : Int32), s_Mo_rank (t_operator (t_operators - (1 : Int32)).toNatClampNeg) = r7 → ((r7 < y2) → Q (t_at, t_operators, t_code)) ∧ ((¬ r7 < y2) → vp_in (t_operators - (1 : Int32)) 60 ∧ p_Mo_emit t_at t_code (3 : Int32) (t_operator (t_operators - (1 : Int32)).toNatClampNeg) ∧ (∀ (m17 : Int32) (m18 : Nat → Int32), s_Mo_emit t_at t_code (3 : Int32) (t_operator (t_operators - (1 : Int32)).toNatClampNeg) = (m17, m18) → WP_Mo_write_L0 n y1 y2 m17 (t_operators - (1 : Int32)) t_operator m18 Q)))))
def WP_Mo_write (t_at : Int32) (t_operators : Int32) (t_operator : Nat → Int32) (t_code : Nat → Int32) (x1 : Int32) (x2 : Int32) (Q : (Int32 × Int32 × (Nat → Int32)) → Prop) : Prop := WP_Mo_write_L0 600 x1 x2 t_at t_operators t_operator t_code Q
set_option maxHeartbeats 4000000 in
set_option maxRecDepth 100000 in
theorem lw_Mo_write_L0 {p : Program} {e : Env} {s : State} {m : MethodId} {args : Array Value} {below : List Frame} {meth : Method} {c : Code} {A : Nat → Prop} (l : Launch) (D : va_G) (K : Nat → ClassId) (q_t : Nat) (q_t_text : Nat) (q_t_code : Nat) (q_t_site : Nat) (q_t_condition : Nat) (q_t_actions : Nat) (q_t_kind : Nat) (q_t_target : Nat) (q_t_first : Nat) (q_t_second : Nat) (q_t_failures : Nat) (q_t_met : Nat) (q_t_there : Nat) (q_t_on : Nat) (q_t_compared : Nat) (q_t_globals : Nat) (q_t_own : Nat) (q_t_records : Nat) (q_t_pile : Nat) (q_t_handed : Nat) (q_t_keys : Nat) (q_t_key : Nat) (q_t_count : Nat) (q_t_bins : Nat) (q_t_operator : Nat) (q_t_starts : Nat) (q_t_sum : Nat) (q_t_least : Nat) (q_t_greatest : Nat) (t_newSite : Int32) (t_newCondition : Int32) (t_newActions : Int32) (t_size : Int32) (t_place : Int32) (t_pos : Int32) (t_recorded : Int32) (t_lost : Int32) (t_dropped : Int32) (t_firings : Int32) (t_time : Int32) (t_thread : Int32) (t_thrown : Int32) (t_failed : Int32) (t_operator : Nat → Int32) {Q : (Int32 × Int32 × (Nat → Int32)) → Prop} (C : zCx p s m args c b_Mo_write 3 R_Mo zWT D zcl (zT K) A) (hr : meth.sig.returnType = none) (hlk : meth.locks = false) : ∀ (n : Nat) (y1 : Int32) (y2 : Int32) (t_at : Int32) (t_operators : Int32) (t_code : Nat → Int32), WP_Mo_write_L0 n y1 y2 t_at t_operators t_operator t_code Q → zW p l e (headSpec wy_Mo_write rm_Mo_write).room s m args below meth c D zcl A 3 0 0 (MQ below (va_Qv Q (zB D zcl (zT K) (w_Mo_write K q_t q_t_text q_t_code q_t_site q_t_condition q_t_actions q_t_kind q_t_target q_t_first q_t_second q_t_failures q_t_met q_t_there q_t_on q_t_compared q_t_globals q_t_own q_t_records q_t_pile q_t_handed q_t_keys q_t_key q_t_count q_t_bins q_t_operator q_t_starts q_t_sum q_t_least q_t_greatest t_newSite t_newCondition t_newActions t_size t_place t_pos t_recorded t_lost t_dropped t_firings t_time t_thread t_thrown t_failed t_operator) A) A) args s 0 0 A) [(0, .ref q_t), (1, .int y1), (2, .int y2)] [zo 6 q_t [.ref q_t_text, .ref q_t_code, .ref q_t_site, .ref q_t_condition, .ref q_t_actions, .ref q_t_kind, .ref q_t_target, .ref q_t_first, .ref q_t_second, .ref q_t_failures, .ref q_t_met, .ref q_t_there, .ref q_t_on, .ref q_t_compared, .ref q_t_globals, .ref q_t_own, .ref q_t_records, .ref q_t_pile, .ref q_t_handed, .ref q_t_keys, .ref q_t_key, .ref q_t_count, .ref q_t_bins, .ref q_t_operator, .ref q_t_starts, .ref q_t_sum, .ref q_t_least, .ref q_t_greatest, .int t_newSite, .int t_newCondition, .int t_newActions, .int t_size, .int t_place, .int t_pos, .int t_at, .int t_operators, .int t_recorded, .int t_lost, .int t_dropped, .int t_firings, .int t_time, .int t_thread, .int t_thrown, .int t_failed], zaI K q_t_operator 60 t_operator, zaI K q_t_code 1400 t_code] 0 [] := by
  intro n
  induction n with
  | zero => intros; contradiction
  | succ n ih =>
    intro y1 y2 t_at t_operators t_code hS0
    refine z_aload_n C d_Mo_write_0 rfl 0 rfl ?_
    refine z_get C 0 rfl rfl in_Mo 35 (by decide) rfl wf_Mo_124 rfl d_Mo_write_1 ?_
    refine z_iload_n C d_Mo_write_4 rfl 1 rfl ?_
    refine z_icmp_le (tgt := 67) C d_Mo_write_5 (by decide) (fun c1 => ?_) (fun c1 => ?_)
    · have hS2 := hS0.1 c1
      exact z_vret C hr hlk (t_at, t_operators, t_code) rfl hS2 d_Mo_write_67
    · have hS2 := hS0.2 c1
      refine z_aload_n C d_Mo_write_8 rfl 0 rfl ?_
      refine z_get C 0 rfl rfl in_Mo 23 (by decide) rfl wf_Mo_81 rfl d_Mo_write_9 ?_
      refine z_aload_n C d_Mo_write_12 rfl 0 rfl ?_
      refine z_get C 0 rfl rfl in_Mo 35 (by decide) rfl wf_Mo_124 rfl d_Mo_write_13 ?_
      refine z_iconst (v := (1 : Int32)) C d_Mo_write_16 (by decide) ?_
      refine z_isub C d_Mo_write_17 ?_
      refine z_iald C 1 0 rfl rfl hS2.1 d_Mo_write_18 ?_
      have hS3 := hS2.2
      refine z_if_le (tgt := 67) C d_Mo_write_19 (by decide) (fun c4 => ?_) (fun c4 => ?_)
      · have hS5 := hS3.1 c4
        exact z_vret C hr hlk (t_at, t_operators, t_code) rfl hS5 d_Mo_write_67
      · have hS5 := hS3.2 c4
        refine z_aload_n C d_Mo_write_22 rfl 0 rfl ?_
        refine z_get C 0 rfl rfl in_Mo 23 (by decide) rfl wf_Mo_81 rfl d_Mo_write_23 ?_
        refine z_aload_n C d_Mo_write_26 rfl 0 rfl ?_
        refine z_get C 0 rfl rfl in_Mo 35 (by decide) rfl wf_Mo_124 rfl d_Mo_write_27 ?_
        refine z_iconst (v := (1 : Int32)) C d_Mo_write_30 (by decide) ?_
        refine z_isub C d_Mo_write_31 ?_
        refine z_iald C 1 0 rfl rfl hS5.1 d_Mo_write_32 ?_
        have hS6 := hS5.2
        refine z_callSi (As := [.int (t_operator (t_operators - (1 : Int32)).toNatClampNeg)]) (st := []) (wr := [zo 6 q_t [.ref q_t_text, .ref q_t_code, .ref q_t_site, .ref q_t_condition, .ref q_t_actions, .ref q_t_kind, .ref q_t_target, .ref q_t_first, .ref q_t_second, .ref q_t_failures, .ref q_t_met, .ref q_t_there, .ref q_t_on, .ref q_t_compared, .ref q_t_globals, .ref q_t_own, .ref q_t_records, .ref q_t_pile, .ref q_t_handed, .ref q_t_keys, .ref q_t_key, .ref q_t_count, .ref q_t_bins, .ref q_t_operator, .ref q_t_starts, .ref q_t_sum, .ref q_t_least, .ref q_t_greatest, .int t_newSite, .int t_newCondition, .int t_newActions, .int t_size, .int t_place, .int t_pos, .int t_at, .int t_operators, .int t_recorded, .int t_lost, .int t_dropped, .int t_firings, .int t_time, .int t_thread, .int t_thrown, .int t_failed], zaI K q_t_operator 60 t_operator, zaI K q_t_code 1400 t_code]) (wj := fun u => [zo 6 q_t [.ref q_t_text, .ref q_t_code, .ref q_t_site, .ref q_t_condition, .ref q_t_actions, .ref q_t_kind, .ref q_t_target, .ref q_t_first, .ref q_t_second, .ref q_t_failures, .ref q_t_met, .ref q_t_there, .ref q_t_on, .ref q_t_compared, .ref q_t_globals, .ref q_t_own, .ref q_t_records, .ref q_t_pile, .ref q_t_handed, .ref q_t_keys, .ref q_t_key, .ref q_t_count, .ref q_t_bins, .ref q_t_operator, .ref q_t_starts, .ref q_t_sum, .ref q_t_least, .ref q_t_greatest, .int t_newSite, .int t_newCondition, .int t_newActions, .int t_size, .int t_place, .int t_pos, .int t_at, .int t_operators, .int t_recorded, .int t_lost, .int t_dropped, .int t_firings, .int t_time, .int t_thread, .int t_thrown, .int t_failed], zaI K q_t_operator 60 t_operator, zaI K q_t_code 1400 t_code]) C (c_Mo_rank l D K (t_operator (t_operators - (1 : Int32)).toNatClampNeg)) (cwS 1 C.2.2.2.2.1 (z_gS wl_Mo_127 ws_Mo_rank wz_Mo wk_Mo_rank) rfl rfl rfl (by decide +kernel) ⟨Nat.le_of_ble_eq_true rfl, Nat.le_of_ble_eq_true rfl⟩) [] [0, 1, 2] [0, 1, 2] rfl rfl rfl rfl (by decide) (fun _ => rfl) rfl rfl rfl (Nat.le_of_ble_eq_true rfl) d_Mo_write_33 ⟨Nat.le_of_ble_eq_true rfl, Nat.le_of_ble_eq_true rfl⟩ (fun r7 u8 e9 => ?_)
        have hS10 := hS6 r7 e9
        refine z_iload_n C d_Mo_write_36 rfl 2 rfl ?_
        refine z_icmp_lt (tgt := 67) C d_Mo_write_37 (by decide) (fun c11 => ?_) (fun c11 => ?_)
        · have hS12 := hS10.1 c11
          exact z_vret C hr hlk (t_at, t_operators, t_code) rfl hS12 d_Mo_write_67
        · have hS12 := hS10.2 c11
          refine z_aload_n C d_Mo_write_40 rfl 0 rfl ?_
          refine z_dup C d_Mo_write_41 rfl ?_
          refine z_get C 0 rfl rfl in_Mo 35 (by decide) rfl wf_Mo_124 rfl d_Mo_write_42 ?_
          refine z_iconst (v := (1 : Int32)) C d_Mo_write_45 (by decide) ?_
          refine z_isub C d_Mo_write_46 ?_
          refine z_put (ty := .int) (ws' := [zo 6 q_t [.ref q_t_text, .ref q_t_code, .ref q_t_site, .ref q_t_condition, .ref q_t_actions, .ref q_t_kind, .ref q_t_target, .ref q_t_first, .ref q_t_second, .ref q_t_failures, .ref q_t_met, .ref q_t_there, .ref q_t_on, .ref q_t_compared, .ref q_t_globals, .ref q_t_own, .ref q_t_records, .ref q_t_pile, .ref q_t_handed, .ref q_t_keys, .ref q_t_key, .ref q_t_count, .ref q_t_bins, .ref q_t_operator, .ref q_t_starts, .ref q_t_sum, .ref q_t_least, .ref q_t_greatest, .int t_newSite, .int t_newCondition, .int t_newActions, .int t_size, .int t_place, .int t_pos, .int t_at, .int (t_operators - (1 : Int32)), .int t_recorded, .int t_lost, .int t_dropped, .int t_firings, .int t_time, .int t_thread, .int t_thrown, .int t_failed], zaI K q_t_operator 60 t_operator, zaI K q_t_code 1400 t_code]) C ty_Mo to_Mo nm_Mo 0 rfl rfl in_Mo 35 (by decide) rfl wf_Mo_124 rfl rfl rfl rfl (Nat.le_of_ble_eq_true rfl) rfl d_Mo_write_47 ?_
          refine z_aload_n C d_Mo_write_50 rfl 0 rfl ?_
          refine z_iconst (v := (3 : Int32)) C d_Mo_write_51 (by decide) ?_
          refine z_aload_n C d_Mo_write_52 rfl 0 rfl ?_
          refine z_get C 0 rfl rfl in_Mo 23 (by decide) rfl wf_Mo_81 rfl d_Mo_write_53 ?_
          refine z_aload_n C d_Mo_write_56 rfl 0 rfl ?_
          refine z_get C 0 rfl rfl in_Mo 35 (by decide) rfl wf_Mo_124 rfl d_Mo_write_57 ?_
          refine z_iald C 1 0 rfl rfl hS12.1 d_Mo_write_60 ?_
          have hS13 := hS12.2
          refine z_callVv (As := [.int (3 : Int32), .int (t_operator (t_operators - (1 : Int32)).toNatClampNeg)]) (b := q_t) (st := []) (wr := [zaI K q_t_operator 60 t_operator]) (wj := fun u => [zo 6 q_t [.ref q_t_text, .ref q_t_code, .ref q_t_site, .ref q_t_condition, .ref q_t_actions, .ref q_t_kind, .ref q_t_target, .ref q_t_first, .ref q_t_second, .ref q_t_failures, .ref q_t_met, .ref q_t_there, .ref q_t_on, .ref q_t_compared, .ref q_t_globals, .ref q_t_own, .ref q_t_records, .ref q_t_pile, .ref q_t_handed, .ref q_t_keys, .ref q_t_key, .ref q_t_count, .ref q_t_bins, .ref q_t_operator, .ref q_t_starts, .ref q_t_sum, .ref q_t_least, .ref q_t_greatest, .int t_newSite, .int t_newCondition, .int t_newActions, .int t_size, .int t_place, .int t_pos, .int u.1, .int (t_operators - (1 : Int32)), .int t_recorded, .int t_lost, .int t_dropped, .int t_firings, .int t_time, .int t_thread, .int t_thrown, .int t_failed], zaI K q_t_operator 60 t_operator, zaI K q_t_code 1400 u.2]) C 0 rfl rfl (c_Mo_emit l D K q_t q_t_text q_t_code q_t_site q_t_condition q_t_actions q_t_kind q_t_target q_t_first q_t_second q_t_failures q_t_met q_t_there q_t_on q_t_compared q_t_globals q_t_own q_t_records q_t_pile q_t_handed q_t_keys q_t_key q_t_count q_t_bins q_t_operator q_t_starts q_t_sum q_t_least q_t_greatest t_newSite t_newCondition t_newActions t_size t_place t_pos t_at (t_operators - (1 : Int32)) t_recorded t_lost t_dropped t_firings t_time t_thread t_thrown t_failed t_code (3 : Int32) (t_operator (t_operators - (1 : Int32)).toNatClampNeg) hS13.1) (cwV 2 C.2.2.2.2.1 (z_gV wl_Mo_131 wi_Mo_emit wv_Mo_emit wz_Mo wk_Mo_emit) rfl rfl rfl (by decide +kernel) ⟨Nat.le_of_ble_eq_true rfl, Nat.le_of_ble_eq_true rfl⟩) [0, 2] [1] [1, 0, 2] rfl rfl rfl rfl (by decide) (fun _ => rfl) rfl rfl rfl (Nat.le_of_ble_eq_true rfl) d_Mo_write_61 ⟨Nat.le_of_ble_eq_true rfl, Nat.le_of_ble_eq_true rfl⟩ (fun u15 e16 => ?_)
          obtain ⟨m17, m18⟩ := u15
          refine z_weq (ws' := [zo 6 q_t [.ref q_t_text, .ref q_t_code, .ref q_t_site, .ref q_t_condition, .ref q_t_actions, .ref q_t_kind, .ref q_t_target, .ref q_t_first, .ref q_t_second, .ref q_t_failures, .ref q_t_met, .ref q_t_there, .ref q_t_on, .ref q_t_compared, .ref q_t_globals, .ref q_t_own, .ref q_t_records, .ref q_t_pile, .ref q_t_handed, .ref q_t_keys, .ref q_t_key, .ref q_t_count, .ref q_t_bins, .ref q_t_operator, .ref q_t_starts, .ref q_t_sum, .ref q_t_least, .ref q_t_greatest, .int t_newSite, .int t_newCondition, .int t_newActions, .int t_size, .int t_place, .int t_pos, .int m17, .int (t_operators - (1 : Int32)), .int t_recorded, .int t_lost, .int t_dropped, .int t_firings, .int t_time, .int t_thread, .int t_thrown, .int t_failed], zaI K q_t_operator 60 t_operator, zaI K q_t_code 1400 m18]) rfl ?_
          have hS19 := hS13.2 m17 m18 e16
          refine z_goto (tgt := 0) C d_Mo_write_64 (by decide) ?_
          refine z_lpick (lv' := [(0, .ref q_t), (1, .int y1), (2, .int y2)]) [0, 1, 2] rfl ?_
          exact ih y1 y2 m17 (t_operators - (1 : Int32)) m18 hS19
set_option maxHeartbeats 4000000 in
set_option maxRecDepth 100000 in
theorem cw_Mo_write (l : Launch) (D : va_G) (K : Nat → ClassId) (q_t : Nat) (q_t_text : Nat) (q_t_code : Nat) (q_t_site : Nat) (q_t_condition : Nat) (q_t_actions : Nat) (q_t_kind : Nat) (q_t_target : Nat) (q_t_first : Nat) (q_t_second : Nat) (q_t_failures : Nat) (q_t_met : Nat) (q_t_there : Nat) (q_t_on : Nat) (q_t_compared : Nat) (q_t_globals : Nat) (q_t_own : Nat) (q_t_records : Nat) (q_t_pile : Nat) (q_t_handed : Nat) (q_t_keys : Nat) (q_t_key : Nat) (q_t_count : Nat) (q_t_bins : Nat) (q_t_operator : Nat) (q_t_starts : Nat) (q_t_sum : Nat) (q_t_least : Nat) (q_t_greatest : Nat) (t_newSite : Int32) (t_newCondition : Int32) (t_newActions : Int32) (t_size : Int32) (t_place : Int32) (t_pos : Int32) (t_at : Int32) (t_operators : Int32) (t_recorded : Int32) (t_lost : Int32) (t_dropped : Int32) (t_firings : Int32) (t_time : Int32) (t_thread : Int32) (t_thrown : Int32) (t_failed : Int32) (t_operator : Nat → Int32) (t_code : Nat → Int32) (x1 : Int32) (x2 : Int32) {Q : (Int32 × Int32 × (Nat → Int32)) → Prop} (hS0 : WP_Mo_write t_at t_operators t_operator t_code x1 x2 Q) : zCv l y_Mo_write wy_Mo_write rm_Mo_write D zcl (zT K) [.ref q_t, .int x1, .int x2] (w_Mo_write K q_t q_t_text q_t_code q_t_site q_t_condition q_t_actions q_t_kind q_t_target q_t_first q_t_second q_t_failures q_t_met q_t_there q_t_on q_t_compared q_t_globals q_t_own q_t_records q_t_pile q_t_handed q_t_keys q_t_key q_t_count q_t_bins q_t_operator q_t_starts q_t_sum q_t_least q_t_greatest t_newSite t_newCondition t_newActions t_size t_place t_pos t_recorded t_lost t_dropped t_firings t_time t_thread t_thrown t_failed t_operator (t_at, t_operators, t_code)) (w_Mo_write K q_t q_t_text q_t_code q_t_site q_t_condition q_t_actions q_t_kind q_t_target q_t_first q_t_second q_t_failures q_t_met q_t_there q_t_on q_t_compared q_t_globals q_t_own q_t_records q_t_pile q_t_handed q_t_keys q_t_key q_t_count q_t_bins q_t_operator q_t_starts q_t_sum q_t_least q_t_greatest t_newSite t_newCondition t_newActions t_size t_place t_pos t_recorded t_lost t_dropped t_firings t_time t_thread t_thrown t_failed t_operator) Q 0 0 := by
  refine z_metv (cc := b_Mo_write) (maxL := 3) (ret := none) (by decide) rfl (Nat.le_of_ble_eq_true rfl) ?_
  intro p e s m args below meth c A C hr hlk hnm
  refine z_lpick (lv' := [(0, .ref q_t), (1, .int x1), (2, .int x2)]) [0, 1, 2] rfl ?_
  refine z_weq (ws' := [zo 6 q_t [.ref q_t_text, .ref q_t_code, .ref q_t_site, .ref q_t_condition, .ref q_t_actions, .ref q_t_kind, .ref q_t_target, .ref q_t_first, .ref q_t_second, .ref q_t_failures, .ref q_t_met, .ref q_t_there, .ref q_t_on, .ref q_t_compared, .ref q_t_globals, .ref q_t_own, .ref q_t_records, .ref q_t_pile, .ref q_t_handed, .ref q_t_keys, .ref q_t_key, .ref q_t_count, .ref q_t_bins, .ref q_t_operator, .ref q_t_starts, .ref q_t_sum, .ref q_t_least, .ref q_t_greatest, .int t_newSite, .int t_newCondition, .int t_newActions, .int t_size, .int t_place, .int t_pos, .int t_at, .int t_operators, .int t_recorded, .int t_lost, .int t_dropped, .int t_firings, .int t_time, .int t_thread, .int t_thrown, .int t_failed], zaI K q_t_operator 60 t_operator, zaI K q_t_code 1400 t_code]) rfl ?_
  refine z_lpick (lv' := [(0, .ref q_t), (1, .int x1), (2, .int x2)]) [0, 1, 2] rfl ?_
  exact lw_Mo_write_L0 l D K q_t q_t_text q_t_code q_t_site q_t_condition q_t_actions q_t_kind q_t_target q_t_first q_t_second q_t_failures q_t_met q_t_there q_t_on q_t_compared q_t_globals q_t_own q_t_records q_t_pile q_t_handed q_t_keys q_t_key q_t_count q_t_bins q_t_operator q_t_starts q_t_sum q_t_least q_t_greatest t_newSite t_newCondition t_newActions t_size t_place t_pos t_recorded t_lost t_dropped t_firings t_time t_thread t_thrown t_failed t_operator C hr hlk 600 x1 x2 t_at t_operators t_code hS0
def s_Mo_write_L0 : Nat → Int32 → Int32 → Int32 → Int32 → (Nat → Int32) → (Nat → Int32) → Int32 × Int32 × (Nat → Int32)
  | 0, _, _, t_at, t_operators, _, t_code => (t_at, t_operators, t_code)
  | n + 1, y1, y2, t_at, t_operators, t_operator, t_code => (if t_operators ≤ y1 then (t_at, t_operators, t_code) else (if (t_operator (t_operators - (1 : Int32)).toNatClampNeg) ≤ 0 then (t_at, t_operators, t_code) else (zl1 (s_Mo_rank (t_operator (t_operators - (1 : Int32)).toNatClampNeg)) fun r7 => (if r7 < y2 then (t_at, t_operators, t_code) else (zl2 (s_Mo_emit t_at t_code (3 : Int32) (t_operator (t_operators - (1 : Int32)).toNatClampNeg)) (fun m17 m18 => s_Mo_write_L0 n y1 y2 m17 (t_operators - (1 : Int32)) t_operator m18))))))
def s_Mo_write (t_at : Int32) (t_operators : Int32) (t_operator : Nat → Int32) (t_code : Nat → Int32) (x1 : Int32) (x2 : Int32) : Int32 × Int32 × (Nat → Int32) := s_Mo_write_L0 600 x1 x2 t_at t_operators t_operator t_code
def p_Mo_write (t_at : Int32) (t_operators : Int32) (t_operator : Nat → Int32) (t_code : Nat → Int32) (x1 : Int32) (x2 : Int32) : Prop := WP_Mo_write t_at t_operators t_operator t_code x1 x2 (fun _ => True)
set_option maxRecDepth 100000 in
theorem v_Mo_write_L0 : ∀ (n : Nat) (y1 : Int32) (y2 : Int32) (t_at : Int32) (t_operators : Int32) (t_operator : Nat → Int32) (t_code : Nat → Int32) (tgt : Int32 × Int32 × (Nat → Int32)), s_Mo_write_L0 n y1 y2 t_at t_operators t_operator t_code = tgt → WP_Mo_write_L0 n y1 y2 t_at t_operators t_operator t_code (fun _ => True) → WP_Mo_write_L0 n y1 y2 t_at t_operators t_operator t_code (fun u => tgt = u) := by
  intro n
  induction n with
  | zero => intros; contradiction
  | succ n ih =>
    intro y1 y2 t_at t_operators t_operator t_code tgt f0 hp
    unfold s_Mo_write_L0 at f0
    unfold WP_Mo_write_L0 at hp ⊢
    refine ⟨fun c1 => ?_, fun c1 => ?_⟩
    · have f1 := Eq.trans (Eq.symm (if_pos c1)) f0
      have g1 := hp.1 c1
      exact f1.symm
    · have f1 := Eq.trans (Eq.symm (if_neg c1)) f0
      have g1 := hp.2 c1
      refine ⟨g1.1, ?_⟩
      have g2 := g1.2
      refine ⟨fun c4 => ?_, fun c4 => ?_⟩
      · have f3 := Eq.trans (Eq.symm (if_pos c4)) f1
        have g3 := g2.1 c4
        exact f3.symm
      · have f3 := Eq.trans (Eq.symm (if_neg c4)) f1
        have g3 := g2.2 c4
        refine ⟨g3.1, ?_⟩
        have g4 := g3.2
        intro r7 e9
        have g5 := g4 r7 e9
        have f5 := Eq.trans (Eq.symm (zl1_eq e9)) f3
        refine ⟨fun c11 => ?_, fun c11 => ?_⟩
        · have f6 := Eq.trans (Eq.symm (if_pos c11)) f5
          have g6 := g5.1 c11
          exact f6.symm
        · have f6 := Eq.trans (Eq.symm (if_neg c11)) f5
          have g6 := g5.2 c11
          refine ⟨g6.1, ?_⟩
          have g7 := g6.2
          refine ⟨g7.1, ?_⟩
          have g9 := g7.2
          intro m17 m18 e16
          have g8 := g9 m17 m18 e16
          have f8 := Eq.trans (Eq.symm (zl2_eq e16)) f6
          exact ih y1 y2 m17 (t_operators - (1 : Int32)) t_operator m18 _ f8 g8
set_option maxRecDepth 100000 in
theorem v_Mo_write (t_at : Int32) (t_operators : Int32) (t_operator : Nat → Int32) (t_code : Nat → Int32) (x1 : Int32) (x2 : Int32) (hp : p_Mo_write t_at t_operators t_operator t_code x1 x2) : WP_Mo_write t_at t_operators t_operator t_code x1 x2 (fun u => s_Mo_write t_at t_operators t_operator t_code x1 x2 = u) := by
  unfold p_Mo_write WP_Mo_write at hp
  obtain ⟨tgt, f0⟩ : ∃ tgt, s_Mo_write t_at t_operators t_operator t_code x1 x2 = tgt := ⟨_, rfl⟩
  rw [f0]
  unfold s_Mo_write at f0
  unfold WP_Mo_write
  exact v_Mo_write_L0 600 x1 x2 t_at t_operators t_operator t_code _ f0 hp
theorem c_Mo_write (l : Launch) (D : va_G) (K : Nat → ClassId) (q_t : Nat) (q_t_text : Nat) (q_t_code : Nat) (q_t_site : Nat) (q_t_condition : Nat) (q_t_actions : Nat) (q_t_kind : Nat) (q_t_target : Nat) (q_t_first : Nat) (q_t_second : Nat) (q_t_failures : Nat) (q_t_met : Nat) (q_t_there : Nat) (q_t_on : Nat) (q_t_compared : Nat) (q_t_globals : Nat) (q_t_own : Nat) (q_t_records : Nat) (q_t_pile : Nat) (q_t_handed : Nat) (q_t_keys : Nat) (q_t_key : Nat) (q_t_count : Nat) (q_t_bins : Nat) (q_t_operator : Nat) (q_t_starts : Nat) (q_t_sum : Nat) (q_t_least : Nat) (q_t_greatest : Nat) (t_newSite : Int32) (t_newCondition : Int32) (t_newActions : Int32) (t_size : Int32) (t_place : Int32) (t_pos : Int32) (t_at : Int32) (t_operators : Int32) (t_recorded : Int32) (t_lost : Int32) (t_dropped : Int32) (t_firings : Int32) (t_time : Int32) (t_thread : Int32) (t_thrown : Int32) (t_failed : Int32) (t_operator : Nat → Int32) (t_code : Nat → Int32) (x1 : Int32) (x2 : Int32) (hp : p_Mo_write t_at t_operators t_operator t_code x1 x2) : zCv l y_Mo_write wy_Mo_write rm_Mo_write D zcl (zT K) [.ref q_t, .int x1, .int x2] (w_Mo_write K q_t q_t_text q_t_code q_t_site q_t_condition q_t_actions q_t_kind q_t_target q_t_first q_t_second q_t_failures q_t_met q_t_there q_t_on q_t_compared q_t_globals q_t_own q_t_records q_t_pile q_t_handed q_t_keys q_t_key q_t_count q_t_bins q_t_operator q_t_starts q_t_sum q_t_least q_t_greatest t_newSite t_newCondition t_newActions t_size t_place t_pos t_recorded t_lost t_dropped t_firings t_time t_thread t_thrown t_failed t_operator (t_at, t_operators, t_code)) (w_Mo_write K q_t q_t_text q_t_code q_t_site q_t_condition q_t_actions q_t_kind q_t_target q_t_first q_t_second q_t_failures q_t_met q_t_there q_t_on q_t_compared q_t_globals q_t_own q_t_records q_t_pile q_t_handed q_t_keys q_t_key q_t_count q_t_bins q_t_operator q_t_starts q_t_sum q_t_least q_t_greatest t_newSite t_newCondition t_newActions t_size t_place t_pos t_recorded t_lost t_dropped t_firings t_time t_thread t_thrown t_failed t_operator) (fun u => s_Mo_write t_at t_operators t_operator t_code x1 x2 = u) 0 0 := cw_Mo_write l D K q_t q_t_text q_t_code q_t_site q_t_condition q_t_actions q_t_kind q_t_target q_t_first q_t_second q_t_failures q_t_met q_t_there q_t_on q_t_compared q_t_globals q_t_own q_t_records q_t_pile q_t_handed q_t_keys q_t_key q_t_count q_t_bins q_t_operator q_t_starts q_t_sum q_t_least q_t_greatest t_newSite t_newCondition t_newActions t_size t_place t_pos t_at t_operators t_recorded t_lost t_dropped t_firings t_time t_thread t_thrown t_failed t_operator t_code x1 x2 (v_Mo_write t_at t_operators t_operator t_code x1 x2 hp)
-- RuleTracerModel.writeMinus(I)I: reads ['t.at', 't.operators', 't.operator', 't.code'], changes ['t.at', 't.operators', 't.code']
abbrev w_Mo_writeMinus (K : Nat → ClassId) (q_t : Nat) (q_t_text : Nat) (q_t_code : Nat) (q_t_site : Nat) (q_t_condition : Nat) (q_t_actions : Nat) (q_t_kind : Nat) (q_t_target : Nat) (q_t_first : Nat) (q_t_second : Nat) (q_t_failures : Nat) (q_t_met : Nat) (q_t_there : Nat) (q_t_on : Nat) (q_t_compared : Nat) (q_t_globals : Nat) (q_t_own : Nat) (q_t_records : Nat) (q_t_pile : Nat) (q_t_handed : Nat) (q_t_keys : Nat) (q_t_key : Nat) (q_t_count : Nat) (q_t_bins : Nat) (q_t_operator : Nat) (q_t_starts : Nat) (q_t_sum : Nat) (q_t_least : Nat) (q_t_greatest : Nat) (t_newSite : Int32) (t_newCondition : Int32) (t_newActions : Int32) (t_size : Int32) (t_place : Int32) (t_pos : Int32) (t_recorded : Int32) (t_lost : Int32) (t_dropped : Int32) (t_firings : Int32) (t_time : Int32) (t_thread : Int32) (t_thrown : Int32) (t_failed : Int32) (t_operator : Nat → Int32) (u : Int32 × Int32 × (Nat → Int32)) : va_W := [zo 6 q_t [.ref q_t_text, .ref q_t_code, .ref q_t_site, .ref q_t_condition, .ref q_t_actions, .ref q_t_kind, .ref q_t_target, .ref q_t_first, .ref q_t_second, .ref q_t_failures, .ref q_t_met, .ref q_t_there, .ref q_t_on, .ref q_t_compared, .ref q_t_globals, .ref q_t_own, .ref q_t_records, .ref q_t_pile, .ref q_t_handed, .ref q_t_keys, .ref q_t_key, .ref q_t_count, .ref q_t_bins, .ref q_t_operator, .ref q_t_starts, .ref q_t_sum, .ref q_t_least, .ref q_t_greatest, .int t_newSite, .int t_newCondition, .int t_newActions, .int t_size, .int t_place, .int t_pos, .int u.1, .int u.2.1, .int t_recorded, .int t_lost, .int t_dropped, .int t_firings, .int t_time, .int t_thread, .int t_thrown, .int t_failed], zaI K q_t_operator 60 t_operator, zaI K q_t_code 1400 u.2.2]
abbrev rm_Mo_writeMinus : Room := { frames := 1, cells := 0, slots := 0, locals := 22 }
abbrev wy_Mo_writeMinus : List Cond := .code y_Mo_writeMinus b_Mo_writeMinus 3 (some .int) :: zWT
def WP_Mo_writeMinus_L2 : Nat → Int32 → Int32 → Int32 → Int32 → (Nat → Int32) → (Nat → Int32) → (Int32 → (Int32 × Int32 × (Nat → Int32)) → Prop) → Prop
  | 0, _, _, _, _, _, _, _ => False
  | n + 1, y1, y2, t_at, t_operators, t_operator, t_code, Q => ((t_operators ≤ y1) → Q y2 (t_at, t_operators, t_code)) ∧ ((¬ t_operators ≤ y1) → vp_in (t_operators - (1 : Int32)) 60 ∧ ((¬ (t_operator (t_operators - (1 : Int32)).toNatClampNeg) = 0) → Q y2 (t_at, t_operators, t_code)) ∧ (((t_operator (t_operators - (1 : Int32)).toNatClampNeg) = 0) → p_Mo_emit t_at t_code (4 : Int32) (0 : Int32) ∧ (∀ (m9 : Int32) (m10 : Nat → Int32), s_Mo_emit t_at t_code (4 : Int32) (0 : Int32) = (m9, m10) → WP_Mo_writeMinus_L2 n y1 (y2 + (1 : Int32)) m9 (t_operators - (1 : Int32)) t_operator m10 Q)))
def WP_Mo_writeMinus (t_at : Int32) (t_operators : Int32) (t_operator : Nat → Int32) (t_code : Nat → Int32) (x1 : Int32) (Q : Int32 → (Int32 × Int32 × (Nat → Int32)) → Prop) : Prop := WP_Mo_writeMinus_L2 600 x1 (0 : Int32) t_at t_operators t_operator t_code Q
set_option maxHeartbeats 4000000 in
set_option maxRecDepth 100000 in
theorem lw_Mo_writeMinus_L2 {p : Program} {e : Env} {s : State} {m : MethodId} {args : Array Value} {below : List Frame} {meth : Method} {c : Code} {A : Nat → Prop} (l : Launch) (D : va_G) (K : Nat → ClassId) (q_t : Nat) (q_t_text : Nat) (q_t_code : Nat) (q_t_site : Nat) (q_t_condition : Nat) (q_t_actions : Nat) (q_t_kind : Nat) (q_t_target : Nat) (q_t_first : Nat) (q_t_second : Nat) (q_t_failures : Nat) (q_t_met : Nat) (q_t_there : Nat) (q_t_on : Nat) (q_t_compared : Nat) (q_t_globals : Nat) (q_t_own : Nat) (q_t_records : Nat) (q_t_pile : Nat) (q_t_handed : Nat) (q_t_keys : Nat) (q_t_key : Nat) (q_t_count : Nat) (q_t_bins : Nat) (q_t_operator : Nat) (q_t_starts : Nat) (q_t_sum : Nat) (q_t_least : Nat) (q_t_greatest : Nat) (t_newSite : Int32) (t_newCondition : Int32) (t_newActions : Int32) (t_size : Int32) (t_place : Int32) (t_pos : Int32) (t_recorded : Int32) (t_lost : Int32) (t_dropped : Int32) (t_firings : Int32) (t_time : Int32) (t_thread : Int32) (t_thrown : Int32) (t_failed : Int32) (t_operator : Nat → Int32) {Q : Int32 → (Int32 × Int32 × (Nat → Int32)) → Prop} (C : zCx p s m args c b_Mo_writeMinus 3 R_Mo zWT D zcl (zT K) A) (hr : meth.sig.returnType = (some .int)) (hlk : meth.locks = false) : ∀ (n : Nat) (y1 : Int32) (y2 : Int32) (t_at : Int32) (t_operators : Int32) (t_code : Nat → Int32), WP_Mo_writeMinus_L2 n y1 y2 t_at t_operators t_operator t_code Q → zW p l e (headSpec wy_Mo_writeMinus rm_Mo_writeMinus).room s m args below meth c D zcl A 3 0 0 (MQ below (va_Qi Q (zB D zcl (zT K) (w_Mo_writeMinus K q_t q_t_text q_t_code q_t_site q_t_condition q_t_actions q_t_kind q_t_target q_t_first q_t_second q_t_failures q_t_met q_t_there q_t_on q_t_compared q_t_globals q_t_own q_t_records q_t_pile q_t_handed q_t_keys q_t_key q_t_count q_t_bins q_t_operator q_t_starts q_t_sum q_t_least q_t_greatest t_newSite t_newCondition t_newActions t_size t_place t_pos t_recorded t_lost t_dropped t_firings t_time t_thread t_thrown t_failed t_operator) A) A) args s 0 0 A) [(0, .ref q_t), (1, .int y1), (2, .int y2)] [zo 6 q_t [.ref q_t_text, .ref q_t_code, .ref q_t_site, .ref q_t_condition, .ref q_t_actions, .ref q_t_kind, .ref q_t_target, .ref q_t_first, .ref q_t_second, .ref q_t_failures, .ref q_t_met, .ref q_t_there, .ref q_t_on, .ref q_t_compared, .ref q_t_globals, .ref q_t_own, .ref q_t_records, .ref q_t_pile, .ref q_t_handed, .ref q_t_keys, .ref q_t_key, .ref q_t_count, .ref q_t_bins, .ref q_t_operator, .ref q_t_starts, .ref q_t_sum, .ref q_t_least, .ref q_t_greatest, .int t_newSite, .int t_newCondition, .int t_newActions, .int t_size, .int t_place, .int t_pos, .int t_at, .int t_operators, .int t_recorded, .int t_lost, .int t_dropped, .int t_firings, .int t_time, .int t_thread, .int t_thrown, .int t_failed], zaI K q_t_operator 60 t_operator, zaI K q_t_code 1400 t_code] 2 [] := by
  intro n
  induction n with
  | zero => intros; contradiction
  | succ n ih =>
    intro y1 y2 t_at t_operators t_code hS0
    refine z_aload_n C d_Mo_writeMinus_2 rfl 0 rfl ?_
    refine z_get C 0 rfl rfl in_Mo 35 (by decide) rfl wf_Mo_124 rfl d_Mo_writeMinus_3 ?_
    refine z_iload_n C d_Mo_writeMinus_6 rfl 1 rfl ?_
    refine z_icmp_le (tgt := 46) C d_Mo_writeMinus_7 (by decide) (fun c1 => ?_) (fun c1 => ?_)
    · have hS2 := hS0.1 c1
      refine z_iload_n C d_Mo_writeMinus_46 rfl 2 rfl ?_
      exact z_iret C hr hlk (t_at, t_operators, t_code) rfl hS2 d_Mo_writeMinus_47
    · have hS2 := hS0.2 c1
      refine z_aload_n C d_Mo_writeMinus_10 rfl 0 rfl ?_
      refine z_get C 0 rfl rfl in_Mo 23 (by decide) rfl wf_Mo_81 rfl d_Mo_writeMinus_11 ?_
      refine z_aload_n C d_Mo_writeMinus_14 rfl 0 rfl ?_
      refine z_get C 0 rfl rfl in_Mo 35 (by decide) rfl wf_Mo_124 rfl d_Mo_writeMinus_15 ?_
      refine z_iconst (v := (1 : Int32)) C d_Mo_writeMinus_18 (by decide) ?_
      refine z_isub C d_Mo_writeMinus_19 ?_
      refine z_iald C 1 0 rfl rfl hS2.1 d_Mo_writeMinus_20 ?_
      have hS3 := hS2.2
      refine z_if_ne (tgt := 46) C d_Mo_writeMinus_21 (by decide) (fun c4 => ?_) (fun c4 => ?_)
      · have hS5 := hS3.1 c4
        refine z_iload_n C d_Mo_writeMinus_46 rfl 2 rfl ?_
        exact z_iret C hr hlk (t_at, t_operators, t_code) rfl hS5 d_Mo_writeMinus_47
      · have hS5 := hS3.2 c4
        refine z_aload_n C d_Mo_writeMinus_24 rfl 0 rfl ?_
        refine z_dup C d_Mo_writeMinus_25 rfl ?_
        refine z_get C 0 rfl rfl in_Mo 35 (by decide) rfl wf_Mo_124 rfl d_Mo_writeMinus_26 ?_
        refine z_iconst (v := (1 : Int32)) C d_Mo_writeMinus_29 (by decide) ?_
        refine z_isub C d_Mo_writeMinus_30 ?_
        refine z_put (ty := .int) (ws' := [zo 6 q_t [.ref q_t_text, .ref q_t_code, .ref q_t_site, .ref q_t_condition, .ref q_t_actions, .ref q_t_kind, .ref q_t_target, .ref q_t_first, .ref q_t_second, .ref q_t_failures, .ref q_t_met, .ref q_t_there, .ref q_t_on, .ref q_t_compared, .ref q_t_globals, .ref q_t_own, .ref q_t_records, .ref q_t_pile, .ref q_t_handed, .ref q_t_keys, .ref q_t_key, .ref q_t_count, .ref q_t_bins, .ref q_t_operator, .ref q_t_starts, .ref q_t_sum, .ref q_t_least, .ref q_t_greatest, .int t_newSite, .int t_newCondition, .int t_newActions, .int t_size, .int t_place, .int t_pos, .int t_at, .int (t_operators - (1 : Int32)), .int t_recorded, .int t_lost, .int t_dropped, .int t_firings, .int t_time, .int t_thread, .int t_thrown, .int t_failed], zaI K q_t_operator 60 t_operator, zaI K q_t_code 1400 t_code]) C ty_Mo to_Mo nm_Mo 0 rfl rfl in_Mo 35 (by decide) rfl wf_Mo_124 rfl rfl rfl rfl (Nat.le_of_ble_eq_true rfl) rfl d_Mo_writeMinus_31 ?_
        refine z_iinc (j := 2) (v := y2 + (1 : Int32)) (lv' := [(2, .int (y2 + (1 : Int32))), (0, .ref q_t), (1, .int y1)]) C d_Mo_writeMinus_34 rfl rfl (by decide) rfl ?_
        refine z_aload_n C d_Mo_writeMinus_37 rfl 1 rfl ?_
        refine z_iconst (v := (4 : Int32)) C d_Mo_writeMinus_38 (by decide) ?_
        refine z_iconst (v := (0 : Int32)) C d_Mo_writeMinus_39 (by decide) ?_
        refine z_callVv (As := [.int (4 : Int32), .int (0 : Int32)]) (b := q_t) (st := []) (wr := [zaI K q_t_operator 60 t_operator]) (wj := fun u => [zo 6 q_t [.ref q_t_text, .ref q_t_code, .ref q_t_site, .ref q_t_condition, .ref q_t_actions, .ref q_t_kind, .ref q_t_target, .ref q_t_first, .ref q_t_second, .ref q_t_failures, .ref q_t_met, .ref q_t_there, .ref q_t_on, .ref q_t_compared, .ref q_t_globals, .ref q_t_own, .ref q_t_records, .ref q_t_pile, .ref q_t_handed, .ref q_t_keys, .ref q_t_key, .ref q_t_count, .ref q_t_bins, .ref q_t_operator, .ref q_t_starts, .ref q_t_sum, .ref q_t_least, .ref q_t_greatest, .int t_newSite, .int t_newCondition, .int t_newActions, .int t_size, .int t_place, .int t_pos, .int u.1, .int (t_operators - (1 : Int32)), .int t_recorded, .int t_lost, .int t_dropped, .int t_firings, .int t_time, .int t_thread, .int t_thrown, .int t_failed], zaI K q_t_operator 60 t_operator, zaI K q_t_code 1400 u.2]) C 0 rfl rfl (c_Mo_emit l D K q_t q_t_text q_t_code q_t_site q_t_condition q_t_actions q_t_kind q_t_target q_t_first q_t_second q_t_failures q_t_met q_t_there q_t_on q_t_compared q_t_globals q_t_own q_t_records q_t_pile q_t_handed q_t_keys q_t_key q_t_count q_t_bins q_t_operator q_t_starts q_t_sum q_t_least q_t_greatest t_newSite t_newCondition t_newActions t_size t_place t_pos t_at (t_operators - (1 : Int32)) t_recorded t_lost t_dropped t_firings t_time t_thread t_thrown t_failed t_code (4 : Int32) (0 : Int32) hS5.1) (cwV 2 C.2.2.2.2.1 (z_gV wl_Mo_131 wi_Mo_emit wv_Mo_emit wz_Mo wk_Mo_emit) rfl rfl rfl (by decide +kernel) ⟨Nat.le_of_ble_eq_true rfl, Nat.le_of_ble_eq_true rfl⟩) [0, 2] [1] [1, 0, 2] rfl rfl rfl rfl (by decide) (fun _ => rfl) rfl rfl rfl (Nat.le_of_ble_eq_true rfl) d_Mo_writeMinus_40 ⟨Nat.le_of_ble_eq_true rfl, Nat.le_of_ble_eq_true rfl⟩ (fun u7 e8 => ?_)
        obtain ⟨m9, m10⟩ := u7
        refine z_weq (ws' := [zo 6 q_t [.ref q_t_text, .ref q_t_code, .ref q_t_site, .ref q_t_condition, .ref q_t_actions, .ref q_t_kind, .ref q_t_target, .ref q_t_first, .ref q_t_second, .ref q_t_failures, .ref q_t_met, .ref q_t_there, .ref q_t_on, .ref q_t_compared, .ref q_t_globals, .ref q_t_own, .ref q_t_records, .ref q_t_pile, .ref q_t_handed, .ref q_t_keys, .ref q_t_key, .ref q_t_count, .ref q_t_bins, .ref q_t_operator, .ref q_t_starts, .ref q_t_sum, .ref q_t_least, .ref q_t_greatest, .int t_newSite, .int t_newCondition, .int t_newActions, .int t_size, .int t_place, .int t_pos, .int m9, .int (t_operators - (1 : Int32)), .int t_recorded, .int t_lost, .int t_dropped, .int t_firings, .int t_time, .int t_thread, .int t_thrown, .int t_failed], zaI K q_t_operator 60 t_operator, zaI K q_t_code 1400 m10]) rfl ?_
        have hS11 := hS5.2 m9 m10 e8
        refine z_goto (tgt := 2) C d_Mo_writeMinus_43 (by decide) ?_
        refine z_lpick (lv' := [(0, .ref q_t), (1, .int y1), (2, .int (y2 + (1 : Int32)))]) [1, 2, 0] rfl ?_
        exact ih y1 (y2 + (1 : Int32)) m9 (t_operators - (1 : Int32)) m10 hS11
set_option maxHeartbeats 4000000 in
set_option maxRecDepth 100000 in
theorem cw_Mo_writeMinus (l : Launch) (D : va_G) (K : Nat → ClassId) (q_t : Nat) (q_t_text : Nat) (q_t_code : Nat) (q_t_site : Nat) (q_t_condition : Nat) (q_t_actions : Nat) (q_t_kind : Nat) (q_t_target : Nat) (q_t_first : Nat) (q_t_second : Nat) (q_t_failures : Nat) (q_t_met : Nat) (q_t_there : Nat) (q_t_on : Nat) (q_t_compared : Nat) (q_t_globals : Nat) (q_t_own : Nat) (q_t_records : Nat) (q_t_pile : Nat) (q_t_handed : Nat) (q_t_keys : Nat) (q_t_key : Nat) (q_t_count : Nat) (q_t_bins : Nat) (q_t_operator : Nat) (q_t_starts : Nat) (q_t_sum : Nat) (q_t_least : Nat) (q_t_greatest : Nat) (t_newSite : Int32) (t_newCondition : Int32) (t_newActions : Int32) (t_size : Int32) (t_place : Int32) (t_pos : Int32) (t_at : Int32) (t_operators : Int32) (t_recorded : Int32) (t_lost : Int32) (t_dropped : Int32) (t_firings : Int32) (t_time : Int32) (t_thread : Int32) (t_thrown : Int32) (t_failed : Int32) (t_operator : Nat → Int32) (t_code : Nat → Int32) (x1 : Int32) {Q : Int32 → (Int32 × Int32 × (Nat → Int32)) → Prop} (hS0 : WP_Mo_writeMinus t_at t_operators t_operator t_code x1 Q) : zCi l y_Mo_writeMinus wy_Mo_writeMinus rm_Mo_writeMinus D zcl (zT K) [.ref q_t, .int x1] (w_Mo_writeMinus K q_t q_t_text q_t_code q_t_site q_t_condition q_t_actions q_t_kind q_t_target q_t_first q_t_second q_t_failures q_t_met q_t_there q_t_on q_t_compared q_t_globals q_t_own q_t_records q_t_pile q_t_handed q_t_keys q_t_key q_t_count q_t_bins q_t_operator q_t_starts q_t_sum q_t_least q_t_greatest t_newSite t_newCondition t_newActions t_size t_place t_pos t_recorded t_lost t_dropped t_firings t_time t_thread t_thrown t_failed t_operator (t_at, t_operators, t_code)) (w_Mo_writeMinus K q_t q_t_text q_t_code q_t_site q_t_condition q_t_actions q_t_kind q_t_target q_t_first q_t_second q_t_failures q_t_met q_t_there q_t_on q_t_compared q_t_globals q_t_own q_t_records q_t_pile q_t_handed q_t_keys q_t_key q_t_count q_t_bins q_t_operator q_t_starts q_t_sum q_t_least q_t_greatest t_newSite t_newCondition t_newActions t_size t_place t_pos t_recorded t_lost t_dropped t_firings t_time t_thread t_thrown t_failed t_operator) Q 0 0 := by
  refine z_meti (cc := b_Mo_writeMinus) (maxL := 3) (ret := (some .int)) (by decide) rfl (Nat.le_of_ble_eq_true rfl) ?_
  intro p e s m args below meth c A C hr hlk hnm
  refine z_lpick (lv' := [(0, .ref q_t), (1, .int x1)]) [0, 1] rfl ?_
  refine z_weq (ws' := [zo 6 q_t [.ref q_t_text, .ref q_t_code, .ref q_t_site, .ref q_t_condition, .ref q_t_actions, .ref q_t_kind, .ref q_t_target, .ref q_t_first, .ref q_t_second, .ref q_t_failures, .ref q_t_met, .ref q_t_there, .ref q_t_on, .ref q_t_compared, .ref q_t_globals, .ref q_t_own, .ref q_t_records, .ref q_t_pile, .ref q_t_handed, .ref q_t_keys, .ref q_t_key, .ref q_t_count, .ref q_t_bins, .ref q_t_operator, .ref q_t_starts, .ref q_t_sum, .ref q_t_least, .ref q_t_greatest, .int t_newSite, .int t_newCondition, .int t_newActions, .int t_size, .int t_place, .int t_pos, .int t_at, .int t_operators, .int t_recorded, .int t_lost, .int t_dropped, .int t_firings, .int t_time, .int t_thread, .int t_thrown, .int t_failed], zaI K q_t_operator 60 t_operator, zaI K q_t_code 1400 t_code]) rfl ?_
  refine z_iconst (v := (0 : Int32)) C d_Mo_writeMinus_0 (by decide) ?_
  refine z_istore_n (lv' := [(2, .int (0 : Int32)), (0, .ref q_t), (1, .int x1)]) C d_Mo_writeMinus_1 rfl (by decide) rfl ?_
  refine z_lpick (lv' := [(0, .ref q_t), (1, .int x1), (2, .int (0 : Int32))]) [1, 2, 0] rfl ?_
  exact lw_Mo_writeMinus_L2 l D K q_t q_t_text q_t_code q_t_site q_t_condition q_t_actions q_t_kind q_t_target q_t_first q_t_second q_t_failures q_t_met q_t_there q_t_on q_t_compared q_t_globals q_t_own q_t_records q_t_pile q_t_handed q_t_keys q_t_key q_t_count q_t_bins q_t_operator q_t_starts q_t_sum q_t_least q_t_greatest t_newSite t_newCondition t_newActions t_size t_place t_pos t_recorded t_lost t_dropped t_firings t_time t_thread t_thrown t_failed t_operator C hr hlk 600 x1 (0 : Int32) t_at t_operators t_code hS0
def s_Mo_writeMinus_L2 : Nat → Int32 → Int32 → Int32 → Int32 → (Nat → Int32) → (Nat → Int32) → Int32 × Int32 × Int32 × (Nat → Int32)
  | 0, _, _, t_at, t_operators, _, t_code => (0, t_at, t_operators, t_code)
  | n + 1, y1, y2, t_at, t_operators, t_operator, t_code => (if t_operators ≤ y1 then (y2, t_at, t_operators, t_code) else (if (t_operator (t_operators - (1 : Int32)).toNatClampNeg) = 0 then (zl2 (s_Mo_emit t_at t_code (4 : Int32) (0 : Int32)) (fun m9 m10 => s_Mo_writeMinus_L2 n y1 (y2 + (1 : Int32)) m9 (t_operators - (1 : Int32)) t_operator m10)) else (y2, t_at, t_operators, t_code)))
def s_Mo_writeMinus (t_at : Int32) (t_operators : Int32) (t_operator : Nat → Int32) (t_code : Nat → Int32) (x1 : Int32) : Int32 × Int32 × Int32 × (Nat → Int32) := s_Mo_writeMinus_L2 600 x1 (0 : Int32) t_at t_operators t_operator t_code
def p_Mo_writeMinus (t_at : Int32) (t_operators : Int32) (t_operator : Nat → Int32) (t_code : Nat → Int32) (x1 : Int32) : Prop := WP_Mo_writeMinus t_at t_operators t_operator t_code x1 (fun _ _ => True)
set_option maxRecDepth 100000 in
theorem v_Mo_writeMinus_L2 : ∀ (n : Nat) (y1 : Int32) (y2 : Int32) (t_at : Int32) (t_operators : Int32) (t_operator : Nat → Int32) (t_code : Nat → Int32) (tgt : Int32 × Int32 × Int32 × (Nat → Int32)), s_Mo_writeMinus_L2 n y1 y2 t_at t_operators t_operator t_code = tgt → WP_Mo_writeMinus_L2 n y1 y2 t_at t_operators t_operator t_code (fun _ _ => True) → WP_Mo_writeMinus_L2 n y1 y2 t_at t_operators t_operator t_code (fun r u => tgt = (r, u.1, u.2.1, u.2.2)) := by
  intro n
  induction n with
  | zero => intros; contradiction
  | succ n ih =>
    intro y1 y2 t_at t_operators t_operator t_code tgt f0 hp
    unfold s_Mo_writeMinus_L2 at f0
    unfold WP_Mo_writeMinus_L2 at hp ⊢
    refine ⟨fun c1 => ?_, fun c1 => ?_⟩
    · have f1 := Eq.trans (Eq.symm (if_pos c1)) f0
      have g1 := hp.1 c1
      exact f1.symm
    · have f1 := Eq.trans (Eq.symm (if_neg c1)) f0
      have g1 := hp.2 c1
      refine ⟨g1.1, ?_⟩
      have g2 := g1.2
      refine ⟨fun c4 => ?_, fun c4 => ?_⟩
      · have f3 := Eq.trans (Eq.symm (if_neg c4)) f1
        have g3 := g2.1 c4
        exact f3.symm
      · have f3 := Eq.trans (Eq.symm (if_pos c4)) f1
        have g3 := g2.2 c4
        refine ⟨g3.1, ?_⟩
        have g5 := g3.2
        intro m9 m10 e8
        have g4 := g5 m9 m10 e8
        have f4 := Eq.trans (Eq.symm (zl2_eq e8)) f3
        exact ih y1 (y2 + (1 : Int32)) m9 (t_operators - (1 : Int32)) t_operator m10 _ f4 g4
set_option maxRecDepth 100000 in
theorem v_Mo_writeMinus (t_at : Int32) (t_operators : Int32) (t_operator : Nat → Int32) (t_code : Nat → Int32) (x1 : Int32) (hp : p_Mo_writeMinus t_at t_operators t_operator t_code x1) : WP_Mo_writeMinus t_at t_operators t_operator t_code x1 (fun r u => s_Mo_writeMinus t_at t_operators t_operator t_code x1 = (r, u.1, u.2.1, u.2.2)) := by
  unfold p_Mo_writeMinus WP_Mo_writeMinus at hp
  obtain ⟨tgt, f0⟩ : ∃ tgt, s_Mo_writeMinus t_at t_operators t_operator t_code x1 = tgt := ⟨_, rfl⟩
  rw [f0]
  unfold s_Mo_writeMinus at f0
  unfold WP_Mo_writeMinus
  exact v_Mo_writeMinus_L2 600 x1 (0 : Int32) t_at t_operators t_operator t_code _ f0 hp
theorem c_Mo_writeMinus (l : Launch) (D : va_G) (K : Nat → ClassId) (q_t : Nat) (q_t_text : Nat) (q_t_code : Nat) (q_t_site : Nat) (q_t_condition : Nat) (q_t_actions : Nat) (q_t_kind : Nat) (q_t_target : Nat) (q_t_first : Nat) (q_t_second : Nat) (q_t_failures : Nat) (q_t_met : Nat) (q_t_there : Nat) (q_t_on : Nat) (q_t_compared : Nat) (q_t_globals : Nat) (q_t_own : Nat) (q_t_records : Nat) (q_t_pile : Nat) (q_t_handed : Nat) (q_t_keys : Nat) (q_t_key : Nat) (q_t_count : Nat) (q_t_bins : Nat) (q_t_operator : Nat) (q_t_starts : Nat) (q_t_sum : Nat) (q_t_least : Nat) (q_t_greatest : Nat) (t_newSite : Int32) (t_newCondition : Int32) (t_newActions : Int32) (t_size : Int32) (t_place : Int32) (t_pos : Int32) (t_at : Int32) (t_operators : Int32) (t_recorded : Int32) (t_lost : Int32) (t_dropped : Int32) (t_firings : Int32) (t_time : Int32) (t_thread : Int32) (t_thrown : Int32) (t_failed : Int32) (t_operator : Nat → Int32) (t_code : Nat → Int32) (x1 : Int32) (hp : p_Mo_writeMinus t_at t_operators t_operator t_code x1) : zCi l y_Mo_writeMinus wy_Mo_writeMinus rm_Mo_writeMinus D zcl (zT K) [.ref q_t, .int x1] (w_Mo_writeMinus K q_t q_t_text q_t_code q_t_site q_t_condition q_t_actions q_t_kind q_t_target q_t_first q_t_second q_t_failures q_t_met q_t_there q_t_on q_t_compared q_t_globals q_t_own q_t_records q_t_pile q_t_handed q_t_keys q_t_key q_t_count q_t_bins q_t_operator q_t_starts q_t_sum q_t_least q_t_greatest t_newSite t_newCondition t_newActions t_size t_place t_pos t_recorded t_lost t_dropped t_firings t_time t_thread t_thrown t_failed t_operator (t_at, t_operators, t_code)) (w_Mo_writeMinus K q_t q_t_text q_t_code q_t_site q_t_condition q_t_actions q_t_kind q_t_target q_t_first q_t_second q_t_failures q_t_met q_t_there q_t_on q_t_compared q_t_globals q_t_own q_t_records q_t_pile q_t_handed q_t_keys q_t_key q_t_count q_t_bins q_t_operator q_t_starts q_t_sum q_t_least q_t_greatest t_newSite t_newCondition t_newActions t_size t_place t_pos t_recorded t_lost t_dropped t_firings t_time t_thread t_thrown t_failed t_operator) (fun r u => s_Mo_writeMinus t_at t_operators t_operator t_code x1 = (r, u.1, u.2.1, u.2.2)) 0 0 := cw_Mo_writeMinus l D K q_t q_t_text q_t_code q_t_site q_t_condition q_t_actions q_t_kind q_t_target q_t_first q_t_second q_t_failures q_t_met q_t_there q_t_on q_t_compared q_t_globals q_t_own q_t_records q_t_pile q_t_handed q_t_keys q_t_key q_t_count q_t_bins q_t_operator q_t_starts q_t_sum q_t_least q_t_greatest t_newSite t_newCondition t_newActions t_size t_place t_pos t_at t_operators t_recorded t_lost t_dropped t_firings t_time t_thread t_thrown t_failed t_operator t_code x1 (v_Mo_writeMinus t_at t_operators t_operator t_code x1 hp)
-- RuleTracerModel.unit()Z: reads ['t.size', 't.pos', 't.at', 't.text', 't.code'], changes ['t.pos', 't.at', 't.code']
abbrev w_Mo_unit (K : Nat → ClassId) (q_t : Nat) (q_t_text : Nat) (q_t_code : Nat) (q_t_site : Nat) (q_t_condition : Nat) (q_t_actions : Nat) (q_t_kind : Nat) (q_t_target : Nat) (q_t_first : Nat) (q_t_second : Nat) (q_t_failures : Nat) (q_t_met : Nat) (q_t_there : Nat) (q_t_on : Nat) (q_t_compared : Nat) (q_t_globals : Nat) (q_t_own : Nat) (q_t_records : Nat) (q_t_pile : Nat) (q_t_handed : Nat) (q_t_keys : Nat) (q_t_key : Nat) (q_t_count : Nat) (q_t_bins : Nat) (q_t_operator : Nat) (q_t_starts : Nat) (q_t_sum : Nat) (q_t_least : Nat) (q_t_greatest : Nat) (t_newSite : Int32) (t_newCondition : Int32) (t_newActions : Int32) (t_size : Int32) (t_place : Int32) (t_operators : Int32) (t_recorded : Int32) (t_lost : Int32) (t_dropped : Int32) (t_firings : Int32) (t_time : Int32) (t_thread : Int32) (t_thrown : Int32) (t_failed : Int32) (t_text : Nat → Int32) (u : Int32 × Int32 × (Nat → Int32)) : va_W := [zo 6 q_t [.ref q_t_text, .ref q_t_code, .ref q_t_site, .ref q_t_condition, .ref q_t_actions, .ref q_t_kind, .ref q_t_target, .ref q_t_first, .ref q_t_second, .ref q_t_failures, .ref q_t_met, .ref q_t_there, .ref q_t_on, .ref q_t_compared, .ref q_t_globals, .ref q_t_own, .ref q_t_records, .ref q_t_pile, .ref q_t_handed, .ref q_t_keys, .ref q_t_key, .ref q_t_count, .ref q_t_bins, .ref q_t_operator, .ref q_t_starts, .ref q_t_sum, .ref q_t_least, .ref q_t_greatest, .int t_newSite, .int t_newCondition, .int t_newActions, .int t_size, .int t_place, .int u.1, .int u.2.1, .int t_operators, .int t_recorded, .int t_lost, .int t_dropped, .int t_firings, .int t_time, .int t_thread, .int t_thrown, .int t_failed], zaI K q_t_text 48 t_text, zaI K q_t_code 1400 u.2.2]
abbrev rm_Mo_unit : Room := { frames := 1, cells := 0, slots := 0, locals := 22 }
abbrev wy_Mo_unit : List Cond := .code y_Mo_unit b_Mo_unit 4 (some .boolean) :: zWT
def WP_Mo_unit_L20 : Nat → Int32 → Int32 → Int32 → Int32 → Int32 → Int32 → (Nat → Int32) → (Nat → Int32) → (Int32 → (Int32 × Int32 × (Nat → Int32)) → Prop) → Prop
  | 0, _, _, _, _, _, _, _, _, _ => False
  | n + 1, y1, y2, y3, t_size, t_pos, t_at, t_text, t_code, Q => (((3 : Int32) ≤ y3) → p_Mo_emit t_at t_code (1 : Int32) y2 ∧ (∀ (m56 : Int32) (m57 : Nat → Int32), s_Mo_emit t_at t_code (1 : Int32) y2 = (m56, m57) → Q (1 : Int32) (t_pos, m56, m57))) ∧ ((¬ (3 : Int32) ≤ y3) → p_Mo_look t_size t_pos t_text ∧ (∀ (r59 : Int32), s_Mo_look t_size t_pos t_text = r59 → (∀ (r63 : Int32), s_Mo_in r59 (48 : Int32) (57 : Int32) = r63 → ((r63 = 0) → p_Mo_emit t_at t_code (1 : Int32) y2 ∧ (∀ (m72 : Int32) (m73 : Nat → Int32), s_Mo_emit t_at t_code (1 : Int32) y2 = (m72, m73) → Q (1 : Int32) (t_pos, m72, m73))) ∧ ((¬ r63 = 0) → p_Mo_look t_size t_pos t_text ∧ (∀ (r75 : Int32), s_Mo_look t_size t_pos t_text = r75 → WP_Mo_unit_L20 n y1 (((y2 * (10 : Int32)) + r59) - (48 : Int32)) (y3 + (1 : Int32)) t_size (t_pos + (1 : Int32)) t_at t_text t_code Q)))))
def WP_Mo_unit (t_size : Int32) (t_pos : Int32) (t_at : Int32) (t_text : Nat → Int32) (t_code : Nat → Int32) (Q : Int32 → (Int32 × Int32 × (Nat → Int32)) → Prop) : Prop := p_Mo_look t_size t_pos t_text ∧ (∀ (r1 : Int32), s_Mo_look t_size t_pos t_text = r1 → (∀ (r5 : Int32), s_Mo_in r1 (48 : Int32) (57 : Int32) = r5 → ((r5 = 0) → (∀ (r11 : Int32), s_Mo_in r1 (97 : Int32) (99 : Int32) = r11 → ((¬ r11 = 0) → p_Mo_emit t_at t_code (2 : Int32) r1 ∧ (∀ (m20 : Int32) (m21 : Nat → Int32), s_Mo_emit t_at t_code (2 : Int32) r1 = (m20, m21) → Q (1 : Int32) (t_pos + (1 : Int32), m20, m21))) ∧ ((r11 = 0) → ((r1 = (116 : Int32)) → p_Mo_emit t_at t_code (2 : Int32) r1 ∧ (∀ (m28 : Int32) (m29 : Nat → Int32), s_Mo_emit t_at t_code (2 : Int32) r1 = (m28, m29) → Q (1 : Int32) (t_pos + (1 : Int32), m28, m29))) ∧ ((¬ r1 = (116 : Int32)) → ((r1 = (107 : Int32)) → p_Mo_emit t_at t_code (2 : Int32) r1 ∧ (∀ (m36 : Int32) (m37 : Nat → Int32), s_Mo_emit t_at t_code (2 : Int32) r1 = (m36, m37) → Q (1 : Int32) (t_pos + (1 : Int32), m36, m37))) ∧ ((¬ r1 = (107 : Int32)) → (∀ (r39 : Int32), s_Mo_in r1 (117 : Int32) (122 : Int32) = r39 → ((¬ r39 = 0) → p_Mo_emit t_at t_code (2 : Int32) r1 ∧ (∀ (m48 : Int32) (m49 : Nat → Int32), s_Mo_emit t_at t_code (2 : Int32) r1 = (m48, m49) → Q (1 : Int32) (t_pos + (1 : Int32), m48, m49))) ∧ ((r39 = 0) → Q (0 : Int32) (t_pos, t_at, t_code)))))))) ∧ ((¬ r5 = 0) → WP_Mo_unit_L20 600 r1 (0 : Int32) (0 : Int32) t_size t_pos t_at t_text t_code Q)))
set_option maxHeartbeats 4000000 in
set_option maxRecDepth 100000 in
theorem lw_Mo_unit_L20 {p : Program} {e : Env} {s : State} {m : MethodId} {args : Array Value} {below : List Frame} {meth : Method} {c : Code} {A : Nat → Prop} (l : Launch) (D : va_G) (K : Nat → ClassId) (q_t : Nat) (q_t_text : Nat) (q_t_code : Nat) (q_t_site : Nat) (q_t_condition : Nat) (q_t_actions : Nat) (q_t_kind : Nat) (q_t_target : Nat) (q_t_first : Nat) (q_t_second : Nat) (q_t_failures : Nat) (q_t_met : Nat) (q_t_there : Nat) (q_t_on : Nat) (q_t_compared : Nat) (q_t_globals : Nat) (q_t_own : Nat) (q_t_records : Nat) (q_t_pile : Nat) (q_t_handed : Nat) (q_t_keys : Nat) (q_t_key : Nat) (q_t_count : Nat) (q_t_bins : Nat) (q_t_operator : Nat) (q_t_starts : Nat) (q_t_sum : Nat) (q_t_least : Nat) (q_t_greatest : Nat) (t_newSite : Int32) (t_newCondition : Int32) (t_newActions : Int32) (t_size : Int32) (t_place : Int32) (t_operators : Int32) (t_recorded : Int32) (t_lost : Int32) (t_dropped : Int32) (t_firings : Int32) (t_time : Int32) (t_thread : Int32) (t_thrown : Int32) (t_failed : Int32) (t_text : Nat → Int32) {Q : Int32 → (Int32 × Int32 × (Nat → Int32)) → Prop} (C : zCx p s m args c b_Mo_unit 4 R_Mo zWT D zcl (zT K) A) (hr : meth.sig.returnType = (some .boolean)) (hlk : meth.locks = false) : ∀ (n : Nat) (y1 : Int32) (y2 : Int32) (y3 : Int32) (t_pos : Int32) (t_at : Int32) (t_code : Nat → Int32), WP_Mo_unit_L20 n y1 y2 y3 t_size t_pos t_at t_text t_code Q → zW p l e (headSpec wy_Mo_unit rm_Mo_unit).room s m args below meth c D zcl A 4 0 0 (MQ below (va_Qi Q (zB D zcl (zT K) (w_Mo_unit K q_t q_t_text q_t_code q_t_site q_t_condition q_t_actions q_t_kind q_t_target q_t_first q_t_second q_t_failures q_t_met q_t_there q_t_on q_t_compared q_t_globals q_t_own q_t_records q_t_pile q_t_handed q_t_keys q_t_key q_t_count q_t_bins q_t_operator q_t_starts q_t_sum q_t_least q_t_greatest t_newSite t_newCondition t_newActions t_size t_place t_operators t_recorded t_lost t_dropped t_firings t_time t_thread t_thrown t_failed t_text) A) A) args s 0 0 A) [(0, .ref q_t), (1, .int y1), (2, .int y2), (3, .int y3)] [zo 6 q_t [.ref q_t_text, .ref q_t_code, .ref q_t_site, .ref q_t_condition, .ref q_t_actions, .ref q_t_kind, .ref q_t_target, .ref q_t_first, .ref q_t_second, .ref q_t_failures, .ref q_t_met, .ref q_t_there, .ref q_t_on, .ref q_t_compared, .ref q_t_globals, .ref q_t_own, .ref q_t_records, .ref q_t_pile, .ref q_t_handed, .ref q_t_keys, .ref q_t_key, .ref q_t_count, .ref q_t_bins, .ref q_t_operator, .ref q_t_starts, .ref q_t_sum, .ref q_t_least, .ref q_t_greatest, .int t_newSite, .int t_newCondition, .int t_newActions, .int t_size, .int t_place, .int t_pos, .int t_at, .int t_operators, .int t_recorded, .int t_lost, .int t_dropped, .int t_firings, .int t_time, .int t_thread, .int t_thrown, .int t_failed], zaI K q_t_text 48 t_text, zaI K q_t_code 1400 t_code] 20 [] := by
  intro n
  induction n with
  | zero => intros; contradiction
  | succ n ih =>
    intro y1 y2 y3 t_pos t_at t_code hS0
    refine z_iload_n C d_Mo_unit_20 rfl 3 rfl ?_
    refine z_iconst (v := (3 : Int32)) C d_Mo_unit_21 (by decide) ?_
    refine z_icmp_ge (tgt := 68) C d_Mo_unit_22 (by decide) (fun c51 => ?_) (fun c51 => ?_)
    · have hS52 := hS0.1 c51
      refine z_aload_n C d_Mo_unit_68 rfl 0 rfl ?_
      refine z_iconst (v := (1 : Int32)) C d_Mo_unit_69 (by decide) ?_
      refine z_iload_n C d_Mo_unit_70 rfl 2 rfl ?_
      refine z_callVv (As := [.int (1 : Int32), .int y2]) (b := q_t) (st := []) (wr := [zaI K q_t_text 48 t_text]) (wj := fun u => [zo 6 q_t [.ref q_t_text, .ref q_t_code, .ref q_t_site, .ref q_t_condition, .ref q_t_actions, .ref q_t_kind, .ref q_t_target, .ref q_t_first, .ref q_t_second, .ref q_t_failures, .ref q_t_met, .ref q_t_there, .ref q_t_on, .ref q_t_compared, .ref q_t_globals, .ref q_t_own, .ref q_t_records, .ref q_t_pile, .ref q_t_handed, .ref q_t_keys, .ref q_t_key, .ref q_t_count, .ref q_t_bins, .ref q_t_operator, .ref q_t_starts, .ref q_t_sum, .ref q_t_least, .ref q_t_greatest, .int t_newSite, .int t_newCondition, .int t_newActions, .int t_size, .int t_place, .int t_pos, .int u.1, .int t_operators, .int t_recorded, .int t_lost, .int t_dropped, .int t_firings, .int t_time, .int t_thread, .int t_thrown, .int t_failed], zaI K q_t_text 48 t_text, zaI K q_t_code 1400 u.2]) C 0 rfl rfl (c_Mo_emit l D K q_t q_t_text q_t_code q_t_site q_t_condition q_t_actions q_t_kind q_t_target q_t_first q_t_second q_t_failures q_t_met q_t_there q_t_on q_t_compared q_t_globals q_t_own q_t_records q_t_pile q_t_handed q_t_keys q_t_key q_t_count q_t_bins q_t_operator q_t_starts q_t_sum q_t_least q_t_greatest t_newSite t_newCondition t_newActions t_size t_place t_pos t_at t_operators t_recorded t_lost t_dropped t_firings t_time t_thread t_thrown t_failed t_code (1 : Int32) y2 hS52.1) (cwV 2 C.2.2.2.2.1 (z_gV wl_Mo_131 wi_Mo_emit wv_Mo_emit wz_Mo wk_Mo_emit) rfl rfl rfl (by decide +kernel) ⟨Nat.le_of_ble_eq_true rfl, Nat.le_of_ble_eq_true rfl⟩) [0, 2] [1] [1, 0, 2] rfl rfl rfl rfl (by decide) (fun _ => rfl) rfl rfl rfl (Nat.le_of_ble_eq_true rfl) d_Mo_unit_71 ⟨Nat.le_of_ble_eq_true rfl, Nat.le_of_ble_eq_true rfl⟩ (fun u54 e55 => ?_)
      obtain ⟨m56, m57⟩ := u54
      refine z_weq (ws' := [zo 6 q_t [.ref q_t_text, .ref q_t_code, .ref q_t_site, .ref q_t_condition, .ref q_t_actions, .ref q_t_kind, .ref q_t_target, .ref q_t_first, .ref q_t_second, .ref q_t_failures, .ref q_t_met, .ref q_t_there, .ref q_t_on, .ref q_t_compared, .ref q_t_globals, .ref q_t_own, .ref q_t_records, .ref q_t_pile, .ref q_t_handed, .ref q_t_keys, .ref q_t_key, .ref q_t_count, .ref q_t_bins, .ref q_t_operator, .ref q_t_starts, .ref q_t_sum, .ref q_t_least, .ref q_t_greatest, .int t_newSite, .int t_newCondition, .int t_newActions, .int t_size, .int t_place, .int t_pos, .int m56, .int t_operators, .int t_recorded, .int t_lost, .int t_dropped, .int t_firings, .int t_time, .int t_thread, .int t_thrown, .int t_failed], zaI K q_t_text 48 t_text, zaI K q_t_code 1400 m57]) rfl ?_
      have hS58 := hS52.2 m56 m57 e55
      refine z_iconst (v := (1 : Int32)) C d_Mo_unit_74 (by decide) ?_
      exact z_zret C hr rfl hlk (t_pos, m56, m57) rfl hS58 d_Mo_unit_75
    · have hS52 := hS0.2 c51
      refine z_aload_n C d_Mo_unit_25 rfl 0 rfl ?_
      refine z_callVi (As := []) (b := q_t) (st := []) (wr := [zaI K q_t_code 1400 t_code]) (wj := fun u => [zo 6 q_t [.ref q_t_text, .ref q_t_code, .ref q_t_site, .ref q_t_condition, .ref q_t_actions, .ref q_t_kind, .ref q_t_target, .ref q_t_first, .ref q_t_second, .ref q_t_failures, .ref q_t_met, .ref q_t_there, .ref q_t_on, .ref q_t_compared, .ref q_t_globals, .ref q_t_own, .ref q_t_records, .ref q_t_pile, .ref q_t_handed, .ref q_t_keys, .ref q_t_key, .ref q_t_count, .ref q_t_bins, .ref q_t_operator, .ref q_t_starts, .ref q_t_sum, .ref q_t_least, .ref q_t_greatest, .int t_newSite, .int t_newCondition, .int t_newActions, .int t_size, .int t_place, .int t_pos, .int t_at, .int t_operators, .int t_recorded, .int t_lost, .int t_dropped, .int t_firings, .int t_time, .int t_thread, .int t_thrown, .int t_failed], zaI K q_t_text 48 t_text, zaI K q_t_code 1400 t_code]) C 0 rfl rfl (c_Mo_look l D K q_t q_t_text q_t_code q_t_site q_t_condition q_t_actions q_t_kind q_t_target q_t_first q_t_second q_t_failures q_t_met q_t_there q_t_on q_t_compared q_t_globals q_t_own q_t_records q_t_pile q_t_handed q_t_keys q_t_key q_t_count q_t_bins q_t_operator q_t_starts q_t_sum q_t_least q_t_greatest t_newSite t_newCondition t_newActions t_size t_place t_pos t_at t_operators t_recorded t_lost t_dropped t_firings t_time t_thread t_thrown t_failed t_text hS52.1) (cwV 0 C.2.2.2.2.1 (z_gV wl_Mo_117 wi_Mo_look wv_Mo_look wz_Mo wk_Mo_look) rfl rfl rfl (by decide +kernel) ⟨Nat.le_of_ble_eq_true rfl, Nat.le_of_ble_eq_true rfl⟩) [0, 1] [2] [1, 2, 0] rfl rfl rfl rfl (by decide) (fun _ => rfl) rfl rfl rfl (Nat.le_of_ble_eq_true rfl) d_Mo_unit_26 ⟨Nat.le_of_ble_eq_true rfl, Nat.le_of_ble_eq_true rfl⟩ (fun r59 u60 e61 => ?_)
      have hS62 := hS52.2 r59 e61
      refine z_bipush (v := (48 : Int32)) C d_Mo_unit_29 (by decide) ?_
      refine z_bipush (v := (57 : Int32)) C d_Mo_unit_31 (by decide) ?_
      refine z_callSi (As := [.int r59, .int (48 : Int32), .int (57 : Int32)]) (st := []) (wr := [zo 6 q_t [.ref q_t_text, .ref q_t_code, .ref q_t_site, .ref q_t_condition, .ref q_t_actions, .ref q_t_kind, .ref q_t_target, .ref q_t_first, .ref q_t_second, .ref q_t_failures, .ref q_t_met, .ref q_t_there, .ref q_t_on, .ref q_t_compared, .ref q_t_globals, .ref q_t_own, .ref q_t_records, .ref q_t_pile, .ref q_t_handed, .ref q_t_keys, .ref q_t_key, .ref q_t_count, .ref q_t_bins, .ref q_t_operator, .ref q_t_starts, .ref q_t_sum, .ref q_t_least, .ref q_t_greatest, .int t_newSite, .int t_newCondition, .int t_newActions, .int t_size, .int t_place, .int t_pos, .int t_at, .int t_operators, .int t_recorded, .int t_lost, .int t_dropped, .int t_firings, .int t_time, .int t_thread, .int t_thrown, .int t_failed], zaI K q_t_text 48 t_text, zaI K q_t_code 1400 t_code]) (wj := fun u => [zo 6 q_t [.ref q_t_text, .ref q_t_code, .ref q_t_site, .ref q_t_condition, .ref q_t_actions, .ref q_t_kind, .ref q_t_target, .ref q_t_first, .ref q_t_second, .ref q_t_failures, .ref q_t_met, .ref q_t_there, .ref q_t_on, .ref q_t_compared, .ref q_t_globals, .ref q_t_own, .ref q_t_records, .ref q_t_pile, .ref q_t_handed, .ref q_t_keys, .ref q_t_key, .ref q_t_count, .ref q_t_bins, .ref q_t_operator, .ref q_t_starts, .ref q_t_sum, .ref q_t_least, .ref q_t_greatest, .int t_newSite, .int t_newCondition, .int t_newActions, .int t_size, .int t_place, .int t_pos, .int t_at, .int t_operators, .int t_recorded, .int t_lost, .int t_dropped, .int t_firings, .int t_time, .int t_thread, .int t_thrown, .int t_failed], zaI K q_t_text 48 t_text, zaI K q_t_code 1400 t_code]) C (c_Mo_in l D K r59 (48 : Int32) (57 : Int32)) (cwS 3 C.2.2.2.2.1 (z_gS wl_Mo_103 ws_Mo_in wz_Mo wk_Mo_in) rfl rfl rfl (by decide +kernel) ⟨Nat.le_of_ble_eq_true rfl, Nat.le_of_ble_eq_true rfl⟩) [] [0, 1, 2] [0, 1, 2] rfl rfl rfl rfl (by decide) (fun _ => rfl) rfl rfl rfl (Nat.le_of_ble_eq_true rfl) d_Mo_unit_33 ⟨Nat.le_of_ble_eq_true rfl, Nat.le_of_ble_eq_true rfl⟩ (fun r63 u64 e65 => ?_)
      have hS66 := hS62 r63 e65
      refine z_if_eq (tgt := 68) C d_Mo_unit_36 (by decide) (fun c67 => ?_) (fun c67 => ?_)
      · have hS68 := hS66.1 c67
        refine z_aload_n C d_Mo_unit_68 rfl 0 rfl ?_
        refine z_iconst (v := (1 : Int32)) C d_Mo_unit_69 (by decide) ?_
        refine z_iload_n C d_Mo_unit_70 rfl 2 rfl ?_
        refine z_callVv (As := [.int (1 : Int32), .int y2]) (b := q_t) (st := []) (wr := [zaI K q_t_text 48 t_text]) (wj := fun u => [zo 6 q_t [.ref q_t_text, .ref q_t_code, .ref q_t_site, .ref q_t_condition, .ref q_t_actions, .ref q_t_kind, .ref q_t_target, .ref q_t_first, .ref q_t_second, .ref q_t_failures, .ref q_t_met, .ref q_t_there, .ref q_t_on, .ref q_t_compared, .ref q_t_globals, .ref q_t_own, .ref q_t_records, .ref q_t_pile, .ref q_t_handed, .ref q_t_keys, .ref q_t_key, .ref q_t_count, .ref q_t_bins, .ref q_t_operator, .ref q_t_starts, .ref q_t_sum, .ref q_t_least, .ref q_t_greatest, .int t_newSite, .int t_newCondition, .int t_newActions, .int t_size, .int t_place, .int t_pos, .int u.1, .int t_operators, .int t_recorded, .int t_lost, .int t_dropped, .int t_firings, .int t_time, .int t_thread, .int t_thrown, .int t_failed], zaI K q_t_text 48 t_text, zaI K q_t_code 1400 u.2]) C 0 rfl rfl (c_Mo_emit l D K q_t q_t_text q_t_code q_t_site q_t_condition q_t_actions q_t_kind q_t_target q_t_first q_t_second q_t_failures q_t_met q_t_there q_t_on q_t_compared q_t_globals q_t_own q_t_records q_t_pile q_t_handed q_t_keys q_t_key q_t_count q_t_bins q_t_operator q_t_starts q_t_sum q_t_least q_t_greatest t_newSite t_newCondition t_newActions t_size t_place t_pos t_at t_operators t_recorded t_lost t_dropped t_firings t_time t_thread t_thrown t_failed t_code (1 : Int32) y2 hS68.1) (cwV 2 C.2.2.2.2.1 (z_gV wl_Mo_131 wi_Mo_emit wv_Mo_emit wz_Mo wk_Mo_emit) rfl rfl rfl (by decide +kernel) ⟨Nat.le_of_ble_eq_true rfl, Nat.le_of_ble_eq_true rfl⟩) [0, 2] [1] [1, 0, 2] rfl rfl rfl rfl (by decide) (fun _ => rfl) rfl rfl rfl (Nat.le_of_ble_eq_true rfl) d_Mo_unit_71 ⟨Nat.le_of_ble_eq_true rfl, Nat.le_of_ble_eq_true rfl⟩ (fun u70 e71 => ?_)
        obtain ⟨m72, m73⟩ := u70
        refine z_weq (ws' := [zo 6 q_t [.ref q_t_text, .ref q_t_code, .ref q_t_site, .ref q_t_condition, .ref q_t_actions, .ref q_t_kind, .ref q_t_target, .ref q_t_first, .ref q_t_second, .ref q_t_failures, .ref q_t_met, .ref q_t_there, .ref q_t_on, .ref q_t_compared, .ref q_t_globals, .ref q_t_own, .ref q_t_records, .ref q_t_pile, .ref q_t_handed, .ref q_t_keys, .ref q_t_key, .ref q_t_count, .ref q_t_bins, .ref q_t_operator, .ref q_t_starts, .ref q_t_sum, .ref q_t_least, .ref q_t_greatest, .int t_newSite, .int t_newCondition, .int t_newActions, .int t_size, .int t_place, .int t_pos, .int m72, .int t_operators, .int t_recorded, .int t_lost, .int t_dropped, .int t_firings, .int t_time, .int t_thread, .int t_thrown, .int t_failed], zaI K q_t_text 48 t_text, zaI K q_t_code 1400 m73]) rfl ?_
        have hS74 := hS68.2 m72 m73 e71
        refine z_iconst (v := (1 : Int32)) C d_Mo_unit_74 (by decide) ?_
        exact z_zret C hr rfl hlk (t_pos, m72, m73) rfl hS74 d_Mo_unit_75
      · have hS68 := hS66.2 c67
        refine z_iload_n C d_Mo_unit_39 rfl 2 rfl ?_
        refine z_bipush (v := (10 : Int32)) C d_Mo_unit_40 (by decide) ?_
        refine z_imul C d_Mo_unit_42 ?_
        refine z_aload_n C d_Mo_unit_43 rfl 0 rfl ?_
        refine z_callVi (As := []) (b := q_t) (st := [.int (y2 * (10 : Int32))]) (wr := [zaI K q_t_code 1400 t_code]) (wj := fun u => [zo 6 q_t [.ref q_t_text, .ref q_t_code, .ref q_t_site, .ref q_t_condition, .ref q_t_actions, .ref q_t_kind, .ref q_t_target, .ref q_t_first, .ref q_t_second, .ref q_t_failures, .ref q_t_met, .ref q_t_there, .ref q_t_on, .ref q_t_compared, .ref q_t_globals, .ref q_t_own, .ref q_t_records, .ref q_t_pile, .ref q_t_handed, .ref q_t_keys, .ref q_t_key, .ref q_t_count, .ref q_t_bins, .ref q_t_operator, .ref q_t_starts, .ref q_t_sum, .ref q_t_least, .ref q_t_greatest, .int t_newSite, .int t_newCondition, .int t_newActions, .int t_size, .int t_place, .int t_pos, .int t_at, .int t_operators, .int t_recorded, .int t_lost, .int t_dropped, .int t_firings, .int t_time, .int t_thread, .int t_thrown, .int t_failed], zaI K q_t_text 48 t_text, zaI K q_t_code 1400 t_code]) C 0 rfl rfl (c_Mo_look l D K q_t q_t_text q_t_code q_t_site q_t_condition q_t_actions q_t_kind q_t_target q_t_first q_t_second q_t_failures q_t_met q_t_there q_t_on q_t_compared q_t_globals q_t_own q_t_records q_t_pile q_t_handed q_t_keys q_t_key q_t_count q_t_bins q_t_operator q_t_starts q_t_sum q_t_least q_t_greatest t_newSite t_newCondition t_newActions t_size t_place t_pos t_at t_operators t_recorded t_lost t_dropped t_firings t_time t_thread t_thrown t_failed t_text hS68.1) (cwV 0 C.2.2.2.2.1 (z_gV wl_Mo_117 wi_Mo_look wv_Mo_look wz_Mo wk_Mo_look) rfl rfl rfl (by decide +kernel) ⟨Nat.le_of_ble_eq_true rfl, Nat.le_of_ble_eq_true rfl⟩) [0, 1] [2] [1, 2, 0] rfl rfl rfl rfl (by decide) (fun _ => rfl) rfl rfl rfl (Nat.le_of_ble_eq_true rfl) d_Mo_unit_44 ⟨Nat.le_of_ble_eq_true rfl, Nat.le_of_ble_eq_true rfl⟩ (fun r75 u76 e77 => ?_)
        have hS78 := hS68.2 r75 e77
        obtain rfl : r59 = r75 := e61.symm.trans e77
        refine z_iadd C d_Mo_unit_47 ?_
        refine z_bipush (v := (48 : Int32)) C d_Mo_unit_48 (by decide) ?_
        refine z_isub C d_Mo_unit_50 ?_
        refine z_istore_n (lv' := [(2, .int (((y2 * (10 : Int32)) + r59) - (48 : Int32))), (0, .ref q_t), (1, .int y1), (3, .int y3)]) C d_Mo_unit_51 rfl (by decide) rfl ?_
        refine z_aload_n C d_Mo_unit_52 rfl 1 rfl ?_
        refine z_dup C d_Mo_unit_53 rfl ?_
        refine z_get C 0 rfl rfl in_Mo 33 (by decide) rfl wf_Mo_114 rfl d_Mo_unit_54 ?_
        refine z_iconst (v := (1 : Int32)) C d_Mo_unit_57 (by decide) ?_
        refine z_iadd C d_Mo_unit_58 ?_
        refine z_put (ty := .int) (ws' := [zo 6 q_t [.ref q_t_text, .ref q_t_code, .ref q_t_site, .ref q_t_condition, .ref q_t_actions, .ref q_t_kind, .ref q_t_target, .ref q_t_first, .ref q_t_second, .ref q_t_failures, .ref q_t_met, .ref q_t_there, .ref q_t_on, .ref q_t_compared, .ref q_t_globals, .ref q_t_own, .ref q_t_records, .ref q_t_pile, .ref q_t_handed, .ref q_t_keys, .ref q_t_key, .ref q_t_count, .ref q_t_bins, .ref q_t_operator, .ref q_t_starts, .ref q_t_sum, .ref q_t_least, .ref q_t_greatest, .int t_newSite, .int t_newCondition, .int t_newActions, .int t_size, .int t_place, .int (t_pos + (1 : Int32)), .int t_at, .int t_operators, .int t_recorded, .int t_lost, .int t_dropped, .int t_firings, .int t_time, .int t_thread, .int t_thrown, .int t_failed], zaI K q_t_text 48 t_text, zaI K q_t_code 1400 t_code]) C ty_Mo to_Mo nm_Mo 0 rfl rfl in_Mo 33 (by decide) rfl wf_Mo_114 rfl rfl rfl rfl (Nat.le_of_ble_eq_true rfl) rfl d_Mo_unit_59 ?_
        refine z_iinc (j := 3) (v := y3 + (1 : Int32)) (lv' := [(3, .int (y3 + (1 : Int32))), (2, .int (((y2 * (10 : Int32)) + r59) - (48 : Int32))), (0, .ref q_t), (1, .int y1)]) C d_Mo_unit_62 rfl rfl (by decide) rfl ?_
        refine z_goto (tgt := 20) C d_Mo_unit_65 (by decide) ?_
        refine z_lpick (lv' := [(0, .ref q_t), (1, .int y1), (2, .int (((y2 * (10 : Int32)) + r59) - (48 : Int32))), (3, .int (y3 + (1 : Int32)))]) [2, 3, 1, 0] rfl ?_
        exact ih y1 (((y2 * (10 : Int32)) + r59) - (48 : Int32)) (y3 + (1 : Int32)) (t_pos + (1 : Int32)) t_at t_code hS78
set_option maxHeartbeats 4000000 in
set_option maxRecDepth 100000 in
theorem cw_Mo_unit (l : Launch) (D : va_G) (K : Nat → ClassId) (q_t : Nat) (q_t_text : Nat) (q_t_code : Nat) (q_t_site : Nat) (q_t_condition : Nat) (q_t_actions : Nat) (q_t_kind : Nat) (q_t_target : Nat) (q_t_first : Nat) (q_t_second : Nat) (q_t_failures : Nat) (q_t_met : Nat) (q_t_there : Nat) (q_t_on : Nat) (q_t_compared : Nat) (q_t_globals : Nat) (q_t_own : Nat) (q_t_records : Nat) (q_t_pile : Nat) (q_t_handed : Nat) (q_t_keys : Nat) (q_t_key : Nat) (q_t_count : Nat) (q_t_bins : Nat) (q_t_operator : Nat) (q_t_starts : Nat) (q_t_sum : Nat) (q_t_least : Nat) (q_t_greatest : Nat) (t_newSite : Int32) (t_newCondition : Int32) (t_newActions : Int32) (t_size : Int32) (t_place : Int32) (t_pos : Int32) (t_at : Int32) (t_operators : Int32) (t_recorded : Int32) (t_lost : Int32) (t_dropped : Int32) (t_firings : Int32) (t_time : Int32) (t_thread : Int32) (t_thrown : Int32) (t_failed : Int32) (t_text : Nat → Int32) (t_code : Nat → Int32) {Q : Int32 → (Int32 × Int32 × (Nat → Int32)) → Prop} (hS0 : WP_Mo_unit t_size t_pos t_at t_text t_code Q) : zCi l y_Mo_unit wy_Mo_unit rm_Mo_unit D zcl (zT K) [.ref q_t] (w_Mo_unit K q_t q_t_text q_t_code q_t_site q_t_condition q_t_actions q_t_kind q_t_target q_t_first q_t_second q_t_failures q_t_met q_t_there q_t_on q_t_compared q_t_globals q_t_own q_t_records q_t_pile q_t_handed q_t_keys q_t_key q_t_count q_t_bins q_t_operator q_t_starts q_t_sum q_t_least q_t_greatest t_newSite t_newCondition t_newActions t_size t_place t_operators t_recorded t_lost t_dropped t_firings t_time t_thread t_thrown t_failed t_text (t_pos, t_at, t_code)) (w_Mo_unit K q_t q_t_text q_t_code q_t_site q_t_condition q_t_actions q_t_kind q_t_target q_t_first q_t_second q_t_failures q_t_met q_t_there q_t_on q_t_compared q_t_globals q_t_own q_t_records q_t_pile q_t_handed q_t_keys q_t_key q_t_count q_t_bins q_t_operator q_t_starts q_t_sum q_t_least q_t_greatest t_newSite t_newCondition t_newActions t_size t_place t_operators t_recorded t_lost t_dropped t_firings t_time t_thread t_thrown t_failed t_text) Q 0 0 := by
  refine z_meti (cc := b_Mo_unit) (maxL := 4) (ret := (some .boolean)) (by decide) rfl (Nat.le_of_ble_eq_true rfl) ?_
  intro p e s m args below meth c A C hr hlk hnm
  refine z_lpick (lv' := [(0, .ref q_t)]) [0] rfl ?_
  refine z_weq (ws' := [zo 6 q_t [.ref q_t_text, .ref q_t_code, .ref q_t_site, .ref q_t_condition, .ref q_t_actions, .ref q_t_kind, .ref q_t_target, .ref q_t_first, .ref q_t_second, .ref q_t_failures, .ref q_t_met, .ref q_t_there, .ref q_t_on, .ref q_t_compared, .ref q_t_globals, .ref q_t_own, .ref q_t_records, .ref q_t_pile, .ref q_t_handed, .ref q_t_keys, .ref q_t_key, .ref q_t_count, .ref q_t_bins, .ref q_t_operator, .ref q_t_starts, .ref q_t_sum, .ref q_t_least, .ref q_t_greatest, .int t_newSite, .int t_newCondition, .int t_newActions, .int t_size, .int t_place, .int t_pos, .int t_at, .int t_operators, .int t_recorded, .int t_lost, .int t_dropped, .int t_firings, .int t_time, .int t_thread, .int t_thrown, .int t_failed], zaI K q_t_text 48 t_text, zaI K q_t_code 1400 t_code]) rfl ?_
  refine z_aload_n C d_Mo_unit_0 rfl 0 rfl ?_
  refine z_callVi (As := []) (b := q_t) (st := []) (wr := [zaI K q_t_code 1400 t_code]) (wj := fun u => [zo 6 q_t [.ref q_t_text, .ref q_t_code, .ref q_t_site, .ref q_t_condition, .ref q_t_actions, .ref q_t_kind, .ref q_t_target, .ref q_t_first, .ref q_t_second, .ref q_t_failures, .ref q_t_met, .ref q_t_there, .ref q_t_on, .ref q_t_compared, .ref q_t_globals, .ref q_t_own, .ref q_t_records, .ref q_t_pile, .ref q_t_handed, .ref q_t_keys, .ref q_t_key, .ref q_t_count, .ref q_t_bins, .ref q_t_operator, .ref q_t_starts, .ref q_t_sum, .ref q_t_least, .ref q_t_greatest, .int t_newSite, .int t_newCondition, .int t_newActions, .int t_size, .int t_place, .int t_pos, .int t_at, .int t_operators, .int t_recorded, .int t_lost, .int t_dropped, .int t_firings, .int t_time, .int t_thread, .int t_thrown, .int t_failed], zaI K q_t_text 48 t_text, zaI K q_t_code 1400 t_code]) C 0 rfl rfl (c_Mo_look l D K q_t q_t_text q_t_code q_t_site q_t_condition q_t_actions q_t_kind q_t_target q_t_first q_t_second q_t_failures q_t_met q_t_there q_t_on q_t_compared q_t_globals q_t_own q_t_records q_t_pile q_t_handed q_t_keys q_t_key q_t_count q_t_bins q_t_operator q_t_starts q_t_sum q_t_least q_t_greatest t_newSite t_newCondition t_newActions t_size t_place t_pos t_at t_operators t_recorded t_lost t_dropped t_firings t_time t_thread t_thrown t_failed t_text hS0.1) (cwV 0 C.2.2.2.2.1 (z_gV wl_Mo_117 wi_Mo_look wv_Mo_look wz_Mo wk_Mo_look) rfl rfl rfl (by decide +kernel) ⟨Nat.le_of_ble_eq_true rfl, Nat.le_of_ble_eq_true rfl⟩) [0, 1] [2] [1, 2, 0] rfl rfl rfl rfl (by decide) (fun _ => rfl) rfl rfl rfl (Nat.le_of_ble_eq_true rfl) d_Mo_unit_1 ⟨Nat.le_of_ble_eq_true rfl, Nat.le_of_ble_eq_true rfl⟩ (fun r1 u2 e3 => ?_)
  have hS4 := hS0.2 r1 e3
  refine z_istore_n (lv' := [(1, .int r1), (0, .ref q_t)]) C d_Mo_unit_4 rfl (by decide) rfl ?_
  refine z_iload_n C d_Mo_unit_5 rfl 0 rfl ?_
  refine z_bipush (v := (48 : Int32)) C d_Mo_unit_6 (by decide) ?_
  refine z_bipush (v := (57 : Int32)) C d_Mo_unit_8 (by decide) ?_
  refine z_callSi (As := [.int r1, .int (48 : Int32), .int (57 : Int32)]) (st := []) (wr := [zo 6 q_t [.ref q_t_text, .ref q_t_code, .ref q_t_site, .ref q_t_condition, .ref q_t_actions, .ref q_t_kind, .ref q_t_target, .ref q_t_first, .ref q_t_second, .ref q_t_failures, .ref q_t_met, .ref q_t_there, .ref q_t_on, .ref q_t_compared, .ref q_t_globals, .ref q_t_own, .ref q_t_records, .ref q_t_pile, .ref q_t_handed, .ref q_t_keys, .ref q_t_key, .ref q_t_count, .ref q_t_bins, .ref q_t_operator, .ref q_t_starts, .ref q_t_sum, .ref q_t_least, .ref q_t_greatest, .int t_newSite, .int t_newCondition, .int t_newActions, .int t_size, .int t_place, .int t_pos, .int t_at, .int t_operators, .int t_recorded, .int t_lost, .int t_dropped, .int t_firings, .int t_time, .int t_thread, .int t_thrown, .int t_failed], zaI K q_t_text 48 t_text, zaI K q_t_code 1400 t_code]) (wj := fun u => [zo 6 q_t [.ref q_t_text, .ref q_t_code, .ref q_t_site, .ref q_t_condition, .ref q_t_actions, .ref q_t_kind, .ref q_t_target, .ref q_t_first, .ref q_t_second, .ref q_t_failures, .ref q_t_met, .ref q_t_there, .ref q_t_on, .ref q_t_compared, .ref q_t_globals, .ref q_t_own, .ref q_t_records, .ref q_t_pile, .ref q_t_handed, .ref q_t_keys, .ref q_t_key, .ref q_t_count, .ref q_t_bins, .ref q_t_operator, .ref q_t_starts, .ref q_t_sum, .ref q_t_least, .ref q_t_greatest, .int t_newSite, .int t_newCondition, .int t_newActions, .int t_size, .int t_place, .int t_pos, .int t_at, .int t_operators, .int t_recorded, .int t_lost, .int t_dropped, .int t_firings, .int t_time, .int t_thread, .int t_thrown, .int t_failed], zaI K q_t_text 48 t_text, zaI K q_t_code 1400 t_code]) C (c_Mo_in l D K r1 (48 : Int32) (57 : Int32)) (cwS 3 C.2.2.2.2.1 (z_gS wl_Mo_103 ws_Mo_in wz_Mo wk_Mo_in) rfl rfl rfl (by decide +kernel) ⟨Nat.le_of_ble_eq_true rfl, Nat.le_of_ble_eq_true rfl⟩) [] [0, 1, 2] [0, 1, 2] rfl rfl rfl rfl (by decide) (fun _ => rfl) rfl rfl rfl (Nat.le_of_ble_eq_true rfl) d_Mo_unit_10 ⟨Nat.le_of_ble_eq_true rfl, Nat.le_of_ble_eq_true rfl⟩ (fun r5 u6 e7 => ?_)
  have hS8 := hS4 r5 e7
  refine z_if_eq (tgt := 76) C d_Mo_unit_13 (by decide) (fun c9 => ?_) (fun c9 => ?_)
  · have hS10 := hS8.1 c9
    refine z_iload_n C d_Mo_unit_76 rfl 0 rfl ?_
    refine z_bipush (v := (97 : Int32)) C d_Mo_unit_77 (by decide) ?_
    refine z_bipush (v := (99 : Int32)) C d_Mo_unit_79 (by decide) ?_
    refine z_callSi (As := [.int r1, .int (97 : Int32), .int (99 : Int32)]) (st := []) (wr := [zo 6 q_t [.ref q_t_text, .ref q_t_code, .ref q_t_site, .ref q_t_condition, .ref q_t_actions, .ref q_t_kind, .ref q_t_target, .ref q_t_first, .ref q_t_second, .ref q_t_failures, .ref q_t_met, .ref q_t_there, .ref q_t_on, .ref q_t_compared, .ref q_t_globals, .ref q_t_own, .ref q_t_records, .ref q_t_pile, .ref q_t_handed, .ref q_t_keys, .ref q_t_key, .ref q_t_count, .ref q_t_bins, .ref q_t_operator, .ref q_t_starts, .ref q_t_sum, .ref q_t_least, .ref q_t_greatest, .int t_newSite, .int t_newCondition, .int t_newActions, .int t_size, .int t_place, .int t_pos, .int t_at, .int t_operators, .int t_recorded, .int t_lost, .int t_dropped, .int t_firings, .int t_time, .int t_thread, .int t_thrown, .int t_failed], zaI K q_t_text 48 t_text, zaI K q_t_code 1400 t_code]) (wj := fun u => [zo 6 q_t [.ref q_t_text, .ref q_t_code, .ref q_t_site, .ref q_t_condition, .ref q_t_actions, .ref q_t_kind, .ref q_t_target, .ref q_t_first, .ref q_t_second, .ref q_t_failures, .ref q_t_met, .ref q_t_there, .ref q_t_on, .ref q_t_compared, .ref q_t_globals, .ref q_t_own, .ref q_t_records, .ref q_t_pile, .ref q_t_handed, .ref q_t_keys, .ref q_t_key, .ref q_t_count, .ref q_t_bins, .ref q_t_operator, .ref q_t_starts, .ref q_t_sum, .ref q_t_least, .ref q_t_greatest, .int t_newSite, .int t_newCondition, .int t_newActions, .int t_size, .int t_place, .int t_pos, .int t_at, .int t_operators, .int t_recorded, .int t_lost, .int t_dropped, .int t_firings, .int t_time, .int t_thread, .int t_thrown, .int t_failed], zaI K q_t_text 48 t_text, zaI K q_t_code 1400 t_code]) C (c_Mo_in l D K r1 (97 : Int32) (99 : Int32)) (cwS 3 C.2.2.2.2.1 (z_gS wl_Mo_103 ws_Mo_in wz_Mo wk_Mo_in) rfl rfl rfl (by decide +kernel) ⟨Nat.le_of_ble_eq_true rfl, Nat.le_of_ble_eq_true rfl⟩) [] [0, 1, 2] [0, 1, 2] rfl rfl rfl rfl (by decide) (fun _ => rfl) rfl rfl rfl (Nat.le_of_ble_eq_true rfl) d_Mo_unit_81 ⟨Nat.le_of_ble_eq_true rfl, Nat.le_of_ble_eq_true rfl⟩ (fun r11 u12 e13 => ?_)
    have hS14 := hS10 r11 e13
    refine z_if_ne (tgt := 112) C d_Mo_unit_84 (by decide) (fun c15 => ?_) (fun c15 => ?_)
    · have hS16 := hS14.1 c15
      refine z_aload_n C d_Mo_unit_112 rfl 1 rfl ?_
      refine z_iconst (v := (2 : Int32)) C d_Mo_unit_113 (by decide) ?_
      refine z_iload_n C d_Mo_unit_114 rfl 0 rfl ?_
      refine z_callVv (As := [.int (2 : Int32), .int r1]) (b := q_t) (st := []) (wr := [zaI K q_t_text 48 t_text]) (wj := fun u => [zo 6 q_t [.ref q_t_text, .ref q_t_code, .ref q_t_site, .ref q_t_condition, .ref q_t_actions, .ref q_t_kind, .ref q_t_target, .ref q_t_first, .ref q_t_second, .ref q_t_failures, .ref q_t_met, .ref q_t_there, .ref q_t_on, .ref q_t_compared, .ref q_t_globals, .ref q_t_own, .ref q_t_records, .ref q_t_pile, .ref q_t_handed, .ref q_t_keys, .ref q_t_key, .ref q_t_count, .ref q_t_bins, .ref q_t_operator, .ref q_t_starts, .ref q_t_sum, .ref q_t_least, .ref q_t_greatest, .int t_newSite, .int t_newCondition, .int t_newActions, .int t_size, .int t_place, .int t_pos, .int u.1, .int t_operators, .int t_recorded, .int t_lost, .int t_dropped, .int t_firings, .int t_time, .int t_thread, .int t_thrown, .int t_failed], zaI K q_t_text 48 t_text, zaI K q_t_code 1400 u.2]) C 0 rfl rfl (c_Mo_emit l D K q_t q_t_text q_t_code q_t_site q_t_condition q_t_actions q_t_kind q_t_target q_t_first q_t_second q_t_failures q_t_met q_t_there q_t_on q_t_compared q_t_globals q_t_own q_t_records q_t_pile q_t_handed q_t_keys q_t_key q_t_count q_t_bins q_t_operator q_t_starts q_t_sum q_t_least q_t_greatest t_newSite t_newCondition t_newActions t_size t_place t_pos t_at t_operators t_recorded t_lost t_dropped t_firings t_time t_thread t_thrown t_failed t_code (2 : Int32) r1 hS16.1) (cwV 2 C.2.2.2.2.1 (z_gV wl_Mo_131 wi_Mo_emit wv_Mo_emit wz_Mo wk_Mo_emit) rfl rfl rfl (by decide +kernel) ⟨Nat.le_of_ble_eq_true rfl, Nat.le_of_ble_eq_true rfl⟩) [0, 2] [1] [1, 0, 2] rfl rfl rfl rfl (by decide) (fun _ => rfl) rfl rfl rfl (Nat.le_of_ble_eq_true rfl) d_Mo_unit_115 ⟨Nat.le_of_ble_eq_true rfl, Nat.le_of_ble_eq_true rfl⟩ (fun u18 e19 => ?_)
      obtain ⟨m20, m21⟩ := u18
      refine z_weq (ws' := [zo 6 q_t [.ref q_t_text, .ref q_t_code, .ref q_t_site, .ref q_t_condition, .ref q_t_actions, .ref q_t_kind, .ref q_t_target, .ref q_t_first, .ref q_t_second, .ref q_t_failures, .ref q_t_met, .ref q_t_there, .ref q_t_on, .ref q_t_compared, .ref q_t_globals, .ref q_t_own, .ref q_t_records, .ref q_t_pile, .ref q_t_handed, .ref q_t_keys, .ref q_t_key, .ref q_t_count, .ref q_t_bins, .ref q_t_operator, .ref q_t_starts, .ref q_t_sum, .ref q_t_least, .ref q_t_greatest, .int t_newSite, .int t_newCondition, .int t_newActions, .int t_size, .int t_place, .int t_pos, .int m20, .int t_operators, .int t_recorded, .int t_lost, .int t_dropped, .int t_firings, .int t_time, .int t_thread, .int t_thrown, .int t_failed], zaI K q_t_text 48 t_text, zaI K q_t_code 1400 m21]) rfl ?_
      have hS22 := hS16.2 m20 m21 e19
      refine z_aload_n C d_Mo_unit_118 rfl 1 rfl ?_
      refine z_dup C d_Mo_unit_119 rfl ?_
      refine z_get C 0 rfl rfl in_Mo 33 (by decide) rfl wf_Mo_114 rfl d_Mo_unit_120 ?_
      refine z_iconst (v := (1 : Int32)) C d_Mo_unit_123 (by decide) ?_
      refine z_iadd C d_Mo_unit_124 ?_
      refine z_put (ty := .int) (ws' := [zo 6 q_t [.ref q_t_text, .ref q_t_code, .ref q_t_site, .ref q_t_condition, .ref q_t_actions, .ref q_t_kind, .ref q_t_target, .ref q_t_first, .ref q_t_second, .ref q_t_failures, .ref q_t_met, .ref q_t_there, .ref q_t_on, .ref q_t_compared, .ref q_t_globals, .ref q_t_own, .ref q_t_records, .ref q_t_pile, .ref q_t_handed, .ref q_t_keys, .ref q_t_key, .ref q_t_count, .ref q_t_bins, .ref q_t_operator, .ref q_t_starts, .ref q_t_sum, .ref q_t_least, .ref q_t_greatest, .int t_newSite, .int t_newCondition, .int t_newActions, .int t_size, .int t_place, .int (t_pos + (1 : Int32)), .int m20, .int t_operators, .int t_recorded, .int t_lost, .int t_dropped, .int t_firings, .int t_time, .int t_thread, .int t_thrown, .int t_failed], zaI K q_t_text 48 t_text, zaI K q_t_code 1400 m21]) C ty_Mo to_Mo nm_Mo 0 rfl rfl in_Mo 33 (by decide) rfl wf_Mo_114 rfl rfl rfl rfl (Nat.le_of_ble_eq_true rfl) rfl d_Mo_unit_125 ?_
      refine z_iconst (v := (1 : Int32)) C d_Mo_unit_128 (by decide) ?_
      exact z_zret C hr rfl hlk (t_pos + (1 : Int32), m20, m21) rfl hS22 d_Mo_unit_129
    · have hS16 := hS14.2 c15
      refine z_iload_n C d_Mo_unit_87 rfl 0 rfl ?_
      refine z_bipush (v := (116 : Int32)) C d_Mo_unit_88 (by decide) ?_
      refine z_icmp_eq (tgt := 112) C d_Mo_unit_90 (by decide) (fun c23 => ?_) (fun c23 => ?_)
      · have hS24 := hS16.1 c23
        refine z_aload_n C d_Mo_unit_112 rfl 1 rfl ?_
        refine z_iconst (v := (2 : Int32)) C d_Mo_unit_113 (by decide) ?_
        refine z_iload_n C d_Mo_unit_114 rfl 0 rfl ?_
        refine z_callVv (As := [.int (2 : Int32), .int r1]) (b := q_t) (st := []) (wr := [zaI K q_t_text 48 t_text]) (wj := fun u => [zo 6 q_t [.ref q_t_text, .ref q_t_code, .ref q_t_site, .ref q_t_condition, .ref q_t_actions, .ref q_t_kind, .ref q_t_target, .ref q_t_first, .ref q_t_second, .ref q_t_failures, .ref q_t_met, .ref q_t_there, .ref q_t_on, .ref q_t_compared, .ref q_t_globals, .ref q_t_own, .ref q_t_records, .ref q_t_pile, .ref q_t_handed, .ref q_t_keys, .ref q_t_key, .ref q_t_count, .ref q_t_bins, .ref q_t_operator, .ref q_t_starts, .ref q_t_sum, .ref q_t_least, .ref q_t_greatest, .int t_newSite, .int t_newCondition, .int t_newActions, .int t_size, .int t_place, .int t_pos, .int u.1, .int t_operators, .int t_recorded, .int t_lost, .int t_dropped, .int t_firings, .int t_time, .int t_thread, .int t_thrown, .int t_failed], zaI K q_t_text 48 t_text, zaI K q_t_code 1400 u.2]) C 0 rfl rfl (c_Mo_emit l D K q_t q_t_text q_t_code q_t_site q_t_condition q_t_actions q_t_kind q_t_target q_t_first q_t_second q_t_failures q_t_met q_t_there q_t_on q_t_compared q_t_globals q_t_own q_t_records q_t_pile q_t_handed q_t_keys q_t_key q_t_count q_t_bins q_t_operator q_t_starts q_t_sum q_t_least q_t_greatest t_newSite t_newCondition t_newActions t_size t_place t_pos t_at t_operators t_recorded t_lost t_dropped t_firings t_time t_thread t_thrown t_failed t_code (2 : Int32) r1 hS24.1) (cwV 2 C.2.2.2.2.1 (z_gV wl_Mo_131 wi_Mo_emit wv_Mo_emit wz_Mo wk_Mo_emit) rfl rfl rfl (by decide +kernel) ⟨Nat.le_of_ble_eq_true rfl, Nat.le_of_ble_eq_true rfl⟩) [0, 2] [1] [1, 0, 2] rfl rfl rfl rfl (by decide) (fun _ => rfl) rfl rfl rfl (Nat.le_of_ble_eq_true rfl) d_Mo_unit_115 ⟨Nat.le_of_ble_eq_true rfl, Nat.le_of_ble_eq_true rfl⟩ (fun u26 e27 => ?_)
        obtain ⟨m28, m29⟩ := u26
        refine z_weq (ws' := [zo 6 q_t [.ref q_t_text, .ref q_t_code, .ref q_t_site, .ref q_t_condition, .ref q_t_actions, .ref q_t_kind, .ref q_t_target, .ref q_t_first, .ref q_t_second, .ref q_t_failures, .ref q_t_met, .ref q_t_there, .ref q_t_on, .ref q_t_compared, .ref q_t_globals, .ref q_t_own, .ref q_t_records, .ref q_t_pile, .ref q_t_handed, .ref q_t_keys, .ref q_t_key, .ref q_t_count, .ref q_t_bins, .ref q_t_operator, .ref q_t_starts, .ref q_t_sum, .ref q_t_least, .ref q_t_greatest, .int t_newSite, .int t_newCondition, .int t_newActions, .int t_size, .int t_place, .int t_pos, .int m28, .int t_operators, .int t_recorded, .int t_lost, .int t_dropped, .int t_firings, .int t_time, .int t_thread, .int t_thrown, .int t_failed], zaI K q_t_text 48 t_text, zaI K q_t_code 1400 m29]) rfl ?_
        have hS30 := hS24.2 m28 m29 e27
        refine z_aload_n C d_Mo_unit_118 rfl 1 rfl ?_
        refine z_dup C d_Mo_unit_119 rfl ?_
        refine z_get C 0 rfl rfl in_Mo 33 (by decide) rfl wf_Mo_114 rfl d_Mo_unit_120 ?_
        refine z_iconst (v := (1 : Int32)) C d_Mo_unit_123 (by decide) ?_
        refine z_iadd C d_Mo_unit_124 ?_
        refine z_put (ty := .int) (ws' := [zo 6 q_t [.ref q_t_text, .ref q_t_code, .ref q_t_site, .ref q_t_condition, .ref q_t_actions, .ref q_t_kind, .ref q_t_target, .ref q_t_first, .ref q_t_second, .ref q_t_failures, .ref q_t_met, .ref q_t_there, .ref q_t_on, .ref q_t_compared, .ref q_t_globals, .ref q_t_own, .ref q_t_records, .ref q_t_pile, .ref q_t_handed, .ref q_t_keys, .ref q_t_key, .ref q_t_count, .ref q_t_bins, .ref q_t_operator, .ref q_t_starts, .ref q_t_sum, .ref q_t_least, .ref q_t_greatest, .int t_newSite, .int t_newCondition, .int t_newActions, .int t_size, .int t_place, .int (t_pos + (1 : Int32)), .int m28, .int t_operators, .int t_recorded, .int t_lost, .int t_dropped, .int t_firings, .int t_time, .int t_thread, .int t_thrown, .int t_failed], zaI K q_t_text 48 t_text, zaI K q_t_code 1400 m29]) C ty_Mo to_Mo nm_Mo 0 rfl rfl in_Mo 33 (by decide) rfl wf_Mo_114 rfl rfl rfl rfl (Nat.le_of_ble_eq_true rfl) rfl d_Mo_unit_125 ?_
        refine z_iconst (v := (1 : Int32)) C d_Mo_unit_128 (by decide) ?_
        exact z_zret C hr rfl hlk (t_pos + (1 : Int32), m28, m29) rfl hS30 d_Mo_unit_129
      · have hS24 := hS16.2 c23
        refine z_iload_n C d_Mo_unit_93 rfl 0 rfl ?_
        refine z_bipush (v := (107 : Int32)) C d_Mo_unit_94 (by decide) ?_
        refine z_icmp_eq (tgt := 112) C d_Mo_unit_96 (by decide) (fun c31 => ?_) (fun c31 => ?_)
        · have hS32 := hS24.1 c31
          refine z_aload_n C d_Mo_unit_112 rfl 1 rfl ?_
          refine z_iconst (v := (2 : Int32)) C d_Mo_unit_113 (by decide) ?_
          refine z_iload_n C d_Mo_unit_114 rfl 0 rfl ?_
          refine z_callVv (As := [.int (2 : Int32), .int r1]) (b := q_t) (st := []) (wr := [zaI K q_t_text 48 t_text]) (wj := fun u => [zo 6 q_t [.ref q_t_text, .ref q_t_code, .ref q_t_site, .ref q_t_condition, .ref q_t_actions, .ref q_t_kind, .ref q_t_target, .ref q_t_first, .ref q_t_second, .ref q_t_failures, .ref q_t_met, .ref q_t_there, .ref q_t_on, .ref q_t_compared, .ref q_t_globals, .ref q_t_own, .ref q_t_records, .ref q_t_pile, .ref q_t_handed, .ref q_t_keys, .ref q_t_key, .ref q_t_count, .ref q_t_bins, .ref q_t_operator, .ref q_t_starts, .ref q_t_sum, .ref q_t_least, .ref q_t_greatest, .int t_newSite, .int t_newCondition, .int t_newActions, .int t_size, .int t_place, .int t_pos, .int u.1, .int t_operators, .int t_recorded, .int t_lost, .int t_dropped, .int t_firings, .int t_time, .int t_thread, .int t_thrown, .int t_failed], zaI K q_t_text 48 t_text, zaI K q_t_code 1400 u.2]) C 0 rfl rfl (c_Mo_emit l D K q_t q_t_text q_t_code q_t_site q_t_condition q_t_actions q_t_kind q_t_target q_t_first q_t_second q_t_failures q_t_met q_t_there q_t_on q_t_compared q_t_globals q_t_own q_t_records q_t_pile q_t_handed q_t_keys q_t_key q_t_count q_t_bins q_t_operator q_t_starts q_t_sum q_t_least q_t_greatest t_newSite t_newCondition t_newActions t_size t_place t_pos t_at t_operators t_recorded t_lost t_dropped t_firings t_time t_thread t_thrown t_failed t_code (2 : Int32) r1 hS32.1) (cwV 2 C.2.2.2.2.1 (z_gV wl_Mo_131 wi_Mo_emit wv_Mo_emit wz_Mo wk_Mo_emit) rfl rfl rfl (by decide +kernel) ⟨Nat.le_of_ble_eq_true rfl, Nat.le_of_ble_eq_true rfl⟩) [0, 2] [1] [1, 0, 2] rfl rfl rfl rfl (by decide) (fun _ => rfl) rfl rfl rfl (Nat.le_of_ble_eq_true rfl) d_Mo_unit_115 ⟨Nat.le_of_ble_eq_true rfl, Nat.le_of_ble_eq_true rfl⟩ (fun u34 e35 => ?_)
          obtain ⟨m36, m37⟩ := u34
          refine z_weq (ws' := [zo 6 q_t [.ref q_t_text, .ref q_t_code, .ref q_t_site, .ref q_t_condition, .ref q_t_actions, .ref q_t_kind, .ref q_t_target, .ref q_t_first, .ref q_t_second, .ref q_t_failures, .ref q_t_met, .ref q_t_there, .ref q_t_on, .ref q_t_compared, .ref q_t_globals, .ref q_t_own, .ref q_t_records, .ref q_t_pile, .ref q_t_handed, .ref q_t_keys, .ref q_t_key, .ref q_t_count, .ref q_t_bins, .ref q_t_operator, .ref q_t_starts, .ref q_t_sum, .ref q_t_least, .ref q_t_greatest, .int t_newSite, .int t_newCondition, .int t_newActions, .int t_size, .int t_place, .int t_pos, .int m36, .int t_operators, .int t_recorded, .int t_lost, .int t_dropped, .int t_firings, .int t_time, .int t_thread, .int t_thrown, .int t_failed], zaI K q_t_text 48 t_text, zaI K q_t_code 1400 m37]) rfl ?_
          have hS38 := hS32.2 m36 m37 e35
          refine z_aload_n C d_Mo_unit_118 rfl 1 rfl ?_
          refine z_dup C d_Mo_unit_119 rfl ?_
          refine z_get C 0 rfl rfl in_Mo 33 (by decide) rfl wf_Mo_114 rfl d_Mo_unit_120 ?_
          refine z_iconst (v := (1 : Int32)) C d_Mo_unit_123 (by decide) ?_
          refine z_iadd C d_Mo_unit_124 ?_
          refine z_put (ty := .int) (ws' := [zo 6 q_t [.ref q_t_text, .ref q_t_code, .ref q_t_site, .ref q_t_condition, .ref q_t_actions, .ref q_t_kind, .ref q_t_target, .ref q_t_first, .ref q_t_second, .ref q_t_failures, .ref q_t_met, .ref q_t_there, .ref q_t_on, .ref q_t_compared, .ref q_t_globals, .ref q_t_own, .ref q_t_records, .ref q_t_pile, .ref q_t_handed, .ref q_t_keys, .ref q_t_key, .ref q_t_count, .ref q_t_bins, .ref q_t_operator, .ref q_t_starts, .ref q_t_sum, .ref q_t_least, .ref q_t_greatest, .int t_newSite, .int t_newCondition, .int t_newActions, .int t_size, .int t_place, .int (t_pos + (1 : Int32)), .int m36, .int t_operators, .int t_recorded, .int t_lost, .int t_dropped, .int t_firings, .int t_time, .int t_thread, .int t_thrown, .int t_failed], zaI K q_t_text 48 t_text, zaI K q_t_code 1400 m37]) C ty_Mo to_Mo nm_Mo 0 rfl rfl in_Mo 33 (by decide) rfl wf_Mo_114 rfl rfl rfl rfl (Nat.le_of_ble_eq_true rfl) rfl d_Mo_unit_125 ?_
          refine z_iconst (v := (1 : Int32)) C d_Mo_unit_128 (by decide) ?_
          exact z_zret C hr rfl hlk (t_pos + (1 : Int32), m36, m37) rfl hS38 d_Mo_unit_129
        · have hS32 := hS24.2 c31
          refine z_iload_n C d_Mo_unit_99 rfl 0 rfl ?_
          refine z_bipush (v := (117 : Int32)) C d_Mo_unit_100 (by decide) ?_
          refine z_bipush (v := (122 : Int32)) C d_Mo_unit_102 (by decide) ?_
          refine z_callSi (As := [.int r1, .int (117 : Int32), .int (122 : Int32)]) (st := []) (wr := [zo 6 q_t [.ref q_t_text, .ref q_t_code, .ref q_t_site, .ref q_t_condition, .ref q_t_actions, .ref q_t_kind, .ref q_t_target, .ref q_t_first, .ref q_t_second, .ref q_t_failures, .ref q_t_met, .ref q_t_there, .ref q_t_on, .ref q_t_compared, .ref q_t_globals, .ref q_t_own, .ref q_t_records, .ref q_t_pile, .ref q_t_handed, .ref q_t_keys, .ref q_t_key, .ref q_t_count, .ref q_t_bins, .ref q_t_operator, .ref q_t_starts, .ref q_t_sum, .ref q_t_least, .ref q_t_greatest, .int t_newSite, .int t_newCondition, .int t_newActions, .int t_size, .int t_place, .int t_pos, .int t_at, .int t_operators, .int t_recorded, .int t_lost, .int t_dropped, .int t_firings, .int t_time, .int t_thread, .int t_thrown, .int t_failed], zaI K q_t_text 48 t_text, zaI K q_t_code 1400 t_code]) (wj := fun u => [zo 6 q_t [.ref q_t_text, .ref q_t_code, .ref q_t_site, .ref q_t_condition, .ref q_t_actions, .ref q_t_kind, .ref q_t_target, .ref q_t_first, .ref q_t_second, .ref q_t_failures, .ref q_t_met, .ref q_t_there, .ref q_t_on, .ref q_t_compared, .ref q_t_globals, .ref q_t_own, .ref q_t_records, .ref q_t_pile, .ref q_t_handed, .ref q_t_keys, .ref q_t_key, .ref q_t_count, .ref q_t_bins, .ref q_t_operator, .ref q_t_starts, .ref q_t_sum, .ref q_t_least, .ref q_t_greatest, .int t_newSite, .int t_newCondition, .int t_newActions, .int t_size, .int t_place, .int t_pos, .int t_at, .int t_operators, .int t_recorded, .int t_lost, .int t_dropped, .int t_firings, .int t_time, .int t_thread, .int t_thrown, .int t_failed], zaI K q_t_text 48 t_text, zaI K q_t_code 1400 t_code]) C (c_Mo_in l D K r1 (117 : Int32) (122 : Int32)) (cwS 3 C.2.2.2.2.1 (z_gS wl_Mo_103 ws_Mo_in wz_Mo wk_Mo_in) rfl rfl rfl (by decide +kernel) ⟨Nat.le_of_ble_eq_true rfl, Nat.le_of_ble_eq_true rfl⟩) [] [0, 1, 2] [0, 1, 2] rfl rfl rfl rfl (by decide) (fun _ => rfl) rfl rfl rfl (Nat.le_of_ble_eq_true rfl) d_Mo_unit_104 ⟨Nat.le_of_ble_eq_true rfl, Nat.le_of_ble_eq_true rfl⟩ (fun r39 u40 e41 => ?_)
          have hS42 := hS32 r39 e41
          refine z_if_ne (tgt := 112) C d_Mo_unit_107 (by decide) (fun c43 => ?_) (fun c43 => ?_)
          · have hS44 := hS42.1 c43
            refine z_aload_n C d_Mo_unit_112 rfl 1 rfl ?_
            refine z_iconst (v := (2 : Int32)) C d_Mo_unit_113 (by decide) ?_
            refine z_iload_n C d_Mo_unit_114 rfl 0 rfl ?_
            refine z_callVv (As := [.int (2 : Int32), .int r1]) (b := q_t) (st := []) (wr := [zaI K q_t_text 48 t_text]) (wj := fun u => [zo 6 q_t [.ref q_t_text, .ref q_t_code, .ref q_t_site, .ref q_t_condition, .ref q_t_actions, .ref q_t_kind, .ref q_t_target, .ref q_t_first, .ref q_t_second, .ref q_t_failures, .ref q_t_met, .ref q_t_there, .ref q_t_on, .ref q_t_compared, .ref q_t_globals, .ref q_t_own, .ref q_t_records, .ref q_t_pile, .ref q_t_handed, .ref q_t_keys, .ref q_t_key, .ref q_t_count, .ref q_t_bins, .ref q_t_operator, .ref q_t_starts, .ref q_t_sum, .ref q_t_least, .ref q_t_greatest, .int t_newSite, .int t_newCondition, .int t_newActions, .int t_size, .int t_place, .int t_pos, .int u.1, .int t_operators, .int t_recorded, .int t_lost, .int t_dropped, .int t_firings, .int t_time, .int t_thread, .int t_thrown, .int t_failed], zaI K q_t_text 48 t_text, zaI K q_t_code 1400 u.2]) C 0 rfl rfl (c_Mo_emit l D K q_t q_t_text q_t_code q_t_site q_t_condition q_t_actions q_t_kind q_t_target q_t_first q_t_second q_t_failures q_t_met q_t_there q_t_on q_t_compared q_t_globals q_t_own q_t_records q_t_pile q_t_handed q_t_keys q_t_key q_t_count q_t_bins q_t_operator q_t_starts q_t_sum q_t_least q_t_greatest t_newSite t_newCondition t_newActions t_size t_place t_pos t_at t_operators t_recorded t_lost t_dropped t_firings t_time t_thread t_thrown t_failed t_code (2 : Int32) r1 hS44.1) (cwV 2 C.2.2.2.2.1 (z_gV wl_Mo_131 wi_Mo_emit wv_Mo_emit wz_Mo wk_Mo_emit) rfl rfl rfl (by decide +kernel) ⟨Nat.le_of_ble_eq_true rfl, Nat.le_of_ble_eq_true rfl⟩) [0, 2] [1] [1, 0, 2] rfl rfl rfl rfl (by decide) (fun _ => rfl) rfl rfl rfl (Nat.le_of_ble_eq_true rfl) d_Mo_unit_115 ⟨Nat.le_of_ble_eq_true rfl, Nat.le_of_ble_eq_true rfl⟩ (fun u46 e47 => ?_)
            obtain ⟨m48, m49⟩ := u46
            refine z_weq (ws' := [zo 6 q_t [.ref q_t_text, .ref q_t_code, .ref q_t_site, .ref q_t_condition, .ref q_t_actions, .ref q_t_kind, .ref q_t_target, .ref q_t_first, .ref q_t_second, .ref q_t_failures, .ref q_t_met, .ref q_t_there, .ref q_t_on, .ref q_t_compared, .ref q_t_globals, .ref q_t_own, .ref q_t_records, .ref q_t_pile, .ref q_t_handed, .ref q_t_keys, .ref q_t_key, .ref q_t_count, .ref q_t_bins, .ref q_t_operator, .ref q_t_starts, .ref q_t_sum, .ref q_t_least, .ref q_t_greatest, .int t_newSite, .int t_newCondition, .int t_newActions, .int t_size, .int t_place, .int t_pos, .int m48, .int t_operators, .int t_recorded, .int t_lost, .int t_dropped, .int t_firings, .int t_time, .int t_thread, .int t_thrown, .int t_failed], zaI K q_t_text 48 t_text, zaI K q_t_code 1400 m49]) rfl ?_
            have hS50 := hS44.2 m48 m49 e47
            refine z_aload_n C d_Mo_unit_118 rfl 1 rfl ?_
            refine z_dup C d_Mo_unit_119 rfl ?_
            refine z_get C 0 rfl rfl in_Mo 33 (by decide) rfl wf_Mo_114 rfl d_Mo_unit_120 ?_
            refine z_iconst (v := (1 : Int32)) C d_Mo_unit_123 (by decide) ?_
            refine z_iadd C d_Mo_unit_124 ?_
            refine z_put (ty := .int) (ws' := [zo 6 q_t [.ref q_t_text, .ref q_t_code, .ref q_t_site, .ref q_t_condition, .ref q_t_actions, .ref q_t_kind, .ref q_t_target, .ref q_t_first, .ref q_t_second, .ref q_t_failures, .ref q_t_met, .ref q_t_there, .ref q_t_on, .ref q_t_compared, .ref q_t_globals, .ref q_t_own, .ref q_t_records, .ref q_t_pile, .ref q_t_handed, .ref q_t_keys, .ref q_t_key, .ref q_t_count, .ref q_t_bins, .ref q_t_operator, .ref q_t_starts, .ref q_t_sum, .ref q_t_least, .ref q_t_greatest, .int t_newSite, .int t_newCondition, .int t_newActions, .int t_size, .int t_place, .int (t_pos + (1 : Int32)), .int m48, .int t_operators, .int t_recorded, .int t_lost, .int t_dropped, .int t_firings, .int t_time, .int t_thread, .int t_thrown, .int t_failed], zaI K q_t_text 48 t_text, zaI K q_t_code 1400 m49]) C ty_Mo to_Mo nm_Mo 0 rfl rfl in_Mo 33 (by decide) rfl wf_Mo_114 rfl rfl rfl rfl (Nat.le_of_ble_eq_true rfl) rfl d_Mo_unit_125 ?_
            refine z_iconst (v := (1 : Int32)) C d_Mo_unit_128 (by decide) ?_
            exact z_zret C hr rfl hlk (t_pos + (1 : Int32), m48, m49) rfl hS50 d_Mo_unit_129
          · have hS44 := hS42.2 c43
            refine z_iconst (v := (0 : Int32)) C d_Mo_unit_110 (by decide) ?_
            exact z_zret C hr rfl hlk (t_pos, t_at, t_code) rfl hS44 d_Mo_unit_111
  · have hS10 := hS8.2 c9
    refine z_iconst (v := (0 : Int32)) C d_Mo_unit_16 (by decide) ?_
    refine z_istore_n (lv' := [(2, .int (0 : Int32)), (1, .int r1), (0, .ref q_t)]) C d_Mo_unit_17 rfl (by decide) rfl ?_
    refine z_iconst (v := (0 : Int32)) C d_Mo_unit_18 (by decide) ?_
    refine z_istore_n (lv' := [(3, .int (0 : Int32)), (2, .int (0 : Int32)), (1, .int r1), (0, .ref q_t)]) C d_Mo_unit_19 rfl (by decide) rfl ?_
    refine z_lpick (lv' := [(0, .ref q_t), (1, .int r1), (2, .int (0 : Int32)), (3, .int (0 : Int32))]) [3, 2, 1, 0] rfl ?_
    exact lw_Mo_unit_L20 l D K q_t q_t_text q_t_code q_t_site q_t_condition q_t_actions q_t_kind q_t_target q_t_first q_t_second q_t_failures q_t_met q_t_there q_t_on q_t_compared q_t_globals q_t_own q_t_records q_t_pile q_t_handed q_t_keys q_t_key q_t_count q_t_bins q_t_operator q_t_starts q_t_sum q_t_least q_t_greatest t_newSite t_newCondition t_newActions t_size t_place t_operators t_recorded t_lost t_dropped t_firings t_time t_thread t_thrown t_failed t_text C hr hlk 600 r1 (0 : Int32) (0 : Int32) t_pos t_at t_code hS10
def s_Mo_unit_L20 : Nat → Int32 → Int32 → Int32 → Int32 → Int32 → Int32 → (Nat → Int32) → (Nat → Int32) → Int32 × Int32 × Int32 × (Nat → Int32)
  | 0, _, _, _, _, t_pos, t_at, _, t_code => (0, t_pos, t_at, t_code)
  | n + 1, y1, y2, y3, t_size, t_pos, t_at, t_text, t_code => (if (3 : Int32) ≤ y3 then (zl2 (s_Mo_emit t_at t_code (1 : Int32) y2) (fun m56 m57 => ((1 : Int32), t_pos, m56, m57))) else (zl1 (s_Mo_look t_size t_pos t_text) fun r59 => (zl1 (s_Mo_in r59 (48 : Int32) (57 : Int32)) fun r63 => (if r63 = 0 then (zl2 (s_Mo_emit t_at t_code (1 : Int32) y2) (fun m72 m73 => ((1 : Int32), t_pos, m72, m73))) else (zl1 (s_Mo_look t_size t_pos t_text) fun r75 => s_Mo_unit_L20 n y1 (((y2 * (10 : Int32)) + r59) - (48 : Int32)) (y3 + (1 : Int32)) t_size (t_pos + (1 : Int32)) t_at t_text t_code)))))
def s_Mo_unit (t_size : Int32) (t_pos : Int32) (t_at : Int32) (t_text : Nat → Int32) (t_code : Nat → Int32) : Int32 × Int32 × Int32 × (Nat → Int32) := (zl1 (s_Mo_look t_size t_pos t_text) fun r1 => (zl1 (s_Mo_in r1 (48 : Int32) (57 : Int32)) fun r5 => (if r5 = 0 then (zl1 (s_Mo_in r1 (97 : Int32) (99 : Int32)) fun r11 => (if r11 = 0 then (if r1 = (116 : Int32) then (zl2 (s_Mo_emit t_at t_code (2 : Int32) r1) (fun m28 m29 => ((1 : Int32), t_pos + (1 : Int32), m28, m29))) else (if r1 = (107 : Int32) then (zl2 (s_Mo_emit t_at t_code (2 : Int32) r1) (fun m36 m37 => ((1 : Int32), t_pos + (1 : Int32), m36, m37))) else (zl1 (s_Mo_in r1 (117 : Int32) (122 : Int32)) fun r39 => (if r39 = 0 then ((0 : Int32), t_pos, t_at, t_code) else (zl2 (s_Mo_emit t_at t_code (2 : Int32) r1) (fun m48 m49 => ((1 : Int32), t_pos + (1 : Int32), m48, m49))))))) else (zl2 (s_Mo_emit t_at t_code (2 : Int32) r1) (fun m20 m21 => ((1 : Int32), t_pos + (1 : Int32), m20, m21))))) else s_Mo_unit_L20 600 r1 (0 : Int32) (0 : Int32) t_size t_pos t_at t_text t_code)))
def p_Mo_unit (t_size : Int32) (t_pos : Int32) (t_at : Int32) (t_text : Nat → Int32) (t_code : Nat → Int32) : Prop := WP_Mo_unit t_size t_pos t_at t_text t_code (fun _ _ => True)
set_option maxRecDepth 100000 in
theorem v_Mo_unit_L20 : ∀ (n : Nat) (y1 : Int32) (y2 : Int32) (y3 : Int32) (t_size : Int32) (t_pos : Int32) (t_at : Int32) (t_text : Nat → Int32) (t_code : Nat → Int32) (tgt : Int32 × Int32 × Int32 × (Nat → Int32)), s_Mo_unit_L20 n y1 y2 y3 t_size t_pos t_at t_text t_code = tgt → WP_Mo_unit_L20 n y1 y2 y3 t_size t_pos t_at t_text t_code (fun _ _ => True) → WP_Mo_unit_L20 n y1 y2 y3 t_size t_pos t_at t_text t_code (fun r u => tgt = (r, u.1, u.2.1, u.2.2)) := by
  intro n
  induction n with
  | zero => intros; contradiction
  | succ n ih =>
    intro y1 y2 y3 t_size t_pos t_at t_text t_code tgt f0 hp
    unfold s_Mo_unit_L20 at f0
    unfold WP_Mo_unit_L20 at hp ⊢
    refine ⟨fun c51 => ?_, fun c51 => ?_⟩
    · have f1 := Eq.trans (Eq.symm (if_pos c51)) f0
      have g1 := hp.1 c51
      refine ⟨g1.1, ?_⟩
      have g3 := g1.2
      intro m56 m57 e55
      have g2 := g3 m56 m57 e55
      have f2 := Eq.trans (Eq.symm (zl2_eq e55)) f1
      exact f2.symm
    · have f1 := Eq.trans (Eq.symm (if_neg c51)) f0
      have g1 := hp.2 c51
      refine ⟨g1.1, ?_⟩
      have g5 := g1.2
      intro r59 e61
      have g4 := g5 r59 e61
      have f4 := Eq.trans (Eq.symm (zl1_eq e61)) f1
      intro r63 e65
      have g6 := g4 r63 e65
      have f6 := Eq.trans (Eq.symm (zl1_eq e65)) f4
      refine ⟨fun c67 => ?_, fun c67 => ?_⟩
      · have f7 := Eq.trans (Eq.symm (if_pos c67)) f6
        have g7 := g6.1 c67
        refine ⟨g7.1, ?_⟩
        have g9 := g7.2
        intro m72 m73 e71
        have g8 := g9 m72 m73 e71
        have f8 := Eq.trans (Eq.symm (zl2_eq e71)) f7
        exact f8.symm
      · have f7 := Eq.trans (Eq.symm (if_neg c67)) f6
        have g7 := g6.2 c67
        refine ⟨g7.1, ?_⟩
        have g11 := g7.2
        intro r75 e77
        have g10 := g11 r75 e77
        have f10 := Eq.trans (Eq.symm (zl1_eq e77)) f7
        exact ih y1 (((y2 * (10 : Int32)) + r59) - (48 : Int32)) (y3 + (1 : Int32)) t_size (t_pos + (1 : Int32)) t_at t_text t_code _ f10 g10
set_option maxRecDepth 100000 in
theorem v_Mo_unit (t_size : Int32) (t_pos : Int32) (t_at : Int32) (t_text : Nat → Int32) (t_code : Nat → Int32) (hp : p_Mo_unit t_size t_pos t_at t_text t_code) : WP_Mo_unit t_size t_pos t_at t_text t_code (fun r u => s_Mo_unit t_size t_pos t_at t_text t_code = (r, u.1, u.2.1, u.2.2)) := by
  unfold p_Mo_unit WP_Mo_unit at hp
  obtain ⟨tgt, f0⟩ : ∃ tgt, s_Mo_unit t_size t_pos t_at t_text t_code = tgt := ⟨_, rfl⟩
  rw [f0]
  unfold s_Mo_unit at f0
  unfold WP_Mo_unit
  refine ⟨hp.1, ?_⟩
  have g2 := hp.2
  intro r1 e3
  have g1 := g2 r1 e3
  have f1 := Eq.trans (Eq.symm (zl1_eq e3)) f0
  intro r5 e7
  have g3 := g1 r5 e7
  have f3 := Eq.trans (Eq.symm (zl1_eq e7)) f1
  refine ⟨fun c9 => ?_, fun c9 => ?_⟩
  · have f4 := Eq.trans (Eq.symm (if_pos c9)) f3
    have g4 := g3.1 c9
    intro r11 e13
    have g5 := g4 r11 e13
    have f5 := Eq.trans (Eq.symm (zl1_eq e13)) f4
    refine ⟨fun c15 => ?_, fun c15 => ?_⟩
    · have f6 := Eq.trans (Eq.symm (if_neg c15)) f5
      have g6 := g5.1 c15
      refine ⟨g6.1, ?_⟩
      have g8 := g6.2
      intro m20 m21 e19
      have g7 := g8 m20 m21 e19
      have f7 := Eq.trans (Eq.symm (zl2_eq e19)) f6
      exact f7.symm
    · have f6 := Eq.trans (Eq.symm (if_pos c15)) f5
      have g6 := g5.2 c15
      refine ⟨fun c23 => ?_, fun c23 => ?_⟩
      · have f9 := Eq.trans (Eq.symm (if_pos c23)) f6
        have g9 := g6.1 c23
        refine ⟨g9.1, ?_⟩
        have g11 := g9.2
        intro m28 m29 e27
        have g10 := g11 m28 m29 e27
        have f10 := Eq.trans (Eq.symm (zl2_eq e27)) f9
        exact f10.symm
      · have f9 := Eq.trans (Eq.symm (if_neg c23)) f6
        have g9 := g6.2 c23
        refine ⟨fun c31 => ?_, fun c31 => ?_⟩
        · have f12 := Eq.trans (Eq.symm (if_pos c31)) f9
          have g12 := g9.1 c31
          refine ⟨g12.1, ?_⟩
          have g14 := g12.2
          intro m36 m37 e35
          have g13 := g14 m36 m37 e35
          have f13 := Eq.trans (Eq.symm (zl2_eq e35)) f12
          exact f13.symm
        · have f12 := Eq.trans (Eq.symm (if_neg c31)) f9
          have g12 := g9.2 c31
          intro r39 e41
          have g15 := g12 r39 e41
          have f15 := Eq.trans (Eq.symm (zl1_eq e41)) f12
          refine ⟨fun c43 => ?_, fun c43 => ?_⟩
          · have f16 := Eq.trans (Eq.symm (if_neg c43)) f15
            have g16 := g15.1 c43
            refine ⟨g16.1, ?_⟩
            have g18 := g16.2
            intro m48 m49 e47
            have g17 := g18 m48 m49 e47
            have f17 := Eq.trans (Eq.symm (zl2_eq e47)) f16
            exact f17.symm
          · have f16 := Eq.trans (Eq.symm (if_pos c43)) f15
            have g16 := g15.2 c43
            exact f16.symm
  · have f4 := Eq.trans (Eq.symm (if_neg c9)) f3
    have g4 := g3.2 c9
    exact v_Mo_unit_L20 600 r1 (0 : Int32) (0 : Int32) t_size t_pos t_at t_text t_code _ f4 g4
theorem c_Mo_unit (l : Launch) (D : va_G) (K : Nat → ClassId) (q_t : Nat) (q_t_text : Nat) (q_t_code : Nat) (q_t_site : Nat) (q_t_condition : Nat) (q_t_actions : Nat) (q_t_kind : Nat) (q_t_target : Nat) (q_t_first : Nat) (q_t_second : Nat) (q_t_failures : Nat) (q_t_met : Nat) (q_t_there : Nat) (q_t_on : Nat) (q_t_compared : Nat) (q_t_globals : Nat) (q_t_own : Nat) (q_t_records : Nat) (q_t_pile : Nat) (q_t_handed : Nat) (q_t_keys : Nat) (q_t_key : Nat) (q_t_count : Nat) (q_t_bins : Nat) (q_t_operator : Nat) (q_t_starts : Nat) (q_t_sum : Nat) (q_t_least : Nat) (q_t_greatest : Nat) (t_newSite : Int32) (t_newCondition : Int32) (t_newActions : Int32) (t_size : Int32) (t_place : Int32) (t_pos : Int32) (t_at : Int32) (t_operators : Int32) (t_recorded : Int32) (t_lost : Int32) (t_dropped : Int32) (t_firings : Int32) (t_time : Int32) (t_thread : Int32) (t_thrown : Int32) (t_failed : Int32) (t_text : Nat → Int32) (t_code : Nat → Int32) (hp : p_Mo_unit t_size t_pos t_at t_text t_code) : zCi l y_Mo_unit wy_Mo_unit rm_Mo_unit D zcl (zT K) [.ref q_t] (w_Mo_unit K q_t q_t_text q_t_code q_t_site q_t_condition q_t_actions q_t_kind q_t_target q_t_first q_t_second q_t_failures q_t_met q_t_there q_t_on q_t_compared q_t_globals q_t_own q_t_records q_t_pile q_t_handed q_t_keys q_t_key q_t_count q_t_bins q_t_operator q_t_starts q_t_sum q_t_least q_t_greatest t_newSite t_newCondition t_newActions t_size t_place t_operators t_recorded t_lost t_dropped t_firings t_time t_thread t_thrown t_failed t_text (t_pos, t_at, t_code)) (w_Mo_unit K q_t q_t_text q_t_code q_t_site q_t_condition q_t_actions q_t_kind q_t_target q_t_first q_t_second q_t_failures q_t_met q_t_there q_t_on q_t_compared q_t_globals q_t_own q_t_records q_t_pile q_t_handed q_t_keys q_t_key q_t_count q_t_bins q_t_operator q_t_starts q_t_sum q_t_least q_t_greatest t_newSite t_newCondition t_newActions t_size t_place t_operators t_recorded t_lost t_dropped t_firings t_time t_thread t_thrown t_failed t_text) (fun r u => s_Mo_unit t_size t_pos t_at t_text t_code = (r, u.1, u.2.1, u.2.2)) 0 0 := cw_Mo_unit l D K q_t q_t_text q_t_code q_t_site q_t_condition q_t_actions q_t_kind q_t_target q_t_first q_t_second q_t_failures q_t_met q_t_there q_t_on q_t_compared q_t_globals q_t_own q_t_records q_t_pile q_t_handed q_t_keys q_t_key q_t_count q_t_bins q_t_operator q_t_starts q_t_sum q_t_least q_t_greatest t_newSite t_newCondition t_newActions t_size t_place t_pos t_at t_operators t_recorded t_lost t_dropped t_firings t_time t_thread t_thrown t_failed t_text t_code (v_Mo_unit t_size t_pos t_at t_text t_code hp)
