-- RuleTracerModel.load(I)D: reads ['t.time', 't.thread', 't.handed', 't.globals', 't.own'], changes []
abbrev w_Mo_load (K : Nat → ClassId) (q_t : Nat) (q_t_text : Nat) (q_t_code : Nat) (q_t_site : Nat) (q_t_condition : Nat) (q_t_actions : Nat) (q_t_kind : Nat) (q_t_target : Nat) (q_t_first : Nat) (q_t_second : Nat) (q_t_failures : Nat) (q_t_met : Nat) (q_t_there : Nat) (q_t_on : Nat) (q_t_compared : Nat) (q_t_globals : Nat) (q_t_own : Nat) (q_t_records : Nat) (q_t_pile : Nat) (q_t_handed : Nat) (q_t_keys : Nat) (q_t_key : Nat) (q_t_count : Nat) (q_t_bins : Nat) (q_t_operator : Nat) (q_t_starts : Nat) (q_t_sum : Nat) (q_t_least : Nat) (q_t_greatest : Nat) (t_newSite : Int32) (t_newCondition : Int32) (t_newActions : Int32) (t_size : Int32) (t_place : Int32) (t_pos : Int32) (t_at : Int32) (t_operators : Int32) (t_recorded : Int32) (t_lost : Int32) (t_dropped : Int32) (t_firings : Int32) (t_time : Int32) (t_thread : Int32) (t_thrown : Int32) (t_failed : Int32) (t_handed : Nat → UInt64) (t_globals : Nat → UInt64) (t_own : Nat → UInt64) (u : Unit) : va_W := [zo 6 q_t [.ref q_t_text, .ref q_t_code, .ref q_t_site, .ref q_t_condition, .ref q_t_actions, .ref q_t_kind, .ref q_t_target, .ref q_t_first, .ref q_t_second, .ref q_t_failures, .ref q_t_met, .ref q_t_there, .ref q_t_on, .ref q_t_compared, .ref q_t_globals, .ref q_t_own, .ref q_t_records, .ref q_t_pile, .ref q_t_handed, .ref q_t_keys, .ref q_t_key, .ref q_t_count, .ref q_t_bins, .ref q_t_operator, .ref q_t_starts, .ref q_t_sum, .ref q_t_least, .ref q_t_greatest, .int t_newSite, .int t_newCondition, .int t_newActions, .int t_size, .int t_place, .int t_pos, .int t_at, .int t_operators, .int t_recorded, .int t_lost, .int t_dropped, .int t_firings, .int t_time, .int t_thread, .int t_thrown, .int t_failed], zaD K q_t_handed 3 t_handed, zaD K q_t_globals 3 t_globals, zaD K q_t_own 12 t_own]
abbrev rm_Mo_load : Room := { frames := 1, cells := 0, slots := 0, locals := 22 }
abbrev wy_Mo_load : List Cond := .code y_Mo_load b_Mo_load 2 (some .double) :: zWT
def WP_Mo_load (t_time : Int32) (t_thread : Int32) (t_handed : Nat → UInt64) (t_globals : Nat → UInt64) (t_own : Nat → UInt64) (x1 : Int32) (Q : UInt64 → Unit → Prop) : Prop := (∀ (r1 : Int32), s_Mo_in x1 (97 : Int32) (99 : Int32) = r1 → ((r1 = 0) → ((¬ x1 = (116 : Int32)) → ((¬ x1 = (107 : Int32)) → (((120 : Int32) ≤ x1) → vp_in (((t_thread * (3 : Int32)) + x1) - (120 : Int32)) 12 ∧ Q (t_own (((t_thread * (3 : Int32)) + x1) - (120 : Int32)).toNatClampNeg) ()) ∧ ((¬ (120 : Int32) ≤ x1) → vp_in (x1 - (117 : Int32)) 3 ∧ Q (t_globals (x1 - (117 : Int32)).toNatClampNeg) ())) ∧ ((x1 = (107 : Int32)) → Q (FP.i2d t_thread) ())) ∧ ((x1 = (116 : Int32)) → Q (FP.i2d t_time) ())) ∧ ((¬ r1 = 0) → vp_in (x1 - (97 : Int32)) 3 ∧ Q (t_handed (x1 - (97 : Int32)).toNatClampNeg) ()))
set_option maxHeartbeats 4000000 in
set_option maxRecDepth 100000 in
theorem cw_Mo_load (l : Launch) (D : va_G) (K : Nat → ClassId) (q_t : Nat) (q_t_text : Nat) (q_t_code : Nat) (q_t_site : Nat) (q_t_condition : Nat) (q_t_actions : Nat) (q_t_kind : Nat) (q_t_target : Nat) (q_t_first : Nat) (q_t_second : Nat) (q_t_failures : Nat) (q_t_met : Nat) (q_t_there : Nat) (q_t_on : Nat) (q_t_compared : Nat) (q_t_globals : Nat) (q_t_own : Nat) (q_t_records : Nat) (q_t_pile : Nat) (q_t_handed : Nat) (q_t_keys : Nat) (q_t_key : Nat) (q_t_count : Nat) (q_t_bins : Nat) (q_t_operator : Nat) (q_t_starts : Nat) (q_t_sum : Nat) (q_t_least : Nat) (q_t_greatest : Nat) (t_newSite : Int32) (t_newCondition : Int32) (t_newActions : Int32) (t_size : Int32) (t_place : Int32) (t_pos : Int32) (t_at : Int32) (t_operators : Int32) (t_recorded : Int32) (t_lost : Int32) (t_dropped : Int32) (t_firings : Int32) (t_time : Int32) (t_thread : Int32) (t_thrown : Int32) (t_failed : Int32) (t_handed : Nat → UInt64) (t_globals : Nat → UInt64) (t_own : Nat → UInt64) (x1 : Int32) {Q : UInt64 → Unit → Prop} (hS0 : WP_Mo_load t_time t_thread t_handed t_globals t_own x1 Q) : zCd l y_Mo_load wy_Mo_load rm_Mo_load D zcl (zT K) [.ref q_t, .int x1] (w_Mo_load K q_t q_t_text q_t_code q_t_site q_t_condition q_t_actions q_t_kind q_t_target q_t_first q_t_second q_t_failures q_t_met q_t_there q_t_on q_t_compared q_t_globals q_t_own q_t_records q_t_pile q_t_handed q_t_keys q_t_key q_t_count q_t_bins q_t_operator q_t_starts q_t_sum q_t_least q_t_greatest t_newSite t_newCondition t_newActions t_size t_place t_pos t_at t_operators t_recorded t_lost t_dropped t_firings t_time t_thread t_thrown t_failed t_handed t_globals t_own ()) (w_Mo_load K q_t q_t_text q_t_code q_t_site q_t_condition q_t_actions q_t_kind q_t_target q_t_first q_t_second q_t_failures q_t_met q_t_there q_t_on q_t_compared q_t_globals q_t_own q_t_records q_t_pile q_t_handed q_t_keys q_t_key q_t_count q_t_bins q_t_operator q_t_starts q_t_sum q_t_least q_t_greatest t_newSite t_newCondition t_newActions t_size t_place t_pos t_at t_operators t_recorded t_lost t_dropped t_firings t_time t_thread t_thrown t_failed t_handed t_globals t_own) Q 0 0 := by
  refine z_metd (cc := b_Mo_load) (maxL := 2) (ret := (some .double)) (by decide) rfl (Nat.le_of_ble_eq_true rfl) ?_
  intro p e s m args below meth c A C hr hlk hnm
  refine z_lpick (lv' := [(0, .ref q_t), (1, .int x1)]) [0, 1] rfl ?_
  refine z_weq (ws' := [zo 6 q_t [.ref q_t_text, .ref q_t_code, .ref q_t_site, .ref q_t_condition, .ref q_t_actions, .ref q_t_kind, .ref q_t_target, .ref q_t_first, .ref q_t_second, .ref q_t_failures, .ref q_t_met, .ref q_t_there, .ref q_t_on, .ref q_t_compared, .ref q_t_globals, .ref q_t_own, .ref q_t_records, .ref q_t_pile, .ref q_t_handed, .ref q_t_keys, .ref q_t_key, .ref q_t_count, .ref q_t_bins, .ref q_t_operator, .ref q_t_starts, .ref q_t_sum, .ref q_t_least, .ref q_t_greatest, .int t_newSite, .int t_newCondition, .int t_newActions, .int t_size, .int t_place, .int t_pos, .int t_at, .int t_operators, .int t_recorded, .int t_lost, .int t_dropped, .int t_firings, .int t_time, .int t_thread, .int t_thrown, .int t_failed], zaD K q_t_handed 3 t_handed, zaD K q_t_globals 3 t_globals, zaD K q_t_own 12 t_own]) rfl ?_
  refine z_iload_n C d_Mo_load_0 rfl 1 rfl ?_
  refine z_bipush (v := (97 : Int32)) C d_Mo_load_1 (by decide) ?_
  refine z_bipush (v := (99 : Int32)) C d_Mo_load_3 (by decide) ?_
  refine z_callSi (As := [.int x1, .int (97 : Int32), .int (99 : Int32)]) (st := []) (wr := [zo 6 q_t [.ref q_t_text, .ref q_t_code, .ref q_t_site, .ref q_t_condition, .ref q_t_actions, .ref q_t_kind, .ref q_t_target, .ref q_t_first, .ref q_t_second, .ref q_t_failures, .ref q_t_met, .ref q_t_there, .ref q_t_on, .ref q_t_compared, .ref q_t_globals, .ref q_t_own, .ref q_t_records, .ref q_t_pile, .ref q_t_handed, .ref q_t_keys, .ref q_t_key, .ref q_t_count, .ref q_t_bins, .ref q_t_operator, .ref q_t_starts, .ref q_t_sum, .ref q_t_least, .ref q_t_greatest, .int t_newSite, .int t_newCondition, .int t_newActions, .int t_size, .int t_place, .int t_pos, .int t_at, .int t_operators, .int t_recorded, .int t_lost, .int t_dropped, .int t_firings, .int t_time, .int t_thread, .int t_thrown, .int t_failed], zaD K q_t_handed 3 t_handed, zaD K q_t_globals 3 t_globals, zaD K q_t_own 12 t_own]) (wj := fun u => [zo 6 q_t [.ref q_t_text, .ref q_t_code, .ref q_t_site, .ref q_t_condition, .ref q_t_actions, .ref q_t_kind, .ref q_t_target, .ref q_t_first, .ref q_t_second, .ref q_t_failures, .ref q_t_met, .ref q_t_there, .ref q_t_on, .ref q_t_compared, .ref q_t_globals, .ref q_t_own, .ref q_t_records, .ref q_t_pile, .ref q_t_handed, .ref q_t_keys, .ref q_t_key, .ref q_t_count, .ref q_t_bins, .ref q_t_operator, .ref q_t_starts, .ref q_t_sum, .ref q_t_least, .ref q_t_greatest, .int t_newSite, .int t_newCondition, .int t_newActions, .int t_size, .int t_place, .int t_pos, .int t_at, .int t_operators, .int t_recorded, .int t_lost, .int t_dropped, .int t_firings, .int t_time, .int t_thread, .int t_thrown, .int t_failed], zaD K q_t_handed 3 t_handed, zaD K q_t_globals 3 t_globals, zaD K q_t_own 12 t_own]) C (c_Mo_in l D K x1 (97 : Int32) (99 : Int32)) (cwS 3 C.2.2.2.2.1 (z_gS wl_Mo_103 ws_Mo_in wz_Mo wk_Mo_in) rfl rfl rfl (by decide +kernel) ⟨Nat.le_of_ble_eq_true rfl, Nat.le_of_ble_eq_true rfl⟩) [] [0, 1, 2, 3] [0, 1, 2, 3] rfl rfl rfl rfl (by decide) (fun _ => rfl) rfl rfl rfl (Nat.le_of_ble_eq_true rfl) d_Mo_load_5 ⟨Nat.le_of_ble_eq_true rfl, Nat.le_of_ble_eq_true rfl⟩ (fun r1 u2 e3 => ?_)
  have hS4 := hS0 r1 e3
  refine z_if_eq (tgt := 21) C d_Mo_load_8 (by decide) (fun c5 => ?_) (fun c5 => ?_)
  · have hS6 := hS4.1 c5
    refine z_iload_n C d_Mo_load_21 rfl 1 rfl ?_
    refine z_bipush (v := (116 : Int32)) C d_Mo_load_22 (by decide) ?_
    refine z_icmp_ne (tgt := 33) C d_Mo_load_24 (by decide) (fun c7 => ?_) (fun c7 => ?_)
    · have hS8 := hS6.1 c7
      refine z_iload_n C d_Mo_load_33 rfl 1 rfl ?_
      refine z_bipush (v := (107 : Int32)) C d_Mo_load_34 (by decide) ?_
      refine z_icmp_ne (tgt := 45) C d_Mo_load_36 (by decide) (fun c9 => ?_) (fun c9 => ?_)
      · have hS10 := hS8.1 c9
        refine z_iload_n C d_Mo_load_45 rfl 1 rfl ?_
        refine z_bipush (v := (120 : Int32)) C d_Mo_load_46 (by decide) ?_
        refine z_icmp_ge (tgt := 63) C d_Mo_load_48 (by decide) (fun c11 => ?_) (fun c11 => ?_)
        · have hS12 := hS10.1 c11
          refine z_aload_n C d_Mo_load_63 rfl 0 rfl ?_
          refine z_get C 0 rfl rfl in_Mo 15 (by decide) rfl wf_Mo_57 rfl d_Mo_load_64 ?_
          refine z_aload_n C d_Mo_load_67 rfl 0 rfl ?_
          refine z_get C 0 rfl rfl in_Mo 41 (by decide) rfl wf_Mo_170 rfl d_Mo_load_68 ?_
          refine z_iconst (v := (3 : Int32)) C d_Mo_load_71 (by decide) ?_
          refine z_imul C d_Mo_load_72 ?_
          refine z_iload_n C d_Mo_load_73 rfl 1 rfl ?_
          refine z_iadd C d_Mo_load_74 ?_
          refine z_bipush (v := (120 : Int32)) C d_Mo_load_75 (by decide) ?_
          refine z_isub C d_Mo_load_77 ?_
          refine z_dald C 3 1 rfl rfl hS12.1 d_Mo_load_78 ?_
          have hS13 := hS12.2
          exact z_dret C hr hlk () rfl hS13 d_Mo_load_79
        · have hS12 := hS10.2 c11
          refine z_aload_n C d_Mo_load_51 rfl 0 rfl ?_
          refine z_get C 0 rfl rfl in_Mo 14 (by decide) rfl wf_Mo_53 rfl d_Mo_load_52 ?_
          refine z_iload_n C d_Mo_load_55 rfl 1 rfl ?_
          refine z_bipush (v := (117 : Int32)) C d_Mo_load_56 (by decide) ?_
          refine z_isub C d_Mo_load_58 ?_
          refine z_dald C 2 1 rfl rfl hS12.1 d_Mo_load_59 ?_
          have hS14 := hS12.2
          refine z_goto (tgt := 79) C d_Mo_load_60 (by decide) ?_
          exact z_dret C hr hlk () rfl hS14 d_Mo_load_79
      · have hS10 := hS8.2 c9
        refine z_aload_n C d_Mo_load_39 rfl 0 rfl ?_
        refine z_get C 0 rfl rfl in_Mo 41 (by decide) rfl wf_Mo_170 rfl d_Mo_load_40 ?_
        refine z_i2d C d_Mo_load_43 ?_
        exact z_dret C hr hlk () rfl hS10 d_Mo_load_44
    · have hS8 := hS6.2 c7
      refine z_aload_n C d_Mo_load_27 rfl 0 rfl ?_
      refine z_get C 0 rfl rfl in_Mo 40 (by decide) rfl wf_Mo_167 rfl d_Mo_load_28 ?_
      refine z_i2d C d_Mo_load_31 ?_
      exact z_dret C hr hlk () rfl hS8 d_Mo_load_32
  · have hS6 := hS4.2 c5
    refine z_aload_n C d_Mo_load_11 rfl 0 rfl ?_
    refine z_get C 0 rfl rfl in_Mo 18 (by decide) rfl wf_Mo_66 rfl d_Mo_load_12 ?_
    refine z_iload_n C d_Mo_load_15 rfl 1 rfl ?_
    refine z_bipush (v := (97 : Int32)) C d_Mo_load_16 (by decide) ?_
    refine z_isub C d_Mo_load_18 ?_
    refine z_dald C 1 1 rfl rfl hS6.1 d_Mo_load_19 ?_
    have hS15 := hS6.2
    exact z_dret C hr hlk () rfl hS15 d_Mo_load_20
def s_Mo_load (t_time : Int32) (t_thread : Int32) (t_handed : Nat → UInt64) (t_globals : Nat → UInt64) (t_own : Nat → UInt64) (x1 : Int32) : UInt64 := (zl1 (s_Mo_in x1 (97 : Int32) (99 : Int32)) fun r1 => (if r1 = 0 then (if x1 = (116 : Int32) then FP.i2d t_time else (if x1 = (107 : Int32) then FP.i2d t_thread else (if (120 : Int32) ≤ x1 then t_own (((t_thread * (3 : Int32)) + x1) - (120 : Int32)).toNatClampNeg else t_globals (x1 - (117 : Int32)).toNatClampNeg))) else t_handed (x1 - (97 : Int32)).toNatClampNeg))
def p_Mo_load (t_time : Int32) (t_thread : Int32) (t_handed : Nat → UInt64) (t_globals : Nat → UInt64) (t_own : Nat → UInt64) (x1 : Int32) : Prop := WP_Mo_load t_time t_thread t_handed t_globals t_own x1 (fun _ _ => True)
set_option maxRecDepth 100000 in
theorem v_Mo_load (t_time : Int32) (t_thread : Int32) (t_handed : Nat → UInt64) (t_globals : Nat → UInt64) (t_own : Nat → UInt64) (x1 : Int32) (hp : p_Mo_load t_time t_thread t_handed t_globals t_own x1) : WP_Mo_load t_time t_thread t_handed t_globals t_own x1 (fun r u => s_Mo_load t_time t_thread t_handed t_globals t_own x1 = r) := by
  unfold p_Mo_load WP_Mo_load at hp
  obtain ⟨tgt, f0⟩ : ∃ tgt, s_Mo_load t_time t_thread t_handed t_globals t_own x1 = tgt := ⟨_, rfl⟩
  rw [f0]
  unfold s_Mo_load at f0
  unfold WP_Mo_load
  intro r1 e3
  have g1 := hp r1 e3
  have f1 := Eq.trans (Eq.symm (zl1_eq e3)) f0
  refine ⟨fun c5 => ?_, fun c5 => ?_⟩
  · have f2 := Eq.trans (Eq.symm (if_pos c5)) f1
    have g2 := g1.1 c5
    refine ⟨fun c7 => ?_, fun c7 => ?_⟩
    · have f3 := Eq.trans (Eq.symm (if_neg c7)) f2
      have g3 := g2.1 c7
      refine ⟨fun c9 => ?_, fun c9 => ?_⟩
      · have f4 := Eq.trans (Eq.symm (if_neg c9)) f3
        have g4 := g3.1 c9
        refine ⟨fun c11 => ?_, fun c11 => ?_⟩
        · have f5 := Eq.trans (Eq.symm (if_pos c11)) f4
          have g5 := g4.1 c11
          refine ⟨g5.1, ?_⟩
          have g6 := g5.2
          exact f5.symm
        · have f5 := Eq.trans (Eq.symm (if_neg c11)) f4
          have g5 := g4.2 c11
          refine ⟨g5.1, ?_⟩
          have g7 := g5.2
          exact f5.symm
      · have f4 := Eq.trans (Eq.symm (if_pos c9)) f3
        have g4 := g3.2 c9
        exact f4.symm
    · have f3 := Eq.trans (Eq.symm (if_pos c7)) f2
      have g3 := g2.2 c7
      exact f3.symm
  · have f2 := Eq.trans (Eq.symm (if_neg c5)) f1
    have g2 := g1.2 c5
    refine ⟨g2.1, ?_⟩
    have g8 := g2.2
    exact f2.symm
theorem c_Mo_load (l : Launch) (D : va_G) (K : Nat → ClassId) (q_t : Nat) (q_t_text : Nat) (q_t_code : Nat) (q_t_site : Nat) (q_t_condition : Nat) (q_t_actions : Nat) (q_t_kind : Nat) (q_t_target : Nat) (q_t_first : Nat) (q_t_second : Nat) (q_t_failures : Nat) (q_t_met : Nat) (q_t_there : Nat) (q_t_on : Nat) (q_t_compared : Nat) (q_t_globals : Nat) (q_t_own : Nat) (q_t_records : Nat) (q_t_pile : Nat) (q_t_handed : Nat) (q_t_keys : Nat) (q_t_key : Nat) (q_t_count : Nat) (q_t_bins : Nat) (q_t_operator : Nat) (q_t_starts : Nat) (q_t_sum : Nat) (q_t_least : Nat) (q_t_greatest : Nat) (t_newSite : Int32) (t_newCondition : Int32) (t_newActions : Int32) (t_size : Int32) (t_place : Int32) (t_pos : Int32) (t_at : Int32) (t_operators : Int32) (t_recorded : Int32) (t_lost : Int32) (t_dropped : Int32) (t_firings : Int32) (t_time : Int32) (t_thread : Int32) (t_thrown : Int32) (t_failed : Int32) (t_handed : Nat → UInt64) (t_globals : Nat → UInt64) (t_own : Nat → UInt64) (x1 : Int32) (hp : p_Mo_load t_time t_thread t_handed t_globals t_own x1) : zCd l y_Mo_load wy_Mo_load rm_Mo_load D zcl (zT K) [.ref q_t, .int x1] (w_Mo_load K q_t q_t_text q_t_code q_t_site q_t_condition q_t_actions q_t_kind q_t_target q_t_first q_t_second q_t_failures q_t_met q_t_there q_t_on q_t_compared q_t_globals q_t_own q_t_records q_t_pile q_t_handed q_t_keys q_t_key q_t_count q_t_bins q_t_operator q_t_starts q_t_sum q_t_least q_t_greatest t_newSite t_newCondition t_newActions t_size t_place t_pos t_at t_operators t_recorded t_lost t_dropped t_firings t_time t_thread t_thrown t_failed t_handed t_globals t_own ()) (w_Mo_load K q_t q_t_text q_t_code q_t_site q_t_condition q_t_actions q_t_kind q_t_target q_t_first q_t_second q_t_failures q_t_met q_t_there q_t_on q_t_compared q_t_globals q_t_own q_t_records q_t_pile q_t_handed q_t_keys q_t_key q_t_count q_t_bins q_t_operator q_t_starts q_t_sum q_t_least q_t_greatest t_newSite t_newCondition t_newActions t_size t_place t_pos t_at t_operators t_recorded t_lost t_dropped t_firings t_time t_thread t_thrown t_failed t_handed t_globals t_own) (fun r u => s_Mo_load t_time t_thread t_handed t_globals t_own x1 = r) 0 0 := cw_Mo_load l D K q_t q_t_text q_t_code q_t_site q_t_condition q_t_actions q_t_kind q_t_target q_t_first q_t_second q_t_failures q_t_met q_t_there q_t_on q_t_compared q_t_globals q_t_own q_t_records q_t_pile q_t_handed q_t_keys q_t_key q_t_count q_t_bins q_t_operator q_t_starts q_t_sum q_t_least q_t_greatest t_newSite t_newCondition t_newActions t_size t_place t_pos t_at t_operators t_recorded t_lost t_dropped t_firings t_time t_thread t_thrown t_failed t_handed t_globals t_own x1 (v_Mo_load t_time t_thread t_handed t_globals t_own x1 hp)
-- RuleTracerModel.reckon(IDD)D: reads ['t.failed'], changes ['t.failed']
abbrev w_Mo_reckon (K : Nat → ClassId) (q_t : Nat) (q_t_text : Nat) (q_t_code : Nat) (q_t_site : Nat) (q_t_condition : Nat) (q_t_actions : Nat) (q_t_kind : Nat) (q_t_target : Nat) (q_t_first : Nat) (q_t_second : Nat) (q_t_failures : Nat) (q_t_met : Nat) (q_t_there : Nat) (q_t_on : Nat) (q_t_compared : Nat) (q_t_globals : Nat) (q_t_own : Nat) (q_t_records : Nat) (q_t_pile : Nat) (q_t_handed : Nat) (q_t_keys : Nat) (q_t_key : Nat) (q_t_count : Nat) (q_t_bins : Nat) (q_t_operator : Nat) (q_t_starts : Nat) (q_t_sum : Nat) (q_t_least : Nat) (q_t_greatest : Nat) (t_newSite : Int32) (t_newCondition : Int32) (t_newActions : Int32) (t_size : Int32) (t_place : Int32) (t_pos : Int32) (t_at : Int32) (t_operators : Int32) (t_recorded : Int32) (t_lost : Int32) (t_dropped : Int32) (t_firings : Int32) (t_time : Int32) (t_thread : Int32) (t_thrown : Int32) (u : Int32) : va_W := [zo 6 q_t [.ref q_t_text, .ref q_t_code, .ref q_t_site, .ref q_t_condition, .ref q_t_actions, .ref q_t_kind, .ref q_t_target, .ref q_t_first, .ref q_t_second, .ref q_t_failures, .ref q_t_met, .ref q_t_there, .ref q_t_on, .ref q_t_compared, .ref q_t_globals, .ref q_t_own, .ref q_t_records, .ref q_t_pile, .ref q_t_handed, .ref q_t_keys, .ref q_t_key, .ref q_t_count, .ref q_t_bins, .ref q_t_operator, .ref q_t_starts, .ref q_t_sum, .ref q_t_least, .ref q_t_greatest, .int t_newSite, .int t_newCondition, .int t_newActions, .int t_size, .int t_place, .int t_pos, .int t_at, .int t_operators, .int t_recorded, .int t_lost, .int t_dropped, .int t_firings, .int t_time, .int t_thread, .int t_thrown, .int u]]
abbrev rm_Mo_reckon : Room := { frames := 0, cells := 0, slots := 0, locals := 0 }
abbrev wy_Mo_reckon : List Cond := .code y_Mo_reckon b_Mo_reckon 8 (some .double) :: zWT
def WP_Mo_reckon (t_failed : Int32) (x1 : Int32) (x2 : UInt64) (x4 : UInt64) (Q : UInt64 → Int32 → Prop) : Prop := ((¬ x1 = (60 : Int32)) → ((¬ x1 = (62 : Int32)) → ((¬ x1 = (61 : Int32)) → ((¬ x1 = (58 : Int32)) → ((¬ x1 = (43 : Int32)) → ((¬ x1 = (45 : Int32)) → ((¬ x1 = (42 : Int32)) → vf_n64 (FP.ddiv x2 x4) ∧ ((0 < (Op.cmpValue (FP.dcmp (FP.ddiv x2 x4) (4741671816366391296 : UInt64)) .l)) → Q (FP.ddiv x2 x4) (1 : Int32)) ∧ ((¬ 0 < (Op.cmpValue (FP.dcmp (FP.ddiv x2 x4) (4741671816366391296 : UInt64)) .l)) → ((0 ≤ (Op.cmpValue (FP.dcmp (FP.ddiv x2 x4) (13965043853221167104 : UInt64)) .g)) → Q (FP.ddiv x2 x4) t_failed) ∧ ((¬ 0 ≤ (Op.cmpValue (FP.dcmp (FP.ddiv x2 x4) (13965043853221167104 : UInt64)) .g)) → Q (FP.ddiv x2 x4) (1 : Int32)))) ∧ ((x1 = (42 : Int32)) → vf_n64 (FP.dmul x2 x4) ∧ ((0 < (Op.cmpValue (FP.dcmp (FP.dmul x2 x4) (4741671816366391296 : UInt64)) .l)) → Q (FP.dmul x2 x4) (1 : Int32)) ∧ ((¬ 0 < (Op.cmpValue (FP.dcmp (FP.dmul x2 x4) (4741671816366391296 : UInt64)) .l)) → ((0 ≤ (Op.cmpValue (FP.dcmp (FP.dmul x2 x4) (13965043853221167104 : UInt64)) .g)) → Q (FP.dmul x2 x4) t_failed) ∧ ((¬ 0 ≤ (Op.cmpValue (FP.dcmp (FP.dmul x2 x4) (13965043853221167104 : UInt64)) .g)) → Q (FP.dmul x2 x4) (1 : Int32))))) ∧ ((x1 = (45 : Int32)) → vf_n64 (FP.dsub x2 x4) ∧ ((0 < (Op.cmpValue (FP.dcmp (FP.dsub x2 x4) (4741671816366391296 : UInt64)) .l)) → Q (FP.dsub x2 x4) (1 : Int32)) ∧ ((¬ 0 < (Op.cmpValue (FP.dcmp (FP.dsub x2 x4) (4741671816366391296 : UInt64)) .l)) → ((0 ≤ (Op.cmpValue (FP.dcmp (FP.dsub x2 x4) (13965043853221167104 : UInt64)) .g)) → Q (FP.dsub x2 x4) t_failed) ∧ ((¬ 0 ≤ (Op.cmpValue (FP.dcmp (FP.dsub x2 x4) (13965043853221167104 : UInt64)) .g)) → Q (FP.dsub x2 x4) (1 : Int32))))) ∧ ((x1 = (43 : Int32)) → vf_n64 (FP.dadd x2 x4) ∧ ((0 < (Op.cmpValue (FP.dcmp (FP.dadd x2 x4) (4741671816366391296 : UInt64)) .l)) → Q (FP.dadd x2 x4) (1 : Int32)) ∧ ((¬ 0 < (Op.cmpValue (FP.dcmp (FP.dadd x2 x4) (4741671816366391296 : UInt64)) .l)) → ((0 ≤ (Op.cmpValue (FP.dcmp (FP.dadd x2 x4) (13965043853221167104 : UInt64)) .g)) → Q (FP.dadd x2 x4) t_failed) ∧ ((¬ 0 ≤ (Op.cmpValue (FP.dcmp (FP.dadd x2 x4) (13965043853221167104 : UInt64)) .g)) → Q (FP.dadd x2 x4) (1 : Int32))))) ∧ ((x1 = (58 : Int32)) → ((¬ (Op.cmpValue (FP.dcmp x4 FP.dconst0) .l) = 0) → ((¬ x1 = (43 : Int32)) → ((¬ x1 = (45 : Int32)) → ((¬ x1 = (42 : Int32)) → vf_n64 (FP.ddiv x2 x4) ∧ ((0 < (Op.cmpValue (FP.dcmp (FP.ddiv x2 x4) (4741671816366391296 : UInt64)) .l)) → Q (FP.ddiv x2 x4) (1 : Int32)) ∧ ((¬ 0 < (Op.cmpValue (FP.dcmp (FP.ddiv x2 x4) (4741671816366391296 : UInt64)) .l)) → ((0 ≤ (Op.cmpValue (FP.dcmp (FP.ddiv x2 x4) (13965043853221167104 : UInt64)) .g)) → Q (FP.ddiv x2 x4) t_failed) ∧ ((¬ 0 ≤ (Op.cmpValue (FP.dcmp (FP.ddiv x2 x4) (13965043853221167104 : UInt64)) .g)) → Q (FP.ddiv x2 x4) (1 : Int32)))) ∧ ((x1 = (42 : Int32)) → vf_n64 (FP.dmul x2 x4) ∧ ((0 < (Op.cmpValue (FP.dcmp (FP.dmul x2 x4) (4741671816366391296 : UInt64)) .l)) → Q (FP.dmul x2 x4) (1 : Int32)) ∧ ((¬ 0 < (Op.cmpValue (FP.dcmp (FP.dmul x2 x4) (4741671816366391296 : UInt64)) .l)) → ((0 ≤ (Op.cmpValue (FP.dcmp (FP.dmul x2 x4) (13965043853221167104 : UInt64)) .g)) → Q (FP.dmul x2 x4) t_failed) ∧ ((¬ 0 ≤ (Op.cmpValue (FP.dcmp (FP.dmul x2 x4) (13965043853221167104 : UInt64)) .g)) → Q (FP.dmul x2 x4) (1 : Int32))))) ∧ ((x1 = (45 : Int32)) → vf_n64 (FP.dsub x2 x4) ∧ ((0 < (Op.cmpValue (FP.dcmp (FP.dsub x2 x4) (4741671816366391296 : UInt64)) .l)) → Q (FP.dsub x2 x4) (1 : Int32)) ∧ ((¬ 0 < (Op.cmpValue (FP.dcmp (FP.dsub x2 x4) (4741671816366391296 : UInt64)) .l)) → ((0 ≤ (Op.cmpValue (FP.dcmp (FP.dsub x2 x4) (13965043853221167104 : UInt64)) .g)) → Q (FP.dsub x2 x4) t_failed) ∧ ((¬ 0 ≤ (Op.cmpValue (FP.dcmp (FP.dsub x2 x4) (13965043853221167104 : UInt64)) .g)) → Q (FP.dsub x2 x4) (1 : Int32))))) ∧ ((x1 = (43 : Int32)) → vf_n64 (FP.dadd x2 x4) ∧ ((0 < (Op.cmpValue (FP.dcmp (FP.dadd x2 x4) (4741671816366391296 : UInt64)) .l)) → Q (FP.dadd x2 x4) (1 : Int32)) ∧ ((¬ 0 < (Op.cmpValue (FP.dcmp (FP.dadd x2 x4) (4741671816366391296 : UInt64)) .l)) → ((0 ≤ (Op.cmpValue (FP.dcmp (FP.dadd x2 x4) (13965043853221167104 : UInt64)) .g)) → Q (FP.dadd x2 x4) t_failed) ∧ ((¬ 0 ≤ (Op.cmpValue (FP.dcmp (FP.dadd x2 x4) (13965043853221167104 : UInt64)) .g)) → Q (FP.dadd x2 x4) (1 : Int32))))) ∧ (((Op.cmpValue (FP.dcmp x4 FP.dconst0) .l) = 0) → Q FP.dconst0 (1 : Int32)))) ∧ ((x1 = (61 : Int32)) → ((¬ (Op.cmpValue (FP.dcmp x2 x4) .l) = 0) → Q FP.dconst0 t_failed) ∧ (((Op.cmpValue (FP.dcmp x2 x4) .l) = 0) → Q FP.dconst1 t_failed))) ∧ ((x1 = (62 : Int32)) → (((Op.cmpValue (FP.dcmp x2 x4) .l) ≤ 0) → Q FP.dconst0 t_failed) ∧ ((¬ (Op.cmpValue (FP.dcmp x2 x4) .l) ≤ 0) → Q FP.dconst1 t_failed))) ∧ ((x1 = (60 : Int32)) → ((0 ≤ (Op.cmpValue (FP.dcmp x2 x4) .g)) → Q FP.dconst0 t_failed) ∧ ((¬ 0 ≤ (Op.cmpValue (FP.dcmp x2 x4) .g)) → Q FP.dconst1 t_failed))
set_option maxHeartbeats 4000000 in
set_option maxRecDepth 100000 in
theorem cw_Mo_reckon (l : Launch) (D : va_G) (K : Nat → ClassId) (q_t : Nat) (q_t_text : Nat) (q_t_code : Nat) (q_t_site : Nat) (q_t_condition : Nat) (q_t_actions : Nat) (q_t_kind : Nat) (q_t_target : Nat) (q_t_first : Nat) (q_t_second : Nat) (q_t_failures : Nat) (q_t_met : Nat) (q_t_there : Nat) (q_t_on : Nat) (q_t_compared : Nat) (q_t_globals : Nat) (q_t_own : Nat) (q_t_records : Nat) (q_t_pile : Nat) (q_t_handed : Nat) (q_t_keys : Nat) (q_t_key : Nat) (q_t_count : Nat) (q_t_bins : Nat) (q_t_operator : Nat) (q_t_starts : Nat) (q_t_sum : Nat) (q_t_least : Nat) (q_t_greatest : Nat) (t_newSite : Int32) (t_newCondition : Int32) (t_newActions : Int32) (t_size : Int32) (t_place : Int32) (t_pos : Int32) (t_at : Int32) (t_operators : Int32) (t_recorded : Int32) (t_lost : Int32) (t_dropped : Int32) (t_firings : Int32) (t_time : Int32) (t_thread : Int32) (t_thrown : Int32) (t_failed : Int32) (x1 : Int32) (x2 : UInt64) (x4 : UInt64) {Q : UInt64 → Int32 → Prop} (hS0 : WP_Mo_reckon t_failed x1 x2 x4 Q) : zCd l y_Mo_reckon wy_Mo_reckon rm_Mo_reckon D zcl (zT K) [.ref q_t, .int x1, .double x2, .double x4] (w_Mo_reckon K q_t q_t_text q_t_code q_t_site q_t_condition q_t_actions q_t_kind q_t_target q_t_first q_t_second q_t_failures q_t_met q_t_there q_t_on q_t_compared q_t_globals q_t_own q_t_records q_t_pile q_t_handed q_t_keys q_t_key q_t_count q_t_bins q_t_operator q_t_starts q_t_sum q_t_least q_t_greatest t_newSite t_newCondition t_newActions t_size t_place t_pos t_at t_operators t_recorded t_lost t_dropped t_firings t_time t_thread t_thrown t_failed) (w_Mo_reckon K q_t q_t_text q_t_code q_t_site q_t_condition q_t_actions q_t_kind q_t_target q_t_first q_t_second q_t_failures q_t_met q_t_there q_t_on q_t_compared q_t_globals q_t_own q_t_records q_t_pile q_t_handed q_t_keys q_t_key q_t_count q_t_bins q_t_operator q_t_starts q_t_sum q_t_least q_t_greatest t_newSite t_newCondition t_newActions t_size t_place t_pos t_at t_operators t_recorded t_lost t_dropped t_firings t_time t_thread t_thrown) Q 0 0 := by
  refine z_metd (cc := b_Mo_reckon) (maxL := 8) (ret := (some .double)) (by decide) rfl (Nat.le_of_ble_eq_true rfl) ?_
  intro p e s m args below meth c A C hr hlk hnm
  refine z_lpick (lv' := [(0, .ref q_t), (1, .int x1), (2, .double x2), (4, .double x4)]) [0, 1, 2, 3] rfl ?_
  refine z_weq (ws' := [zo 6 q_t [.ref q_t_text, .ref q_t_code, .ref q_t_site, .ref q_t_condition, .ref q_t_actions, .ref q_t_kind, .ref q_t_target, .ref q_t_first, .ref q_t_second, .ref q_t_failures, .ref q_t_met, .ref q_t_there, .ref q_t_on, .ref q_t_compared, .ref q_t_globals, .ref q_t_own, .ref q_t_records, .ref q_t_pile, .ref q_t_handed, .ref q_t_keys, .ref q_t_key, .ref q_t_count, .ref q_t_bins, .ref q_t_operator, .ref q_t_starts, .ref q_t_sum, .ref q_t_least, .ref q_t_greatest, .int t_newSite, .int t_newCondition, .int t_newActions, .int t_size, .int t_place, .int t_pos, .int t_at, .int t_operators, .int t_recorded, .int t_lost, .int t_dropped, .int t_firings, .int t_time, .int t_thread, .int t_thrown, .int t_failed]]) rfl ?_
  refine z_iload_n C d_Mo_reckon_0 rfl 1 rfl ?_
  refine z_bipush (v := (60 : Int32)) C d_Mo_reckon_1 (by decide) ?_
  refine z_icmp_ne (tgt := 19) C d_Mo_reckon_3 (by decide) (fun c1 => ?_) (fun c1 => ?_)
  · have hS2 := hS0.1 c1
    refine z_iload_n C d_Mo_reckon_19 rfl 1 rfl ?_
    refine z_bipush (v := (62 : Int32)) C d_Mo_reckon_20 (by decide) ?_
    refine z_icmp_ne (tgt := 38) C d_Mo_reckon_22 (by decide) (fun c3 => ?_) (fun c3 => ?_)
    · have hS4 := hS2.1 c3
      refine z_iload_n C d_Mo_reckon_38 rfl 1 rfl ?_
      refine z_bipush (v := (61 : Int32)) C d_Mo_reckon_39 (by decide) ?_
      refine z_icmp_ne (tgt := 57) C d_Mo_reckon_41 (by decide) (fun c5 => ?_) (fun c5 => ?_)
      · have hS6 := hS4.1 c5
        refine z_iload_n C d_Mo_reckon_57 rfl 1 rfl ?_
        refine z_bipush (v := (58 : Int32)) C d_Mo_reckon_58 (by decide) ?_
        refine z_icmp_ne (tgt := 77) C d_Mo_reckon_60 (by decide) (fun c7 => ?_) (fun c7 => ?_)
        · have hS8 := hS6.1 c7
          refine z_iload_n C d_Mo_reckon_77 rfl 1 rfl ?_
          refine z_bipush (v := (43 : Int32)) C d_Mo_reckon_78 (by decide) ?_
          refine z_icmp_ne (tgt := 90) C d_Mo_reckon_80 (by decide) (fun c9 => ?_) (fun c9 => ?_)
          · have hS10 := hS8.1 c9
            refine z_iload_n C d_Mo_reckon_90 rfl 1 rfl ?_
            refine z_bipush (v := (45 : Int32)) C d_Mo_reckon_91 (by decide) ?_
            refine z_icmp_ne (tgt := 103) C d_Mo_reckon_93 (by decide) (fun c11 => ?_) (fun c11 => ?_)
            · have hS12 := hS10.1 c11
              refine z_iload_n C d_Mo_reckon_103 rfl 1 rfl ?_
              refine z_bipush (v := (42 : Int32)) C d_Mo_reckon_104 (by decide) ?_
              refine z_icmp_ne (tgt := 116) C d_Mo_reckon_106 (by decide) (fun c13 => ?_) (fun c13 => ?_)
              · have hS14 := hS12.1 c13
                refine z_dload_n C d_Mo_reckon_116 rfl 2 rfl ?_
                refine z_dload C d_Mo_reckon_117 3 rfl ?_
                refine z_ddiv C d_Mo_reckon_119 hS14.1 ?_
                have hS15 := hS14.2
                refine z_dstore (lv' := [(6, .double (FP.ddiv x2 x4)), (0, .ref q_t), (1, .int x1), (2, .double x2), (4, .double x4)]) C d_Mo_reckon_120 (by decide) rfl ?_
                refine z_dload C d_Mo_reckon_122 0 rfl ?_
                refine z_ldc2d C d_Mo_reckon_124 wd_Mo_177 ?_
                refine z_dcmp C d_Mo_reckon_127 ?_
                refine z_if_gt (tgt := 140) C d_Mo_reckon_128 (by decide) (fun c16 => ?_) (fun c16 => ?_)
                · have hS17 := hS15.1 c16
                  refine z_aload_n C d_Mo_reckon_140 rfl 1 rfl ?_
                  refine z_iconst (v := (1 : Int32)) C d_Mo_reckon_141 (by decide) ?_
                  refine z_put (ty := .boolean) (ws' := [zo 6 q_t [.ref q_t_text, .ref q_t_code, .ref q_t_site, .ref q_t_condition, .ref q_t_actions, .ref q_t_kind, .ref q_t_target, .ref q_t_first, .ref q_t_second, .ref q_t_failures, .ref q_t_met, .ref q_t_there, .ref q_t_on, .ref q_t_compared, .ref q_t_globals, .ref q_t_own, .ref q_t_records, .ref q_t_pile, .ref q_t_handed, .ref q_t_keys, .ref q_t_key, .ref q_t_count, .ref q_t_bins, .ref q_t_operator, .ref q_t_starts, .ref q_t_sum, .ref q_t_least, .ref q_t_greatest, .int t_newSite, .int t_newCondition, .int t_newActions, .int t_size, .int t_place, .int t_pos, .int t_at, .int t_operators, .int t_recorded, .int t_lost, .int t_dropped, .int t_firings, .int t_time, .int t_thread, .int t_thrown, .int (1 : Int32)]]) C ty_Mo to_Mo nm_Mo 0 rfl rfl in_Mo 43 (by decide) rfl wf_Mo_173 rfl rfl rfl rfl (Nat.le_of_ble_eq_true rfl) rfl d_Mo_reckon_142 ?_
                  refine z_dload C d_Mo_reckon_145 0 rfl ?_
                  exact z_dret C hr hlk (1 : Int32) rfl hS17 d_Mo_reckon_147
                · have hS17 := hS15.2 c16
                  refine z_dload C d_Mo_reckon_131 0 rfl ?_
                  refine z_ldc2d C d_Mo_reckon_133 wd_Mo_179 ?_
                  refine z_dcmp C d_Mo_reckon_136 ?_
                  refine z_if_ge (tgt := 145) C d_Mo_reckon_137 (by decide) (fun c18 => ?_) (fun c18 => ?_)
                  · have hS19 := hS17.1 c18
                    refine z_dload C d_Mo_reckon_145 0 rfl ?_
                    exact z_dret C hr hlk t_failed rfl hS19 d_Mo_reckon_147
                  · have hS19 := hS17.2 c18
                    refine z_aload_n C d_Mo_reckon_140 rfl 1 rfl ?_
                    refine z_iconst (v := (1 : Int32)) C d_Mo_reckon_141 (by decide) ?_
                    refine z_put (ty := .boolean) (ws' := [zo 6 q_t [.ref q_t_text, .ref q_t_code, .ref q_t_site, .ref q_t_condition, .ref q_t_actions, .ref q_t_kind, .ref q_t_target, .ref q_t_first, .ref q_t_second, .ref q_t_failures, .ref q_t_met, .ref q_t_there, .ref q_t_on, .ref q_t_compared, .ref q_t_globals, .ref q_t_own, .ref q_t_records, .ref q_t_pile, .ref q_t_handed, .ref q_t_keys, .ref q_t_key, .ref q_t_count, .ref q_t_bins, .ref q_t_operator, .ref q_t_starts, .ref q_t_sum, .ref q_t_least, .ref q_t_greatest, .int t_newSite, .int t_newCondition, .int t_newActions, .int t_size, .int t_place, .int t_pos, .int t_at, .int t_operators, .int t_recorded, .int t_lost, .int t_dropped, .int t_firings, .int t_time, .int t_thread, .int t_thrown, .int (1 : Int32)]]) C ty_Mo to_Mo nm_Mo 0 rfl rfl in_Mo 43 (by decide) rfl wf_Mo_173 rfl rfl rfl rfl (Nat.le_of_ble_eq_true rfl) rfl d_Mo_reckon_142 ?_
                    refine z_dload C d_Mo_reckon_145 0 rfl ?_
                    exact z_dret C hr hlk (1 : Int32) rfl hS19 d_Mo_reckon_147
              · have hS14 := hS12.2 c13
                refine z_dload_n C d_Mo_reckon_109 rfl 2 rfl ?_
                refine z_dload C d_Mo_reckon_110 3 rfl ?_
                refine z_dmul C d_Mo_reckon_112 hS14.1 ?_
                have hS20 := hS14.2
                refine z_goto (tgt := 120) C d_Mo_reckon_113 (by decide) ?_
                refine z_dstore (lv' := [(6, .double (FP.dmul x2 x4)), (0, .ref q_t), (1, .int x1), (2, .double x2), (4, .double x4)]) C d_Mo_reckon_120 (by decide) rfl ?_
                refine z_dload C d_Mo_reckon_122 0 rfl ?_
                refine z_ldc2d C d_Mo_reckon_124 wd_Mo_177 ?_
                refine z_dcmp C d_Mo_reckon_127 ?_
                refine z_if_gt (tgt := 140) C d_Mo_reckon_128 (by decide) (fun c21 => ?_) (fun c21 => ?_)
                · have hS22 := hS20.1 c21
                  refine z_aload_n C d_Mo_reckon_140 rfl 1 rfl ?_
                  refine z_iconst (v := (1 : Int32)) C d_Mo_reckon_141 (by decide) ?_
                  refine z_put (ty := .boolean) (ws' := [zo 6 q_t [.ref q_t_text, .ref q_t_code, .ref q_t_site, .ref q_t_condition, .ref q_t_actions, .ref q_t_kind, .ref q_t_target, .ref q_t_first, .ref q_t_second, .ref q_t_failures, .ref q_t_met, .ref q_t_there, .ref q_t_on, .ref q_t_compared, .ref q_t_globals, .ref q_t_own, .ref q_t_records, .ref q_t_pile, .ref q_t_handed, .ref q_t_keys, .ref q_t_key, .ref q_t_count, .ref q_t_bins, .ref q_t_operator, .ref q_t_starts, .ref q_t_sum, .ref q_t_least, .ref q_t_greatest, .int t_newSite, .int t_newCondition, .int t_newActions, .int t_size, .int t_place, .int t_pos, .int t_at, .int t_operators, .int t_recorded, .int t_lost, .int t_dropped, .int t_firings, .int t_time, .int t_thread, .int t_thrown, .int (1 : Int32)]]) C ty_Mo to_Mo nm_Mo 0 rfl rfl in_Mo 43 (by decide) rfl wf_Mo_173 rfl rfl rfl rfl (Nat.le_of_ble_eq_true rfl) rfl d_Mo_reckon_142 ?_
                  refine z_dload C d_Mo_reckon_145 0 rfl ?_
                  exact z_dret C hr hlk (1 : Int32) rfl hS22 d_Mo_reckon_147
                · have hS22 := hS20.2 c21
                  refine z_dload C d_Mo_reckon_131 0 rfl ?_
                  refine z_ldc2d C d_Mo_reckon_133 wd_Mo_179 ?_
                  refine z_dcmp C d_Mo_reckon_136 ?_
                  refine z_if_ge (tgt := 145) C d_Mo_reckon_137 (by decide) (fun c23 => ?_) (fun c23 => ?_)
                  · have hS24 := hS22.1 c23
                    refine z_dload C d_Mo_reckon_145 0 rfl ?_
                    exact z_dret C hr hlk t_failed rfl hS24 d_Mo_reckon_147
                  · have hS24 := hS22.2 c23
                    refine z_aload_n C d_Mo_reckon_140 rfl 1 rfl ?_
                    refine z_iconst (v := (1 : Int32)) C d_Mo_reckon_141 (by decide) ?_
                    refine z_put (ty := .boolean) (ws' := [zo 6 q_t [.ref q_t_text, .ref q_t_code, .ref q_t_site, .ref q_t_condition, .ref q_t_actions, .ref q_t_kind, .ref q_t_target, .ref q_t_first, .ref q_t_second, .ref q_t_failures, .ref q_t_met, .ref q_t_there, .ref q_t_on, .ref q_t_compared, .ref q_t_globals, .ref q_t_own, .ref q_t_records, .ref q_t_pile, .ref q_t_handed, .ref q_t_keys, .ref q_t_key, .ref q_t_count, .ref q_t_bins, .ref q_t_operator, .ref q_t_starts, .ref q_t_sum, .ref q_t_least, .ref q_t_greatest, .int t_newSite, .int t_newCondition, .int t_newActions, .int t_size, .int t_place, .int t_pos, .int t_at, .int t_operators, .int t_recorded, .int t_lost, .int t_dropped, .int t_firings, .int t_time, .int t_thread, .int t_thrown, .int (1 : Int32)]]) C ty_Mo to_Mo nm_Mo 0 rfl rfl in_Mo 43 (by decide) rfl wf_Mo_173 rfl rfl rfl rfl (Nat.le_of_ble_eq_true rfl) rfl d_Mo_reckon_142 ?_
                    refine z_dload C d_Mo_reckon_145 0 rfl ?_
                    exact z_dret C hr hlk (1 : Int32) rfl hS24 d_Mo_reckon_147
            · have hS12 := hS10.2 c11
              refine z_dload_n C d_Mo_reckon_96 rfl 2 rfl ?_
              refine z_dload C d_Mo_reckon_97 3 rfl ?_
              refine z_dsub C d_Mo_reckon_99 hS12.1 ?_
              have hS25 := hS12.2
              refine z_goto (tgt := 120) C d_Mo_reckon_100 (by decide) ?_
              refine z_dstore (lv' := [(6, .double (FP.dsub x2 x4)), (0, .ref q_t), (1, .int x1), (2, .double x2), (4, .double x4)]) C d_Mo_reckon_120 (by decide) rfl ?_
              refine z_dload C d_Mo_reckon_122 0 rfl ?_
              refine z_ldc2d C d_Mo_reckon_124 wd_Mo_177 ?_
              refine z_dcmp C d_Mo_reckon_127 ?_
              refine z_if_gt (tgt := 140) C d_Mo_reckon_128 (by decide) (fun c26 => ?_) (fun c26 => ?_)
              · have hS27 := hS25.1 c26
                refine z_aload_n C d_Mo_reckon_140 rfl 1 rfl ?_
                refine z_iconst (v := (1 : Int32)) C d_Mo_reckon_141 (by decide) ?_
                refine z_put (ty := .boolean) (ws' := [zo 6 q_t [.ref q_t_text, .ref q_t_code, .ref q_t_site, .ref q_t_condition, .ref q_t_actions, .ref q_t_kind, .ref q_t_target, .ref q_t_first, .ref q_t_second, .ref q_t_failures, .ref q_t_met, .ref q_t_there, .ref q_t_on, .ref q_t_compared, .ref q_t_globals, .ref q_t_own, .ref q_t_records, .ref q_t_pile, .ref q_t_handed, .ref q_t_keys, .ref q_t_key, .ref q_t_count, .ref q_t_bins, .ref q_t_operator, .ref q_t_starts, .ref q_t_sum, .ref q_t_least, .ref q_t_greatest, .int t_newSite, .int t_newCondition, .int t_newActions, .int t_size, .int t_place, .int t_pos, .int t_at, .int t_operators, .int t_recorded, .int t_lost, .int t_dropped, .int t_firings, .int t_time, .int t_thread, .int t_thrown, .int (1 : Int32)]]) C ty_Mo to_Mo nm_Mo 0 rfl rfl in_Mo 43 (by decide) rfl wf_Mo_173 rfl rfl rfl rfl (Nat.le_of_ble_eq_true rfl) rfl d_Mo_reckon_142 ?_
                refine z_dload C d_Mo_reckon_145 0 rfl ?_
                exact z_dret C hr hlk (1 : Int32) rfl hS27 d_Mo_reckon_147
              · have hS27 := hS25.2 c26
                refine z_dload C d_Mo_reckon_131 0 rfl ?_
                refine z_ldc2d C d_Mo_reckon_133 wd_Mo_179 ?_
                refine z_dcmp C d_Mo_reckon_136 ?_
                refine z_if_ge (tgt := 145) C d_Mo_reckon_137 (by decide) (fun c28 => ?_) (fun c28 => ?_)
                · have hS29 := hS27.1 c28
                  refine z_dload C d_Mo_reckon_145 0 rfl ?_
                  exact z_dret C hr hlk t_failed rfl hS29 d_Mo_reckon_147
                · have hS29 := hS27.2 c28
                  refine z_aload_n C d_Mo_reckon_140 rfl 1 rfl ?_
                  refine z_iconst (v := (1 : Int32)) C d_Mo_reckon_141 (by decide) ?_
                  refine z_put (ty := .boolean) (ws' := [zo 6 q_t [.ref q_t_text, .ref q_t_code, .ref q_t_site, .ref q_t_condition, .ref q_t_actions, .ref q_t_kind, .ref q_t_target, .ref q_t_first, .ref q_t_second, .ref q_t_failures, .ref q_t_met, .ref q_t_there, .ref q_t_on, .ref q_t_compared, .ref q_t_globals, .ref q_t_own, .ref q_t_records, .ref q_t_pile, .ref q_t_handed, .ref q_t_keys, .ref q_t_key, .ref q_t_count, .ref q_t_bins, .ref q_t_operator, .ref q_t_starts, .ref q_t_sum, .ref q_t_least, .ref q_t_greatest, .int t_newSite, .int t_newCondition, .int t_newActions, .int t_size, .int t_place, .int t_pos, .int t_at, .int t_operators, .int t_recorded, .int t_lost, .int t_dropped, .int t_firings, .int t_time, .int t_thread, .int t_thrown, .int (1 : Int32)]]) C ty_Mo to_Mo nm_Mo 0 rfl rfl in_Mo 43 (by decide) rfl wf_Mo_173 rfl rfl rfl rfl (Nat.le_of_ble_eq_true rfl) rfl d_Mo_reckon_142 ?_
                  refine z_dload C d_Mo_reckon_145 0 rfl ?_
                  exact z_dret C hr hlk (1 : Int32) rfl hS29 d_Mo_reckon_147
          · have hS10 := hS8.2 c9
            refine z_dload_n C d_Mo_reckon_83 rfl 2 rfl ?_
            refine z_dload C d_Mo_reckon_84 3 rfl ?_
            refine z_dadd C d_Mo_reckon_86 hS10.1 ?_
            have hS30 := hS10.2
            refine z_goto (tgt := 120) C d_Mo_reckon_87 (by decide) ?_
            refine z_dstore (lv' := [(6, .double (FP.dadd x2 x4)), (0, .ref q_t), (1, .int x1), (2, .double x2), (4, .double x4)]) C d_Mo_reckon_120 (by decide) rfl ?_
            refine z_dload C d_Mo_reckon_122 0 rfl ?_
            refine z_ldc2d C d_Mo_reckon_124 wd_Mo_177 ?_
            refine z_dcmp C d_Mo_reckon_127 ?_
            refine z_if_gt (tgt := 140) C d_Mo_reckon_128 (by decide) (fun c31 => ?_) (fun c31 => ?_)
            · have hS32 := hS30.1 c31
              refine z_aload_n C d_Mo_reckon_140 rfl 1 rfl ?_
              refine z_iconst (v := (1 : Int32)) C d_Mo_reckon_141 (by decide) ?_
              refine z_put (ty := .boolean) (ws' := [zo 6 q_t [.ref q_t_text, .ref q_t_code, .ref q_t_site, .ref q_t_condition, .ref q_t_actions, .ref q_t_kind, .ref q_t_target, .ref q_t_first, .ref q_t_second, .ref q_t_failures, .ref q_t_met, .ref q_t_there, .ref q_t_on, .ref q_t_compared, .ref q_t_globals, .ref q_t_own, .ref q_t_records, .ref q_t_pile, .ref q_t_handed, .ref q_t_keys, .ref q_t_key, .ref q_t_count, .ref q_t_bins, .ref q_t_operator, .ref q_t_starts, .ref q_t_sum, .ref q_t_least, .ref q_t_greatest, .int t_newSite, .int t_newCondition, .int t_newActions, .int t_size, .int t_place, .int t_pos, .int t_at, .int t_operators, .int t_recorded, .int t_lost, .int t_dropped, .int t_firings, .int t_time, .int t_thread, .int t_thrown, .int (1 : Int32)]]) C ty_Mo to_Mo nm_Mo 0 rfl rfl in_Mo 43 (by decide) rfl wf_Mo_173 rfl rfl rfl rfl (Nat.le_of_ble_eq_true rfl) rfl d_Mo_reckon_142 ?_
              refine z_dload C d_Mo_reckon_145 0 rfl ?_
              exact z_dret C hr hlk (1 : Int32) rfl hS32 d_Mo_reckon_147
            · have hS32 := hS30.2 c31
              refine z_dload C d_Mo_reckon_131 0 rfl ?_
              refine z_ldc2d C d_Mo_reckon_133 wd_Mo_179 ?_
              refine z_dcmp C d_Mo_reckon_136 ?_
              refine z_if_ge (tgt := 145) C d_Mo_reckon_137 (by decide) (fun c33 => ?_) (fun c33 => ?_)
              · have hS34 := hS32.1 c33
                refine z_dload C d_Mo_reckon_145 0 rfl ?_
                exact z_dret C hr hlk t_failed rfl hS34 d_Mo_reckon_147
              · have hS34 := hS32.2 c33
                refine z_aload_n C d_Mo_reckon_140 rfl 1 rfl ?_
                refine z_iconst (v := (1 : Int32)) C d_Mo_reckon_141 (by decide) ?_
                refine z_put (ty := .boolean) (ws' := [zo 6 q_t [.ref q_t_text, .ref q_t_code, .ref q_t_site, .ref q_t_condition, .ref q_t_actions, .ref q_t_kind, .ref q_t_target, .ref q_t_first, .ref q_t_second, .ref q_t_failures, .ref q_t_met, .ref q_t_there, .ref q_t_on, .ref q_t_compared, .ref q_t_globals, .ref q_t_own, .ref q_t_records, .ref q_t_pile, .ref q_t_handed, .ref q_t_keys, .ref q_t_key, .ref q_t_count, .ref q_t_bins, .ref q_t_operator, .ref q_t_starts, .ref q_t_sum, .ref q_t_least, .ref q_t_greatest, .int t_newSite, .int t_newCondition, .int t_newActions, .int t_size, .int t_place, .int t_pos, .int t_at, .int t_operators, .int t_recorded, .int t_lost, .int t_dropped, .int t_firings, .int t_time, .int t_thread, .int t_thrown, .int (1 : Int32)]]) C ty_Mo to_Mo nm_Mo 0 rfl rfl in_Mo 43 (by decide) rfl wf_Mo_173 rfl rfl rfl rfl (Nat.le_of_ble_eq_true rfl) rfl d_Mo_reckon_142 ?_
                refine z_dload C d_Mo_reckon_145 0 rfl ?_
                exact z_dret C hr hlk (1 : Int32) rfl hS34 d_Mo_reckon_147
        · have hS8 := hS6.2 c7
          refine z_dload C d_Mo_reckon_63 3 rfl ?_
          refine z_dconst0 C d_Mo_reckon_65 ?_
          refine z_dcmp C d_Mo_reckon_66 ?_
          refine z_if_ne (tgt := 77) C d_Mo_reckon_67 (by decide) (fun c35 => ?_) (fun c35 => ?_)
          · have hS36 := hS8.1 c35
            refine z_iload_n C d_Mo_reckon_77 rfl 1 rfl ?_
            refine z_bipush (v := (43 : Int32)) C d_Mo_reckon_78 (by decide) ?_
            refine z_icmp_ne (tgt := 90) C d_Mo_reckon_80 (by decide) (fun c37 => ?_) (fun c37 => ?_)
            · have hS38 := hS36.1 c37
              refine z_iload_n C d_Mo_reckon_90 rfl 1 rfl ?_
              refine z_bipush (v := (45 : Int32)) C d_Mo_reckon_91 (by decide) ?_
              refine z_icmp_ne (tgt := 103) C d_Mo_reckon_93 (by decide) (fun c39 => ?_) (fun c39 => ?_)
              · have hS40 := hS38.1 c39
                refine z_iload_n C d_Mo_reckon_103 rfl 1 rfl ?_
                refine z_bipush (v := (42 : Int32)) C d_Mo_reckon_104 (by decide) ?_
                refine z_icmp_ne (tgt := 116) C d_Mo_reckon_106 (by decide) (fun c41 => ?_) (fun c41 => ?_)
                · have hS42 := hS40.1 c41
                  refine z_dload_n C d_Mo_reckon_116 rfl 2 rfl ?_
                  refine z_dload C d_Mo_reckon_117 3 rfl ?_
                  refine z_ddiv C d_Mo_reckon_119 hS42.1 ?_
                  have hS43 := hS42.2
                  refine z_dstore (lv' := [(6, .double (FP.ddiv x2 x4)), (0, .ref q_t), (1, .int x1), (2, .double x2), (4, .double x4)]) C d_Mo_reckon_120 (by decide) rfl ?_
                  refine z_dload C d_Mo_reckon_122 0 rfl ?_
                  refine z_ldc2d C d_Mo_reckon_124 wd_Mo_177 ?_
                  refine z_dcmp C d_Mo_reckon_127 ?_
                  refine z_if_gt (tgt := 140) C d_Mo_reckon_128 (by decide) (fun c44 => ?_) (fun c44 => ?_)
                  · have hS45 := hS43.1 c44
                    refine z_aload_n C d_Mo_reckon_140 rfl 1 rfl ?_
                    refine z_iconst (v := (1 : Int32)) C d_Mo_reckon_141 (by decide) ?_
                    refine z_put (ty := .boolean) (ws' := [zo 6 q_t [.ref q_t_text, .ref q_t_code, .ref q_t_site, .ref q_t_condition, .ref q_t_actions, .ref q_t_kind, .ref q_t_target, .ref q_t_first, .ref q_t_second, .ref q_t_failures, .ref q_t_met, .ref q_t_there, .ref q_t_on, .ref q_t_compared, .ref q_t_globals, .ref q_t_own, .ref q_t_records, .ref q_t_pile, .ref q_t_handed, .ref q_t_keys, .ref q_t_key, .ref q_t_count, .ref q_t_bins, .ref q_t_operator, .ref q_t_starts, .ref q_t_sum, .ref q_t_least, .ref q_t_greatest, .int t_newSite, .int t_newCondition, .int t_newActions, .int t_size, .int t_place, .int t_pos, .int t_at, .int t_operators, .int t_recorded, .int t_lost, .int t_dropped, .int t_firings, .int t_time, .int t_thread, .int t_thrown, .int (1 : Int32)]]) C ty_Mo to_Mo nm_Mo 0 rfl rfl in_Mo 43 (by decide) rfl wf_Mo_173 rfl rfl rfl rfl (Nat.le_of_ble_eq_true rfl) rfl d_Mo_reckon_142 ?_
                    refine z_dload C d_Mo_reckon_145 0 rfl ?_
                    exact z_dret C hr hlk (1 : Int32) rfl hS45 d_Mo_reckon_147
                  · have hS45 := hS43.2 c44
                    refine z_dload C d_Mo_reckon_131 0 rfl ?_
                    refine z_ldc2d C d_Mo_reckon_133 wd_Mo_179 ?_
                    refine z_dcmp C d_Mo_reckon_136 ?_
                    refine z_if_ge (tgt := 145) C d_Mo_reckon_137 (by decide) (fun c46 => ?_) (fun c46 => ?_)
                    · have hS47 := hS45.1 c46
                      refine z_dload C d_Mo_reckon_145 0 rfl ?_
                      exact z_dret C hr hlk t_failed rfl hS47 d_Mo_reckon_147
                    · have hS47 := hS45.2 c46
                      refine z_aload_n C d_Mo_reckon_140 rfl 1 rfl ?_
                      refine z_iconst (v := (1 : Int32)) C d_Mo_reckon_141 (by decide) ?_
                      refine z_put (ty := .boolean) (ws' := [zo 6 q_t [.ref q_t_text, .ref q_t_code, .ref q_t_site, .ref q_t_condition, .ref q_t_actions, .ref q_t_kind, .ref q_t_target, .ref q_t_first, .ref q_t_second, .ref q_t_failures, .ref q_t_met, .ref q_t_there, .ref q_t_on, .ref q_t_compared, .ref q_t_globals, .ref q_t_own, .ref q_t_records, .ref q_t_pile, .ref q_t_handed, .ref q_t_keys, .ref q_t_key, .ref q_t_count, .ref q_t_bins, .ref q_t_operator, .ref q_t_starts, .ref q_t_sum, .ref q_t_least, .ref q_t_greatest, .int t_newSite, .int t_newCondition, .int t_newActions, .int t_size, .int t_place, .int t_pos, .int t_at, .int t_operators, .int t_recorded, .int t_lost, .int t_dropped, .int t_firings, .int t_time, .int t_thread, .int t_thrown, .int (1 : Int32)]]) C ty_Mo to_Mo nm_Mo 0 rfl rfl in_Mo 43 (by decide) rfl wf_Mo_173 rfl rfl rfl rfl (Nat.le_of_ble_eq_true rfl) rfl d_Mo_reckon_142 ?_
                      refine z_dload C d_Mo_reckon_145 0 rfl ?_
                      exact z_dret C hr hlk (1 : Int32) rfl hS47 d_Mo_reckon_147
                · have hS42 := hS40.2 c41
                  refine z_dload_n C d_Mo_reckon_109 rfl 2 rfl ?_
                  refine z_dload C d_Mo_reckon_110 3 rfl ?_
                  refine z_dmul C d_Mo_reckon_112 hS42.1 ?_
                  have hS48 := hS42.2
                  refine z_goto (tgt := 120) C d_Mo_reckon_113 (by decide) ?_
                  refine z_dstore (lv' := [(6, .double (FP.dmul x2 x4)), (0, .ref q_t), (1, .int x1), (2, .double x2), (4, .double x4)]) C d_Mo_reckon_120 (by decide) rfl ?_
                  refine z_dload C d_Mo_reckon_122 0 rfl ?_
                  refine z_ldc2d C d_Mo_reckon_124 wd_Mo_177 ?_
                  refine z_dcmp C d_Mo_reckon_127 ?_
                  refine z_if_gt (tgt := 140) C d_Mo_reckon_128 (by decide) (fun c49 => ?_) (fun c49 => ?_)
                  · have hS50 := hS48.1 c49
                    refine z_aload_n C d_Mo_reckon_140 rfl 1 rfl ?_
                    refine z_iconst (v := (1 : Int32)) C d_Mo_reckon_141 (by decide) ?_
                    refine z_put (ty := .boolean) (ws' := [zo 6 q_t [.ref q_t_text, .ref q_t_code, .ref q_t_site, .ref q_t_condition, .ref q_t_actions, .ref q_t_kind, .ref q_t_target, .ref q_t_first, .ref q_t_second, .ref q_t_failures, .ref q_t_met, .ref q_t_there, .ref q_t_on, .ref q_t_compared, .ref q_t_globals, .ref q_t_own, .ref q_t_records, .ref q_t_pile, .ref q_t_handed, .ref q_t_keys, .ref q_t_key, .ref q_t_count, .ref q_t_bins, .ref q_t_operator, .ref q_t_starts, .ref q_t_sum, .ref q_t_least, .ref q_t_greatest, .int t_newSite, .int t_newCondition, .int t_newActions, .int t_size, .int t_place, .int t_pos, .int t_at, .int t_operators, .int t_recorded, .int t_lost, .int t_dropped, .int t_firings, .int t_time, .int t_thread, .int t_thrown, .int (1 : Int32)]]) C ty_Mo to_Mo nm_Mo 0 rfl rfl in_Mo 43 (by decide) rfl wf_Mo_173 rfl rfl rfl rfl (Nat.le_of_ble_eq_true rfl) rfl d_Mo_reckon_142 ?_
                    refine z_dload C d_Mo_reckon_145 0 rfl ?_
                    exact z_dret C hr hlk (1 : Int32) rfl hS50 d_Mo_reckon_147
                  · have hS50 := hS48.2 c49
                    refine z_dload C d_Mo_reckon_131 0 rfl ?_
                    refine z_ldc2d C d_Mo_reckon_133 wd_Mo_179 ?_
                    refine z_dcmp C d_Mo_reckon_136 ?_
                    refine z_if_ge (tgt := 145) C d_Mo_reckon_137 (by decide) (fun c51 => ?_) (fun c51 => ?_)
                    · have hS52 := hS50.1 c51
                      refine z_dload C d_Mo_reckon_145 0 rfl ?_
                      exact z_dret C hr hlk t_failed rfl hS52 d_Mo_reckon_147
                    · have hS52 := hS50.2 c51
                      refine z_aload_n C d_Mo_reckon_140 rfl 1 rfl ?_
                      refine z_iconst (v := (1 : Int32)) C d_Mo_reckon_141 (by decide) ?_
                      refine z_put (ty := .boolean) (ws' := [zo 6 q_t [.ref q_t_text, .ref q_t_code, .ref q_t_site, .ref q_t_condition, .ref q_t_actions, .ref q_t_kind, .ref q_t_target, .ref q_t_first, .ref q_t_second, .ref q_t_failures, .ref q_t_met, .ref q_t_there, .ref q_t_on, .ref q_t_compared, .ref q_t_globals, .ref q_t_own, .ref q_t_records, .ref q_t_pile, .ref q_t_handed, .ref q_t_keys, .ref q_t_key, .ref q_t_count, .ref q_t_bins, .ref q_t_operator, .ref q_t_starts, .ref q_t_sum, .ref q_t_least, .ref q_t_greatest, .int t_newSite, .int t_newCondition, .int t_newActions, .int t_size, .int t_place, .int t_pos, .int t_at, .int t_operators, .int t_recorded, .int t_lost, .int t_dropped, .int t_firings, .int t_time, .int t_thread, .int t_thrown, .int (1 : Int32)]]) C ty_Mo to_Mo nm_Mo 0 rfl rfl in_Mo 43 (by decide) rfl wf_Mo_173 rfl rfl rfl rfl (Nat.le_of_ble_eq_true rfl) rfl d_Mo_reckon_142 ?_
                      refine z_dload C d_Mo_reckon_145 0 rfl ?_
                      exact z_dret C hr hlk (1 : Int32) rfl hS52 d_Mo_reckon_147
              · have hS40 := hS38.2 c39
                refine z_dload_n C d_Mo_reckon_96 rfl 2 rfl ?_
                refine z_dload C d_Mo_reckon_97 3 rfl ?_
                refine z_dsub C d_Mo_reckon_99 hS40.1 ?_
                have hS53 := hS40.2
                refine z_goto (tgt := 120) C d_Mo_reckon_100 (by decide) ?_
                refine z_dstore (lv' := [(6, .double (FP.dsub x2 x4)), (0, .ref q_t), (1, .int x1), (2, .double x2), (4, .double x4)]) C d_Mo_reckon_120 (by decide) rfl ?_
                refine z_dload C d_Mo_reckon_122 0 rfl ?_
                refine z_ldc2d C d_Mo_reckon_124 wd_Mo_177 ?_
                refine z_dcmp C d_Mo_reckon_127 ?_
                refine z_if_gt (tgt := 140) C d_Mo_reckon_128 (by decide) (fun c54 => ?_) (fun c54 => ?_)
                · have hS55 := hS53.1 c54
                  refine z_aload_n C d_Mo_reckon_140 rfl 1 rfl ?_
                  refine z_iconst (v := (1 : Int32)) C d_Mo_reckon_141 (by decide) ?_
                  refine z_put (ty := .boolean) (ws' := [zo 6 q_t [.ref q_t_text, .ref q_t_code, .ref q_t_site, .ref q_t_condition, .ref q_t_actions, .ref q_t_kind, .ref q_t_target, .ref q_t_first, .ref q_t_second, .ref q_t_failures, .ref q_t_met, .ref q_t_there, .ref q_t_on, .ref q_t_compared, .ref q_t_globals, .ref q_t_own, .ref q_t_records, .ref q_t_pile, .ref q_t_handed, .ref q_t_keys, .ref q_t_key, .ref q_t_count, .ref q_t_bins, .ref q_t_operator, .ref q_t_starts, .ref q_t_sum, .ref q_t_least, .ref q_t_greatest, .int t_newSite, .int t_newCondition, .int t_newActions, .int t_size, .int t_place, .int t_pos, .int t_at, .int t_operators, .int t_recorded, .int t_lost, .int t_dropped, .int t_firings, .int t_time, .int t_thread, .int t_thrown, .int (1 : Int32)]]) C ty_Mo to_Mo nm_Mo 0 rfl rfl in_Mo 43 (by decide) rfl wf_Mo_173 rfl rfl rfl rfl (Nat.le_of_ble_eq_true rfl) rfl d_Mo_reckon_142 ?_
                  refine z_dload C d_Mo_reckon_145 0 rfl ?_
                  exact z_dret C hr hlk (1 : Int32) rfl hS55 d_Mo_reckon_147
                · have hS55 := hS53.2 c54
                  refine z_dload C d_Mo_reckon_131 0 rfl ?_
                  refine z_ldc2d C d_Mo_reckon_133 wd_Mo_179 ?_
                  refine z_dcmp C d_Mo_reckon_136 ?_
                  refine z_if_ge (tgt := 145) C d_Mo_reckon_137 (by decide) (fun c56 => ?_) (fun c56 => ?_)
                  · have hS57 := hS55.1 c56
                    refine z_dload C d_Mo_reckon_145 0 rfl ?_
                    exact z_dret C hr hlk t_failed rfl hS57 d_Mo_reckon_147
                  · have hS57 := hS55.2 c56
                    refine z_aload_n C d_Mo_reckon_140 rfl 1 rfl ?_
                    refine z_iconst (v := (1 : Int32)) C d_Mo_reckon_141 (by decide) ?_
                    refine z_put (ty := .boolean) (ws' := [zo 6 q_t [.ref q_t_text, .ref q_t_code, .ref q_t_site, .ref q_t_condition, .ref q_t_actions, .ref q_t_kind, .ref q_t_target, .ref q_t_first, .ref q_t_second, .ref q_t_failures, .ref q_t_met, .ref q_t_there, .ref q_t_on, .ref q_t_compared, .ref q_t_globals, .ref q_t_own, .ref q_t_records, .ref q_t_pile, .ref q_t_handed, .ref q_t_keys, .ref q_t_key, .ref q_t_count, .ref q_t_bins, .ref q_t_operator, .ref q_t_starts, .ref q_t_sum, .ref q_t_least, .ref q_t_greatest, .int t_newSite, .int t_newCondition, .int t_newActions, .int t_size, .int t_place, .int t_pos, .int t_at, .int t_operators, .int t_recorded, .int t_lost, .int t_dropped, .int t_firings, .int t_time, .int t_thread, .int t_thrown, .int (1 : Int32)]]) C ty_Mo to_Mo nm_Mo 0 rfl rfl in_Mo 43 (by decide) rfl wf_Mo_173 rfl rfl rfl rfl (Nat.le_of_ble_eq_true rfl) rfl d_Mo_reckon_142 ?_
                    refine z_dload C d_Mo_reckon_145 0 rfl ?_
                    exact z_dret C hr hlk (1 : Int32) rfl hS57 d_Mo_reckon_147
            · have hS38 := hS36.2 c37
              refine z_dload_n C d_Mo_reckon_83 rfl 2 rfl ?_
              refine z_dload C d_Mo_reckon_84 3 rfl ?_
              refine z_dadd C d_Mo_reckon_86 hS38.1 ?_
              have hS58 := hS38.2
              refine z_goto (tgt := 120) C d_Mo_reckon_87 (by decide) ?_
              refine z_dstore (lv' := [(6, .double (FP.dadd x2 x4)), (0, .ref q_t), (1, .int x1), (2, .double x2), (4, .double x4)]) C d_Mo_reckon_120 (by decide) rfl ?_
              refine z_dload C d_Mo_reckon_122 0 rfl ?_
              refine z_ldc2d C d_Mo_reckon_124 wd_Mo_177 ?_
              refine z_dcmp C d_Mo_reckon_127 ?_
              refine z_if_gt (tgt := 140) C d_Mo_reckon_128 (by decide) (fun c59 => ?_) (fun c59 => ?_)
              · have hS60 := hS58.1 c59
                refine z_aload_n C d_Mo_reckon_140 rfl 1 rfl ?_
                refine z_iconst (v := (1 : Int32)) C d_Mo_reckon_141 (by decide) ?_
                refine z_put (ty := .boolean) (ws' := [zo 6 q_t [.ref q_t_text, .ref q_t_code, .ref q_t_site, .ref q_t_condition, .ref q_t_actions, .ref q_t_kind, .ref q_t_target, .ref q_t_first, .ref q_t_second, .ref q_t_failures, .ref q_t_met, .ref q_t_there, .ref q_t_on, .ref q_t_compared, .ref q_t_globals, .ref q_t_own, .ref q_t_records, .ref q_t_pile, .ref q_t_handed, .ref q_t_keys, .ref q_t_key, .ref q_t_count, .ref q_t_bins, .ref q_t_operator, .ref q_t_starts, .ref q_t_sum, .ref q_t_least, .ref q_t_greatest, .int t_newSite, .int t_newCondition, .int t_newActions, .int t_size, .int t_place, .int t_pos, .int t_at, .int t_operators, .int t_recorded, .int t_lost, .int t_dropped, .int t_firings, .int t_time, .int t_thread, .int t_thrown, .int (1 : Int32)]]) C ty_Mo to_Mo nm_Mo 0 rfl rfl in_Mo 43 (by decide) rfl wf_Mo_173 rfl rfl rfl rfl (Nat.le_of_ble_eq_true rfl) rfl d_Mo_reckon_142 ?_
                refine z_dload C d_Mo_reckon_145 0 rfl ?_
                exact z_dret C hr hlk (1 : Int32) rfl hS60 d_Mo_reckon_147
              · have hS60 := hS58.2 c59
                refine z_dload C d_Mo_reckon_131 0 rfl ?_
                refine z_ldc2d C d_Mo_reckon_133 wd_Mo_179 ?_
                refine z_dcmp C d_Mo_reckon_136 ?_
                refine z_if_ge (tgt := 145) C d_Mo_reckon_137 (by decide) (fun c61 => ?_) (fun c61 => ?_)
                · have hS62 := hS60.1 c61
                  refine z_dload C d_Mo_reckon_145 0 rfl ?_
                  exact z_dret C hr hlk t_failed rfl hS62 d_Mo_reckon_147
                · have hS62 := hS60.2 c61
                  refine z_aload_n C d_Mo_reckon_140 rfl 1 rfl ?_
                  refine z_iconst (v := (1 : Int32)) C d_Mo_reckon_141 (by decide) ?_
                  refine z_put (ty := .boolean) (ws' := [zo 6 q_t [.ref q_t_text, .ref q_t_code, .ref q_t_site, .ref q_t_condition, .ref q_t_actions, .ref q_t_kind, .ref q_t_target, .ref q_t_first, .ref q_t_second, .ref q_t_failures, .ref q_t_met, .ref q_t_there, .ref q_t_on, .ref q_t_compared, .ref q_t_globals, .ref q_t_own, .ref q_t_records, .ref q_t_pile, .ref q_t_handed, .ref q_t_keys, .ref q_t_key, .ref q_t_count, .ref q_t_bins, .ref q_t_operator, .ref q_t_starts, .ref q_t_sum, .ref q_t_least, .ref q_t_greatest, .int t_newSite, .int t_newCondition, .int t_newActions, .int t_size, .int t_place, .int t_pos, .int t_at, .int t_operators, .int t_recorded, .int t_lost, .int t_dropped, .int t_firings, .int t_time, .int t_thread, .int t_thrown, .int (1 : Int32)]]) C ty_Mo to_Mo nm_Mo 0 rfl rfl in_Mo 43 (by decide) rfl wf_Mo_173 rfl rfl rfl rfl (Nat.le_of_ble_eq_true rfl) rfl d_Mo_reckon_142 ?_
                  refine z_dload C d_Mo_reckon_145 0 rfl ?_
                  exact z_dret C hr hlk (1 : Int32) rfl hS62 d_Mo_reckon_147
          · have hS36 := hS8.2 c35
            refine z_aload_n C d_Mo_reckon_70 rfl 0 rfl ?_
            refine z_iconst (v := (1 : Int32)) C d_Mo_reckon_71 (by decide) ?_
            refine z_put (ty := .boolean) (ws' := [zo 6 q_t [.ref q_t_text, .ref q_t_code, .ref q_t_site, .ref q_t_condition, .ref q_t_actions, .ref q_t_kind, .ref q_t_target, .ref q_t_first, .ref q_t_second, .ref q_t_failures, .ref q_t_met, .ref q_t_there, .ref q_t_on, .ref q_t_compared, .ref q_t_globals, .ref q_t_own, .ref q_t_records, .ref q_t_pile, .ref q_t_handed, .ref q_t_keys, .ref q_t_key, .ref q_t_count, .ref q_t_bins, .ref q_t_operator, .ref q_t_starts, .ref q_t_sum, .ref q_t_least, .ref q_t_greatest, .int t_newSite, .int t_newCondition, .int t_newActions, .int t_size, .int t_place, .int t_pos, .int t_at, .int t_operators, .int t_recorded, .int t_lost, .int t_dropped, .int t_firings, .int t_time, .int t_thread, .int t_thrown, .int (1 : Int32)]]) C ty_Mo to_Mo nm_Mo 0 rfl rfl in_Mo 43 (by decide) rfl wf_Mo_173 rfl rfl rfl rfl (Nat.le_of_ble_eq_true rfl) rfl d_Mo_reckon_72 ?_
            refine z_dconst0 C d_Mo_reckon_75 ?_
            exact z_dret C hr hlk (1 : Int32) rfl hS36 d_Mo_reckon_76
      · have hS6 := hS4.2 c5
        refine z_dload_n C d_Mo_reckon_44 rfl 2 rfl ?_
        refine z_dload C d_Mo_reckon_45 3 rfl ?_
        refine z_dcmp C d_Mo_reckon_47 ?_
        refine z_if_ne (tgt := 55) C d_Mo_reckon_48 (by decide) (fun c63 => ?_) (fun c63 => ?_)
        · have hS64 := hS6.1 c63
          refine z_dconst0 C d_Mo_reckon_55 ?_
          exact z_dret C hr hlk t_failed rfl hS64 d_Mo_reckon_56
        · have hS64 := hS6.2 c63
          refine z_dconst1 C d_Mo_reckon_51 ?_
          refine z_goto (tgt := 56) C d_Mo_reckon_52 (by decide) ?_
          exact z_dret C hr hlk t_failed rfl hS64 d_Mo_reckon_56
    · have hS4 := hS2.2 c3
      refine z_dload_n C d_Mo_reckon_25 rfl 2 rfl ?_
      refine z_dload C d_Mo_reckon_26 3 rfl ?_
      refine z_dcmp C d_Mo_reckon_28 ?_
      refine z_if_le (tgt := 36) C d_Mo_reckon_29 (by decide) (fun c65 => ?_) (fun c65 => ?_)
      · have hS66 := hS4.1 c65
        refine z_dconst0 C d_Mo_reckon_36 ?_
        exact z_dret C hr hlk t_failed rfl hS66 d_Mo_reckon_37
      · have hS66 := hS4.2 c65
        refine z_dconst1 C d_Mo_reckon_32 ?_
        refine z_goto (tgt := 37) C d_Mo_reckon_33 (by decide) ?_
        exact z_dret C hr hlk t_failed rfl hS66 d_Mo_reckon_37
  · have hS2 := hS0.2 c1
    refine z_dload_n C d_Mo_reckon_6 rfl 2 rfl ?_
    refine z_dload C d_Mo_reckon_7 3 rfl ?_
    refine z_dcmp C d_Mo_reckon_9 ?_
    refine z_if_ge (tgt := 17) C d_Mo_reckon_10 (by decide) (fun c67 => ?_) (fun c67 => ?_)
    · have hS68 := hS2.1 c67
      refine z_dconst0 C d_Mo_reckon_17 ?_
      exact z_dret C hr hlk t_failed rfl hS68 d_Mo_reckon_18
    · have hS68 := hS2.2 c67
      refine z_dconst1 C d_Mo_reckon_13 ?_
      refine z_goto (tgt := 18) C d_Mo_reckon_14 (by decide) ?_
      exact z_dret C hr hlk t_failed rfl hS68 d_Mo_reckon_18
def s_Mo_reckon (t_failed : Int32) (x1 : Int32) (x2 : UInt64) (x4 : UInt64) : UInt64 × Int32 := (if x1 = (60 : Int32) then (if 0 ≤ (Op.cmpValue (FP.dcmp x2 x4) .g) then (FP.dconst0, t_failed) else (FP.dconst1, t_failed)) else (if x1 = (62 : Int32) then (if (Op.cmpValue (FP.dcmp x2 x4) .l) ≤ 0 then (FP.dconst0, t_failed) else (FP.dconst1, t_failed)) else (if x1 = (61 : Int32) then (if (Op.cmpValue (FP.dcmp x2 x4) .l) = 0 then (FP.dconst1, t_failed) else (FP.dconst0, t_failed)) else (if x1 = (58 : Int32) then (if (Op.cmpValue (FP.dcmp x4 FP.dconst0) .l) = 0 then (FP.dconst0, (1 : Int32)) else (if x1 = (43 : Int32) then (if 0 < (Op.cmpValue (FP.dcmp (FP.dadd x2 x4) (4741671816366391296 : UInt64)) .l) then (FP.dadd x2 x4, (1 : Int32)) else (if 0 ≤ (Op.cmpValue (FP.dcmp (FP.dadd x2 x4) (13965043853221167104 : UInt64)) .g) then (FP.dadd x2 x4, t_failed) else (FP.dadd x2 x4, (1 : Int32)))) else (if x1 = (45 : Int32) then (if 0 < (Op.cmpValue (FP.dcmp (FP.dsub x2 x4) (4741671816366391296 : UInt64)) .l) then (FP.dsub x2 x4, (1 : Int32)) else (if 0 ≤ (Op.cmpValue (FP.dcmp (FP.dsub x2 x4) (13965043853221167104 : UInt64)) .g) then (FP.dsub x2 x4, t_failed) else (FP.dsub x2 x4, (1 : Int32)))) else (if x1 = (42 : Int32) then (if 0 < (Op.cmpValue (FP.dcmp (FP.dmul x2 x4) (4741671816366391296 : UInt64)) .l) then (FP.dmul x2 x4, (1 : Int32)) else (if 0 ≤ (Op.cmpValue (FP.dcmp (FP.dmul x2 x4) (13965043853221167104 : UInt64)) .g) then (FP.dmul x2 x4, t_failed) else (FP.dmul x2 x4, (1 : Int32)))) else (if 0 < (Op.cmpValue (FP.dcmp (FP.ddiv x2 x4) (4741671816366391296 : UInt64)) .l) then (FP.ddiv x2 x4, (1 : Int32)) else (if 0 ≤ (Op.cmpValue (FP.dcmp (FP.ddiv x2 x4) (13965043853221167104 : UInt64)) .g) then (FP.ddiv x2 x4, t_failed) else (FP.ddiv x2 x4, (1 : Int32)))))))) else (if x1 = (43 : Int32) then (if 0 < (Op.cmpValue (FP.dcmp (FP.dadd x2 x4) (4741671816366391296 : UInt64)) .l) then (FP.dadd x2 x4, (1 : Int32)) else (if 0 ≤ (Op.cmpValue (FP.dcmp (FP.dadd x2 x4) (13965043853221167104 : UInt64)) .g) then (FP.dadd x2 x4, t_failed) else (FP.dadd x2 x4, (1 : Int32)))) else (if x1 = (45 : Int32) then (if 0 < (Op.cmpValue (FP.dcmp (FP.dsub x2 x4) (4741671816366391296 : UInt64)) .l) then (FP.dsub x2 x4, (1 : Int32)) else (if 0 ≤ (Op.cmpValue (FP.dcmp (FP.dsub x2 x4) (13965043853221167104 : UInt64)) .g) then (FP.dsub x2 x4, t_failed) else (FP.dsub x2 x4, (1 : Int32)))) else (if x1 = (42 : Int32) then (if 0 < (Op.cmpValue (FP.dcmp (FP.dmul x2 x4) (4741671816366391296 : UInt64)) .l) then (FP.dmul x2 x4, (1 : Int32)) else (if 0 ≤ (Op.cmpValue (FP.dcmp (FP.dmul x2 x4) (13965043853221167104 : UInt64)) .g) then (FP.dmul x2 x4, t_failed) else (FP.dmul x2 x4, (1 : Int32)))) else (if 0 < (Op.cmpValue (FP.dcmp (FP.ddiv x2 x4) (4741671816366391296 : UInt64)) .l) then (FP.ddiv x2 x4, (1 : Int32)) else (if 0 ≤ (Op.cmpValue (FP.dcmp (FP.ddiv x2 x4) (13965043853221167104 : UInt64)) .g) then (FP.ddiv x2 x4, t_failed) else (FP.ddiv x2 x4, (1 : Int32)))))))))))
def p_Mo_reckon (t_failed : Int32) (x1 : Int32) (x2 : UInt64) (x4 : UInt64) : Prop := WP_Mo_reckon t_failed x1 x2 x4 (fun _ _ => True)
set_option maxRecDepth 100000 in
theorem v_Mo_reckon (t_failed : Int32) (x1 : Int32) (x2 : UInt64) (x4 : UInt64) (hp : p_Mo_reckon t_failed x1 x2 x4) : WP_Mo_reckon t_failed x1 x2 x4 (fun r u => s_Mo_reckon t_failed x1 x2 x4 = (r, u)) := by
  unfold p_Mo_reckon WP_Mo_reckon at hp
  obtain ⟨tgt, f0⟩ : ∃ tgt, s_Mo_reckon t_failed x1 x2 x4 = tgt := ⟨_, rfl⟩
  rw [f0]
  unfold s_Mo_reckon at f0
  unfold WP_Mo_reckon
  refine ⟨fun c1 => ?_, fun c1 => ?_⟩
  · have f1 := Eq.trans (Eq.symm (if_neg c1)) f0
    have g1 := hp.1 c1
    refine ⟨fun c3 => ?_, fun c3 => ?_⟩
    · have f2 := Eq.trans (Eq.symm (if_neg c3)) f1
      have g2 := g1.1 c3
      refine ⟨fun c5 => ?_, fun c5 => ?_⟩
      · have f3 := Eq.trans (Eq.symm (if_neg c5)) f2
        have g3 := g2.1 c5
        refine ⟨fun c7 => ?_, fun c7 => ?_⟩
        · have f4 := Eq.trans (Eq.symm (if_neg c7)) f3
          have g4 := g3.1 c7
          refine ⟨fun c9 => ?_, fun c9 => ?_⟩
          · have f5 := Eq.trans (Eq.symm (if_neg c9)) f4
            have g5 := g4.1 c9
            refine ⟨fun c11 => ?_, fun c11 => ?_⟩
            · have f6 := Eq.trans (Eq.symm (if_neg c11)) f5
              have g6 := g5.1 c11
              refine ⟨fun c13 => ?_, fun c13 => ?_⟩
              · have f7 := Eq.trans (Eq.symm (if_neg c13)) f6
                have g7 := g6.1 c13
                refine ⟨g7.1, ?_⟩
                have g8 := g7.2
                refine ⟨fun c16 => ?_, fun c16 => ?_⟩
                · have f9 := Eq.trans (Eq.symm (if_pos c16)) f7
                  have g9 := g8.1 c16
                  exact f9.symm
                · have f9 := Eq.trans (Eq.symm (if_neg c16)) f7
                  have g9 := g8.2 c16
                  refine ⟨fun c18 => ?_, fun c18 => ?_⟩
                  · have f10 := Eq.trans (Eq.symm (if_pos c18)) f9
                    have g10 := g9.1 c18
                    exact f10.symm
                  · have f10 := Eq.trans (Eq.symm (if_neg c18)) f9
                    have g10 := g9.2 c18
                    exact f10.symm
              · have f7 := Eq.trans (Eq.symm (if_pos c13)) f6
                have g7 := g6.2 c13
                refine ⟨g7.1, ?_⟩
                have g11 := g7.2
                refine ⟨fun c21 => ?_, fun c21 => ?_⟩
                · have f12 := Eq.trans (Eq.symm (if_pos c21)) f7
                  have g12 := g11.1 c21
                  exact f12.symm
                · have f12 := Eq.trans (Eq.symm (if_neg c21)) f7
                  have g12 := g11.2 c21
                  refine ⟨fun c23 => ?_, fun c23 => ?_⟩
                  · have f13 := Eq.trans (Eq.symm (if_pos c23)) f12
                    have g13 := g12.1 c23
                    exact f13.symm
                  · have f13 := Eq.trans (Eq.symm (if_neg c23)) f12
                    have g13 := g12.2 c23
                    exact f13.symm
            · have f6 := Eq.trans (Eq.symm (if_pos c11)) f5
              have g6 := g5.2 c11
              refine ⟨g6.1, ?_⟩
              have g14 := g6.2
              refine ⟨fun c26 => ?_, fun c26 => ?_⟩
              · have f15 := Eq.trans (Eq.symm (if_pos c26)) f6
                have g15 := g14.1 c26
                exact f15.symm
              · have f15 := Eq.trans (Eq.symm (if_neg c26)) f6
                have g15 := g14.2 c26
                refine ⟨fun c28 => ?_, fun c28 => ?_⟩
                · have f16 := Eq.trans (Eq.symm (if_pos c28)) f15
                  have g16 := g15.1 c28
                  exact f16.symm
                · have f16 := Eq.trans (Eq.symm (if_neg c28)) f15
                  have g16 := g15.2 c28
                  exact f16.symm
          · have f5 := Eq.trans (Eq.symm (if_pos c9)) f4
            have g5 := g4.2 c9
            refine ⟨g5.1, ?_⟩
            have g17 := g5.2
            refine ⟨fun c31 => ?_, fun c31 => ?_⟩
            · have f18 := Eq.trans (Eq.symm (if_pos c31)) f5
              have g18 := g17.1 c31
              exact f18.symm
            · have f18 := Eq.trans (Eq.symm (if_neg c31)) f5
              have g18 := g17.2 c31
              refine ⟨fun c33 => ?_, fun c33 => ?_⟩
              · have f19 := Eq.trans (Eq.symm (if_pos c33)) f18
                have g19 := g18.1 c33
                exact f19.symm
              · have f19 := Eq.trans (Eq.symm (if_neg c33)) f18
                have g19 := g18.2 c33
                exact f19.symm
        · have f4 := Eq.trans (Eq.symm (if_pos c7)) f3
          have g4 := g3.2 c7
          refine ⟨fun c35 => ?_, fun c35 => ?_⟩
          · have f20 := Eq.trans (Eq.symm (if_neg c35)) f4
            have g20 := g4.1 c35
            refine ⟨fun c37 => ?_, fun c37 => ?_⟩
            · have f21 := Eq.trans (Eq.symm (if_neg c37)) f20
              have g21 := g20.1 c37
              refine ⟨fun c39 => ?_, fun c39 => ?_⟩
              · have f22 := Eq.trans (Eq.symm (if_neg c39)) f21
                have g22 := g21.1 c39
                refine ⟨fun c41 => ?_, fun c41 => ?_⟩
                · have f23 := Eq.trans (Eq.symm (if_neg c41)) f22
                  have g23 := g22.1 c41
                  refine ⟨g23.1, ?_⟩
                  have g24 := g23.2
                  refine ⟨fun c44 => ?_, fun c44 => ?_⟩
                  · have f25 := Eq.trans (Eq.symm (if_pos c44)) f23
                    have g25 := g24.1 c44
                    exact f25.symm
                  · have f25 := Eq.trans (Eq.symm (if_neg c44)) f23
                    have g25 := g24.2 c44
                    refine ⟨fun c46 => ?_, fun c46 => ?_⟩
                    · have f26 := Eq.trans (Eq.symm (if_pos c46)) f25
                      have g26 := g25.1 c46
                      exact f26.symm
                    · have f26 := Eq.trans (Eq.symm (if_neg c46)) f25
                      have g26 := g25.2 c46
                      exact f26.symm
                · have f23 := Eq.trans (Eq.symm (if_pos c41)) f22
                  have g23 := g22.2 c41
                  refine ⟨g23.1, ?_⟩
                  have g27 := g23.2
                  refine ⟨fun c49 => ?_, fun c49 => ?_⟩
                  · have f28 := Eq.trans (Eq.symm (if_pos c49)) f23
                    have g28 := g27.1 c49
                    exact f28.symm
                  · have f28 := Eq.trans (Eq.symm (if_neg c49)) f23
                    have g28 := g27.2 c49
                    refine ⟨fun c51 => ?_, fun c51 => ?_⟩
                    · have f29 := Eq.trans (Eq.symm (if_pos c51)) f28
                      have g29 := g28.1 c51
                      exact f29.symm
                    · have f29 := Eq.trans (Eq.symm (if_neg c51)) f28
                      have g29 := g28.2 c51
                      exact f29.symm
              · have f22 := Eq.trans (Eq.symm (if_pos c39)) f21
                have g22 := g21.2 c39
                refine ⟨g22.1, ?_⟩
                have g30 := g22.2
                refine ⟨fun c54 => ?_, fun c54 => ?_⟩
                · have f31 := Eq.trans (Eq.symm (if_pos c54)) f22
                  have g31 := g30.1 c54
                  exact f31.symm
                · have f31 := Eq.trans (Eq.symm (if_neg c54)) f22
                  have g31 := g30.2 c54
                  refine ⟨fun c56 => ?_, fun c56 => ?_⟩
                  · have f32 := Eq.trans (Eq.symm (if_pos c56)) f31
                    have g32 := g31.1 c56
                    exact f32.symm
                  · have f32 := Eq.trans (Eq.symm (if_neg c56)) f31
                    have g32 := g31.2 c56
                    exact f32.symm
            · have f21 := Eq.trans (Eq.symm (if_pos c37)) f20
              have g21 := g20.2 c37
              refine ⟨g21.1, ?_⟩
              have g33 := g21.2
              refine ⟨fun c59 => ?_, fun c59 => ?_⟩
              · have f34 := Eq.trans (Eq.symm (if_pos c59)) f21
                have g34 := g33.1 c59
                exact f34.symm
              · have f34 := Eq.trans (Eq.symm (if_neg c59)) f21
                have g34 := g33.2 c59
                refine ⟨fun c61 => ?_, fun c61 => ?_⟩
                · have f35 := Eq.trans (Eq.symm (if_pos c61)) f34
                  have g35 := g34.1 c61
                  exact f35.symm
                · have f35 := Eq.trans (Eq.symm (if_neg c61)) f34
                  have g35 := g34.2 c61
                  exact f35.symm
          · have f20 := Eq.trans (Eq.symm (if_pos c35)) f4
            have g20 := g4.2 c35
            exact f20.symm
      · have f3 := Eq.trans (Eq.symm (if_pos c5)) f2
        have g3 := g2.2 c5
        refine ⟨fun c63 => ?_, fun c63 => ?_⟩
        · have f36 := Eq.trans (Eq.symm (if_neg c63)) f3
          have g36 := g3.1 c63
          exact f36.symm
        · have f36 := Eq.trans (Eq.symm (if_pos c63)) f3
          have g36 := g3.2 c63
          exact f36.symm
    · have f2 := Eq.trans (Eq.symm (if_pos c3)) f1
      have g2 := g1.2 c3
      refine ⟨fun c65 => ?_, fun c65 => ?_⟩
      · have f37 := Eq.trans (Eq.symm (if_pos c65)) f2
        have g37 := g2.1 c65
        exact f37.symm
      · have f37 := Eq.trans (Eq.symm (if_neg c65)) f2
        have g37 := g2.2 c65
        exact f37.symm
  · have f1 := Eq.trans (Eq.symm (if_pos c1)) f0
    have g1 := hp.2 c1
    refine ⟨fun c67 => ?_, fun c67 => ?_⟩
    · have f38 := Eq.trans (Eq.symm (if_pos c67)) f1
      have g38 := g1.1 c67
      exact f38.symm
    · have f38 := Eq.trans (Eq.symm (if_neg c67)) f1
      have g38 := g1.2 c67
      exact f38.symm
theorem c_Mo_reckon (l : Launch) (D : va_G) (K : Nat → ClassId) (q_t : Nat) (q_t_text : Nat) (q_t_code : Nat) (q_t_site : Nat) (q_t_condition : Nat) (q_t_actions : Nat) (q_t_kind : Nat) (q_t_target : Nat) (q_t_first : Nat) (q_t_second : Nat) (q_t_failures : Nat) (q_t_met : Nat) (q_t_there : Nat) (q_t_on : Nat) (q_t_compared : Nat) (q_t_globals : Nat) (q_t_own : Nat) (q_t_records : Nat) (q_t_pile : Nat) (q_t_handed : Nat) (q_t_keys : Nat) (q_t_key : Nat) (q_t_count : Nat) (q_t_bins : Nat) (q_t_operator : Nat) (q_t_starts : Nat) (q_t_sum : Nat) (q_t_least : Nat) (q_t_greatest : Nat) (t_newSite : Int32) (t_newCondition : Int32) (t_newActions : Int32) (t_size : Int32) (t_place : Int32) (t_pos : Int32) (t_at : Int32) (t_operators : Int32) (t_recorded : Int32) (t_lost : Int32) (t_dropped : Int32) (t_firings : Int32) (t_time : Int32) (t_thread : Int32) (t_thrown : Int32) (t_failed : Int32) (x1 : Int32) (x2 : UInt64) (x4 : UInt64) (hp : p_Mo_reckon t_failed x1 x2 x4) : zCd l y_Mo_reckon wy_Mo_reckon rm_Mo_reckon D zcl (zT K) [.ref q_t, .int x1, .double x2, .double x4] (w_Mo_reckon K q_t q_t_text q_t_code q_t_site q_t_condition q_t_actions q_t_kind q_t_target q_t_first q_t_second q_t_failures q_t_met q_t_there q_t_on q_t_compared q_t_globals q_t_own q_t_records q_t_pile q_t_handed q_t_keys q_t_key q_t_count q_t_bins q_t_operator q_t_starts q_t_sum q_t_least q_t_greatest t_newSite t_newCondition t_newActions t_size t_place t_pos t_at t_operators t_recorded t_lost t_dropped t_firings t_time t_thread t_thrown t_failed) (w_Mo_reckon K q_t q_t_text q_t_code q_t_site q_t_condition q_t_actions q_t_kind q_t_target q_t_first q_t_second q_t_failures q_t_met q_t_there q_t_on q_t_compared q_t_globals q_t_own q_t_records q_t_pile q_t_handed q_t_keys q_t_key q_t_count q_t_bins q_t_operator q_t_starts q_t_sum q_t_least q_t_greatest t_newSite t_newCondition t_newActions t_size t_place t_pos t_at t_operators t_recorded t_lost t_dropped t_firings t_time t_thread t_thrown) (fun r u => s_Mo_reckon t_failed x1 x2 x4 = (r, u)) 0 0 := cw_Mo_reckon l D K q_t q_t_text q_t_code q_t_site q_t_condition q_t_actions q_t_kind q_t_target q_t_first q_t_second q_t_failures q_t_met q_t_there q_t_on q_t_compared q_t_globals q_t_own q_t_records q_t_pile q_t_handed q_t_keys q_t_key q_t_count q_t_bins q_t_operator q_t_starts q_t_sum q_t_least q_t_greatest t_newSite t_newCondition t_newActions t_size t_place t_pos t_at t_operators t_recorded t_lost t_dropped t_firings t_time t_thread t_thrown t_failed x1 x2 x4 (v_Mo_reckon t_failed x1 x2 x4 hp)
-- RuleTracerModel.value(I)D: reads ['t.time', 't.thread', 't.failed', 't.code', 't.pile', 't.handed', 't.globals', 't.own'], changes ['t.failed', 't.pile']
abbrev w_Mo_value (K : Nat → ClassId) (q_t : Nat) (q_t_text : Nat) (q_t_code : Nat) (q_t_site : Nat) (q_t_condition : Nat) (q_t_actions : Nat) (q_t_kind : Nat) (q_t_target : Nat) (q_t_first : Nat) (q_t_second : Nat) (q_t_failures : Nat) (q_t_met : Nat) (q_t_there : Nat) (q_t_on : Nat) (q_t_compared : Nat) (q_t_globals : Nat) (q_t_own : Nat) (q_t_records : Nat) (q_t_pile : Nat) (q_t_handed : Nat) (q_t_keys : Nat) (q_t_key : Nat) (q_t_count : Nat) (q_t_bins : Nat) (q_t_operator : Nat) (q_t_starts : Nat) (q_t_sum : Nat) (q_t_least : Nat) (q_t_greatest : Nat) (t_newSite : Int32) (t_newCondition : Int32) (t_newActions : Int32) (t_size : Int32) (t_place : Int32) (t_pos : Int32) (t_at : Int32) (t_operators : Int32) (t_recorded : Int32) (t_lost : Int32) (t_dropped : Int32) (t_firings : Int32) (t_time : Int32) (t_thread : Int32) (t_thrown : Int32) (t_code : Nat → Int32) (t_handed : Nat → UInt64) (t_globals : Nat → UInt64) (t_own : Nat → UInt64) (u : Int32 × (Nat → UInt64)) : va_W := [zo 6 q_t [.ref q_t_text, .ref q_t_code, .ref q_t_site, .ref q_t_condition, .ref q_t_actions, .ref q_t_kind, .ref q_t_target, .ref q_t_first, .ref q_t_second, .ref q_t_failures, .ref q_t_met, .ref q_t_there, .ref q_t_on, .ref q_t_compared, .ref q_t_globals, .ref q_t_own, .ref q_t_records, .ref q_t_pile, .ref q_t_handed, .ref q_t_keys, .ref q_t_key, .ref q_t_count, .ref q_t_bins, .ref q_t_operator, .ref q_t_starts, .ref q_t_sum, .ref q_t_least, .ref q_t_greatest, .int t_newSite, .int t_newCondition, .int t_newActions, .int t_size, .int t_place, .int t_pos, .int t_at, .int t_operators, .int t_recorded, .int t_lost, .int t_dropped, .int t_firings, .int t_time, .int t_thread, .int t_thrown, .int u.1], zaI K q_t_code 1400 t_code, zaD K q_t_pile 60 u.2, zaD K q_t_handed 3 t_handed, zaD K q_t_globals 3 t_globals, zaD K q_t_own 12 t_own]
abbrev rm_Mo_value : Room := { frames := 2, cells := 0, slots := 0, locals := 43 }
abbrev wy_Mo_value : List Cond := .code y_Mo_value b_Mo_value 6 (some .double) :: zWT
def WP_Mo_value_L4 : Nat → Int32 → Int32 → Int32 → Int32 → Int32 → Int32 → (Nat → Int32) → (Nat → UInt64) → (Nat → UInt64) → (Nat → UInt64) → (Nat → UInt64) → (UInt64 → (Int32 × (Nat → UInt64)) → Prop) → Prop
  | 0, _, _, _, _, _, _, _, _, _, _, _, _ => False
  | n + 1, y1, y2, y3, t_time, t_thread, t_failed, t_code, t_pile, t_handed, t_globals, t_own, Q => vp_in y3 1400 ∧ (((t_code y3.toNatClampNeg) = 0) → Q (t_pile 0) (t_failed, t_pile)) ∧ ((¬ (t_code y3.toNatClampNeg) = 0) → ((¬ t_failed = 0) → Q (t_pile 0) (t_failed, t_pile)) ∧ ((t_failed = 0) → vp_in y3 1400 ∧ vp_in (y3 + (1 : Int32)) 1400 ∧ (((3 : Int32) ≤ (t_code y3.toNatClampNeg)) → ((¬ (t_code y3.toNatClampNeg) = (4 : Int32)) → vp_in (y2 - (2 : Int32)) 60 ∧ vp_in (y2 - (1 : Int32)) 60 ∧ p_Mo_reckon t_failed (t_code (y3 + (1 : Int32)).toNatClampNeg) (t_pile (y2 - (2 : Int32)).toNatClampNeg) (t_pile (y2 - (1 : Int32)).toNatClampNeg) ∧ (∀ (r14 : UInt64) (u15 : Int32), s_Mo_reckon t_failed (t_code (y3 + (1 : Int32)).toNatClampNeg) (t_pile (y2 - (2 : Int32)).toNatClampNeg) (t_pile (y2 - (1 : Int32)).toNatClampNeg) = (r14, u15) → vp_in (y2 - (2 : Int32)) 60 ∧ WP_Mo_value_L4 n y1 (y2 + (-1 : Int32)) (y3 + (2 : Int32)) t_time t_thread u15 t_code (vf_upd t_pile (y2 - (2 : Int32)).toNatClampNeg r14) t_handed t_globals t_own Q)) ∧ (((t_code y3.toNatClampNeg) = (4 : Int32)) → vp_in (y2 - (1 : Int32)) 60 ∧ vp_in (y2 - (1 : Int32)) 60 ∧ WP_Mo_value_L4 n y1 y2 (y3 + (2 : Int32)) t_time t_thread t_failed t_code (vf_upd t_pile (y2 - (1 : Int32)).toNatClampNeg (FP.dneg (t_pile (y2 - (1 : Int32)).toNatClampNeg))) t_handed t_globals t_own Q)) ∧ ((¬ (3 : Int32) ≤ (t_code y3.toNatClampNeg)) → ((¬ (t_code y3.toNatClampNeg) = (1 : Int32)) → p_Mo_load t_time t_thread t_handed t_globals t_own (t_code (y3 + (1 : Int32)).toNatClampNeg) ∧ (∀ (r23 : UInt64), s_Mo_load t_time t_thread t_handed t_globals t_own (t_code (y3 + (1 : Int32)).toNatClampNeg) = r23 → vp_in y2 60 ∧ WP_Mo_value_L4 n y1 (y2 + (1 : Int32)) (y3 + (2 : Int32)) t_time t_thread t_failed t_code (vf_upd t_pile y2.toNatClampNeg r23) t_handed t_globals t_own Q)) ∧ (((t_code y3.toNatClampNeg) = (1 : Int32)) → vp_in y2 60 ∧ WP_Mo_value_L4 n y1 (y2 + (1 : Int32)) (y3 + (2 : Int32)) t_time t_thread t_failed t_code (vf_upd t_pile y2.toNatClampNeg (FP.i2d (t_code (y3 + (1 : Int32)).toNatClampNeg))) t_handed t_globals t_own Q))))
def WP_Mo_value (t_time : Int32) (t_thread : Int32) (t_failed : Int32) (t_code : Nat → Int32) (t_pile : Nat → UInt64) (t_handed : Nat → UInt64) (t_globals : Nat → UInt64) (t_own : Nat → UInt64) (x1 : Int32) (Q : UInt64 → (Int32 × (Nat → UInt64)) → Prop) : Prop := WP_Mo_value_L4 600 x1 (0 : Int32) x1 t_time t_thread t_failed t_code t_pile t_handed t_globals t_own Q
set_option maxHeartbeats 4000000 in
set_option maxRecDepth 100000 in
theorem lw_Mo_value_L4 {p : Program} {e : Env} {s : State} {m : MethodId} {args : Array Value} {below : List Frame} {meth : Method} {c : Code} {A : Nat → Prop} (l : Launch) (D : va_G) (K : Nat → ClassId) (q_t : Nat) (q_t_text : Nat) (q_t_code : Nat) (q_t_site : Nat) (q_t_condition : Nat) (q_t_actions : Nat) (q_t_kind : Nat) (q_t_target : Nat) (q_t_first : Nat) (q_t_second : Nat) (q_t_failures : Nat) (q_t_met : Nat) (q_t_there : Nat) (q_t_on : Nat) (q_t_compared : Nat) (q_t_globals : Nat) (q_t_own : Nat) (q_t_records : Nat) (q_t_pile : Nat) (q_t_handed : Nat) (q_t_keys : Nat) (q_t_key : Nat) (q_t_count : Nat) (q_t_bins : Nat) (q_t_operator : Nat) (q_t_starts : Nat) (q_t_sum : Nat) (q_t_least : Nat) (q_t_greatest : Nat) (t_newSite : Int32) (t_newCondition : Int32) (t_newActions : Int32) (t_size : Int32) (t_place : Int32) (t_pos : Int32) (t_at : Int32) (t_operators : Int32) (t_recorded : Int32) (t_lost : Int32) (t_dropped : Int32) (t_firings : Int32) (t_time : Int32) (t_thread : Int32) (t_thrown : Int32) (t_code : Nat → Int32) (t_handed : Nat → UInt64) (t_globals : Nat → UInt64) (t_own : Nat → UInt64) {Q : UInt64 → (Int32 × (Nat → UInt64)) → Prop} (C : zCx p s m args c b_Mo_value 6 R_Mo zWT D zcl (zT K) A) (hr : meth.sig.returnType = (some .double)) (hlk : meth.locks = false) : ∀ (n : Nat) (y1 : Int32) (y2 : Int32) (y3 : Int32) (t_failed : Int32) (t_pile : Nat → UInt64), WP_Mo_value_L4 n y1 y2 y3 t_time t_thread t_failed t_code t_pile t_handed t_globals t_own Q → zW p l e (headSpec wy_Mo_value rm_Mo_value).room s m args below meth c D zcl A 6 0 0 (MQ below (va_Qd Q (zB D zcl (zT K) (w_Mo_value K q_t q_t_text q_t_code q_t_site q_t_condition q_t_actions q_t_kind q_t_target q_t_first q_t_second q_t_failures q_t_met q_t_there q_t_on q_t_compared q_t_globals q_t_own q_t_records q_t_pile q_t_handed q_t_keys q_t_key q_t_count q_t_bins q_t_operator q_t_starts q_t_sum q_t_least q_t_greatest t_newSite t_newCondition t_newActions t_size t_place t_pos t_at t_operators t_recorded t_lost t_dropped t_firings t_time t_thread t_thrown t_code t_handed t_globals t_own) A) A) args s 0 0 A) [(0, .ref q_t), (1, .int y1), (2, .int y2), (3, .int y3)] [zo 6 q_t [.ref q_t_text, .ref q_t_code, .ref q_t_site, .ref q_t_condition, .ref q_t_actions, .ref q_t_kind, .ref q_t_target, .ref q_t_first, .ref q_t_second, .ref q_t_failures, .ref q_t_met, .ref q_t_there, .ref q_t_on, .ref q_t_compared, .ref q_t_globals, .ref q_t_own, .ref q_t_records, .ref q_t_pile, .ref q_t_handed, .ref q_t_keys, .ref q_t_key, .ref q_t_count, .ref q_t_bins, .ref q_t_operator, .ref q_t_starts, .ref q_t_sum, .ref q_t_least, .ref q_t_greatest, .int t_newSite, .int t_newCondition, .int t_newActions, .int t_size, .int t_place, .int t_pos, .int t_at, .int t_operators, .int t_recorded, .int t_lost, .int t_dropped, .int t_firings, .int t_time, .int t_thread, .int t_thrown, .int t_failed], zaI K q_t_code 1400 t_code, zaD K q_t_pile 60 t_pile, zaD K q_t_handed 3 t_handed, zaD K q_t_globals 3 t_globals, zaD K q_t_own 12 t_own] 4 [] := by
  intro n
  induction n with
  | zero => intros; contradiction
  | succ n ih =>
    intro y1 y2 y3 t_failed t_pile hS0
    refine z_aload_n C d_Mo_value_4 rfl 0 rfl ?_
    refine z_get C 0 rfl rfl in_Mo 1 (by decide) rfl wf_Mo_13 rfl d_Mo_value_5 ?_
    refine z_iload_n C d_Mo_value_8 rfl 3 rfl ?_
    refine z_iald C 1 0 rfl rfl hS0.1 d_Mo_value_9 ?_
    have hS1 := hS0.2
    refine z_if_eq (tgt := 139) C d_Mo_value_10 (by decide) (fun c2 => ?_) (fun c2 => ?_)
    · have hS3 := hS1.1 c2
      refine z_aload_n C d_Mo_value_139 rfl 0 rfl ?_
      refine z_get C 0 rfl rfl in_Mo 17 (by decide) rfl wf_Mo_63 rfl d_Mo_value_140 ?_
      refine z_iconst (v := (0 : Int32)) C d_Mo_value_143 (by decide) ?_
      refine z_dald C 2 1 rfl rfl (zin_c (by decide)) d_Mo_value_144 ?_
      exact z_dret C hr hlk (t_failed, t_pile) rfl hS3 d_Mo_value_145
    · have hS3 := hS1.2 c2
      refine z_aload_n C d_Mo_value_13 rfl 0 rfl ?_
      refine z_get C 0 rfl rfl in_Mo 43 (by decide) rfl wf_Mo_173 rfl d_Mo_value_14 ?_
      refine z_if_ne (tgt := 139) C d_Mo_value_17 (by decide) (fun c4 => ?_) (fun c4 => ?_)
      · have hS5 := hS3.1 c4
        refine z_aload_n C d_Mo_value_139 rfl 0 rfl ?_
        refine z_get C 0 rfl rfl in_Mo 17 (by decide) rfl wf_Mo_63 rfl d_Mo_value_140 ?_
        refine z_iconst (v := (0 : Int32)) C d_Mo_value_143 (by decide) ?_
        refine z_dald C 2 1 rfl rfl (zin_c (by decide)) d_Mo_value_144 ?_
        exact z_dret C hr hlk (t_failed, t_pile) rfl hS5 d_Mo_value_145
      · have hS5 := hS3.2 c4
        refine z_aload_n C d_Mo_value_20 rfl 0 rfl ?_
        refine z_get C 0 rfl rfl in_Mo 1 (by decide) rfl wf_Mo_13 rfl d_Mo_value_21 ?_
        refine z_iload_n C d_Mo_value_24 rfl 3 rfl ?_
        refine z_iald C 1 0 rfl rfl hS5.1 d_Mo_value_25 ?_
        have hS6 := hS5.2
        refine z_istore (lv' := [(4, .int (t_code y3.toNatClampNeg)), (0, .ref q_t), (1, .int y1), (2, .int y2), (3, .int y3)]) C d_Mo_value_26 (by decide) rfl ?_
        refine z_aload_n C d_Mo_value_28 rfl 1 rfl ?_
        refine z_get C 0 rfl rfl in_Mo 1 (by decide) rfl wf_Mo_13 rfl d_Mo_value_29 ?_
        refine z_iload_n C d_Mo_value_32 rfl 4 rfl ?_
        refine z_iconst (v := (1 : Int32)) C d_Mo_value_33 (by decide) ?_
        refine z_iadd C d_Mo_value_34 ?_
        refine z_iald C 1 0 rfl rfl hS6.1 d_Mo_value_35 ?_
        have hS7 := hS6.2
        refine z_istore (lv' := [(5, .int (t_code (y3 + (1 : Int32)).toNatClampNeg)), (4, .int (t_code y3.toNatClampNeg)), (0, .ref q_t), (1, .int y1), (2, .int y2), (3, .int y3)]) C d_Mo_value_36 (by decide) rfl ?_
        refine z_iload C d_Mo_value_38 1 rfl ?_
        refine z_iconst (v := (3 : Int32)) C d_Mo_value_40 (by decide) ?_
        refine z_icmp_ge (tgt := 74) C d_Mo_value_41 (by decide) (fun c8 => ?_) (fun c8 => ?_)
        · have hS9 := hS7.1 c8
          refine z_iload C d_Mo_value_74 1 rfl ?_
          refine z_iconst (v := (4 : Int32)) C d_Mo_value_76 (by decide) ?_
          refine z_icmp_ne (tgt := 100) C d_Mo_value_77 (by decide) (fun c10 => ?_) (fun c10 => ?_)
          · have hS11 := hS9.1 c10
            refine z_aload_n C d_Mo_value_100 rfl 2 rfl ?_
            refine z_get C 0 rfl rfl in_Mo 17 (by decide) rfl wf_Mo_63 rfl d_Mo_value_101 ?_
            refine z_iload_n C d_Mo_value_104 rfl 4 rfl ?_
            refine z_iconst (v := (2 : Int32)) C d_Mo_value_105 (by decide) ?_
            refine z_isub C d_Mo_value_106 ?_
            refine z_aload_n C d_Mo_value_107 rfl 2 rfl ?_
            refine z_iload C d_Mo_value_108 0 rfl ?_
            refine z_aload_n C d_Mo_value_110 rfl 2 rfl ?_
            refine z_get C 0 rfl rfl in_Mo 17 (by decide) rfl wf_Mo_63 rfl d_Mo_value_111 ?_
            refine z_iload_n C d_Mo_value_114 rfl 4 rfl ?_
            refine z_iconst (v := (2 : Int32)) C d_Mo_value_115 (by decide) ?_
            refine z_isub C d_Mo_value_116 ?_
            refine z_dald C 2 1 rfl rfl hS11.1 d_Mo_value_117 ?_
            have hS12 := hS11.2
            refine z_aload_n C d_Mo_value_118 rfl 2 rfl ?_
            refine z_get C 0 rfl rfl in_Mo 17 (by decide) rfl wf_Mo_63 rfl d_Mo_value_119 ?_
            refine z_iload_n C d_Mo_value_122 rfl 4 rfl ?_
            refine z_iconst (v := (1 : Int32)) C d_Mo_value_123 (by decide) ?_
            refine z_isub C d_Mo_value_124 ?_
            refine z_dald C 2 1 rfl rfl hS12.1 d_Mo_value_125 ?_
            have hS13 := hS12.2
            refine z_callVd (As := [.int (t_code (y3 + (1 : Int32)).toNatClampNeg), .double (t_pile (y2 - (2 : Int32)).toNatClampNeg), .double (t_pile (y2 - (1 : Int32)).toNatClampNeg)]) (b := q_t) (st := [.int (y2 - (2 : Int32)), .ref q_t_pile]) (wr := [zaI K q_t_code 1400 t_code, zaD K q_t_pile 60 t_pile, zaD K q_t_handed 3 t_handed, zaD K q_t_globals 3 t_globals, zaD K q_t_own 12 t_own]) (wj := fun u => [zo 6 q_t [.ref q_t_text, .ref q_t_code, .ref q_t_site, .ref q_t_condition, .ref q_t_actions, .ref q_t_kind, .ref q_t_target, .ref q_t_first, .ref q_t_second, .ref q_t_failures, .ref q_t_met, .ref q_t_there, .ref q_t_on, .ref q_t_compared, .ref q_t_globals, .ref q_t_own, .ref q_t_records, .ref q_t_pile, .ref q_t_handed, .ref q_t_keys, .ref q_t_key, .ref q_t_count, .ref q_t_bins, .ref q_t_operator, .ref q_t_starts, .ref q_t_sum, .ref q_t_least, .ref q_t_greatest, .int t_newSite, .int t_newCondition, .int t_newActions, .int t_size, .int t_place, .int t_pos, .int t_at, .int t_operators, .int t_recorded, .int t_lost, .int t_dropped, .int t_firings, .int t_time, .int t_thread, .int t_thrown, .int u], zaI K q_t_code 1400 t_code, zaD K q_t_pile 60 t_pile, zaD K q_t_handed 3 t_handed, zaD K q_t_globals 3 t_globals, zaD K q_t_own 12 t_own]) C 0 rfl rfl (c_Mo_reckon l D K q_t q_t_text q_t_code q_t_site q_t_condition q_t_actions q_t_kind q_t_target q_t_first q_t_second q_t_failures q_t_met q_t_there q_t_on q_t_compared q_t_globals q_t_own q_t_records q_t_pile q_t_handed q_t_keys q_t_key q_t_count q_t_bins q_t_operator q_t_starts q_t_sum q_t_least q_t_greatest t_newSite t_newCondition t_newActions t_size t_place t_pos t_at t_operators t_recorded t_lost t_dropped t_firings t_time t_thread t_thrown t_failed (t_code (y3 + (1 : Int32)).toNatClampNeg) (t_pile (y2 - (2 : Int32)).toNatClampNeg) (t_pile (y2 - (1 : Int32)).toNatClampNeg) hS13.1) (cwV 3 C.2.2.2.2.1 (z_gV wl_Mo_185 wi_Mo_reckon wv_Mo_reckon wz_Mo wk_Mo_reckon) rfl rfl rfl (by decide +kernel) ⟨Nat.le_of_ble_eq_true rfl, Nat.le_of_ble_eq_true rfl⟩) [0] [1, 2, 3, 4, 5] [5, 0, 1, 2, 3, 4] rfl rfl rfl rfl (by decide) (fun _ => rfl) rfl rfl rfl (Nat.le_of_ble_eq_true rfl) d_Mo_value_126 ⟨Nat.le_of_ble_eq_true rfl, Nat.le_of_ble_eq_true rfl⟩ (fun r14 u15 e16 => ?_)
            have hS17 := hS13.2 r14 u15 e16
            refine z_dast (ws' := [zo 6 q_t [.ref q_t_text, .ref q_t_code, .ref q_t_site, .ref q_t_condition, .ref q_t_actions, .ref q_t_kind, .ref q_t_target, .ref q_t_first, .ref q_t_second, .ref q_t_failures, .ref q_t_met, .ref q_t_there, .ref q_t_on, .ref q_t_compared, .ref q_t_globals, .ref q_t_own, .ref q_t_records, .ref q_t_pile, .ref q_t_handed, .ref q_t_keys, .ref q_t_key, .ref q_t_count, .ref q_t_bins, .ref q_t_operator, .ref q_t_starts, .ref q_t_sum, .ref q_t_least, .ref q_t_greatest, .int t_newSite, .int t_newCondition, .int t_newActions, .int t_size, .int t_place, .int t_pos, .int t_at, .int t_operators, .int t_recorded, .int t_lost, .int t_dropped, .int t_firings, .int t_time, .int t_thread, .int t_thrown, .int u15], zaI K q_t_code 1400 t_code, zaD K q_t_pile 60 (vf_upd t_pile (y2 - (2 : Int32)).toNatClampNeg r14), zaD K q_t_handed 3 t_handed, zaD K q_t_globals 3 t_globals, zaD K q_t_own 12 t_own]) C 2 1 rfl rfl hS17.1 rfl d_Mo_value_129 ?_
            have hS18 := hS17.2
            refine z_iinc (j := 4) (v := y2 + (-1 : Int32)) (lv' := [(2, .int (y2 + (-1 : Int32))), (5, .int (t_code (y3 + (1 : Int32)).toNatClampNeg)), (4, .int (t_code y3.toNatClampNeg)), (0, .ref q_t), (1, .int y1), (3, .int y3)]) C d_Mo_value_130 rfl rfl (by decide) rfl ?_
            refine z_iinc (j := 5) (v := y3 + (2 : Int32)) (lv' := [(3, .int (y3 + (2 : Int32))), (2, .int (y2 + (-1 : Int32))), (5, .int (t_code (y3 + (1 : Int32)).toNatClampNeg)), (4, .int (t_code y3.toNatClampNeg)), (0, .ref q_t), (1, .int y1)]) C d_Mo_value_133 rfl rfl (by decide) rfl ?_
            refine z_goto (tgt := 4) C d_Mo_value_136 (by decide) ?_
            refine z_lpick (lv' := [(0, .ref q_t), (1, .int y1), (2, .int (y2 + (-1 : Int32))), (3, .int (y3 + (2 : Int32)))]) [4, 5, 1, 0] rfl ?_
            exact ih y1 (y2 + (-1 : Int32)) (y3 + (2 : Int32)) u15 (vf_upd t_pile (y2 - (2 : Int32)).toNatClampNeg r14) hS18
          · have hS11 := hS9.2 c10
            refine z_aload_n C d_Mo_value_80 rfl 2 rfl ?_
            refine z_get C 0 rfl rfl in_Mo 17 (by decide) rfl wf_Mo_63 rfl d_Mo_value_81 ?_
            refine z_iload_n C d_Mo_value_84 rfl 4 rfl ?_
            refine z_iconst (v := (1 : Int32)) C d_Mo_value_85 (by decide) ?_
            refine z_isub C d_Mo_value_86 ?_
            refine z_aload_n C d_Mo_value_87 rfl 2 rfl ?_
            refine z_get C 0 rfl rfl in_Mo 17 (by decide) rfl wf_Mo_63 rfl d_Mo_value_88 ?_
            refine z_iload_n C d_Mo_value_91 rfl 4 rfl ?_
            refine z_iconst (v := (1 : Int32)) C d_Mo_value_92 (by decide) ?_
            refine z_isub C d_Mo_value_93 ?_
            refine z_dald C 2 1 rfl rfl hS11.1 d_Mo_value_94 ?_
            have hS19 := hS11.2
            refine z_dneg C d_Mo_value_95 ?_
            refine z_dast (ws' := [zo 6 q_t [.ref q_t_text, .ref q_t_code, .ref q_t_site, .ref q_t_condition, .ref q_t_actions, .ref q_t_kind, .ref q_t_target, .ref q_t_first, .ref q_t_second, .ref q_t_failures, .ref q_t_met, .ref q_t_there, .ref q_t_on, .ref q_t_compared, .ref q_t_globals, .ref q_t_own, .ref q_t_records, .ref q_t_pile, .ref q_t_handed, .ref q_t_keys, .ref q_t_key, .ref q_t_count, .ref q_t_bins, .ref q_t_operator, .ref q_t_starts, .ref q_t_sum, .ref q_t_least, .ref q_t_greatest, .int t_newSite, .int t_newCondition, .int t_newActions, .int t_size, .int t_place, .int t_pos, .int t_at, .int t_operators, .int t_recorded, .int t_lost, .int t_dropped, .int t_firings, .int t_time, .int t_thread, .int t_thrown, .int t_failed], zaI K q_t_code 1400 t_code, zaD K q_t_pile 60 (vf_upd t_pile (y2 - (1 : Int32)).toNatClampNeg (FP.dneg (t_pile (y2 - (1 : Int32)).toNatClampNeg))), zaD K q_t_handed 3 t_handed, zaD K q_t_globals 3 t_globals, zaD K q_t_own 12 t_own]) C 2 1 rfl rfl hS19.1 rfl d_Mo_value_96 ?_
            have hS20 := hS19.2
            refine z_goto (tgt := 133) C d_Mo_value_97 (by decide) ?_
            refine z_iinc (j := 5) (v := y3 + (2 : Int32)) (lv' := [(3, .int (y3 + (2 : Int32))), (5, .int (t_code (y3 + (1 : Int32)).toNatClampNeg)), (4, .int (t_code y3.toNatClampNeg)), (0, .ref q_t), (1, .int y1), (2, .int y2)]) C d_Mo_value_133 rfl rfl (by decide) rfl ?_
            refine z_goto (tgt := 4) C d_Mo_value_136 (by decide) ?_
            refine z_lpick (lv' := [(0, .ref q_t), (1, .int y1), (2, .int y2), (3, .int (y3 + (2 : Int32)))]) [3, 4, 5, 0] rfl ?_
            exact ih y1 y2 (y3 + (2 : Int32)) t_failed (vf_upd t_pile (y2 - (1 : Int32)).toNatClampNeg (FP.dneg (t_pile (y2 - (1 : Int32)).toNatClampNeg))) hS20
        · have hS9 := hS7.2 c8
          refine z_aload_n C d_Mo_value_44 rfl 2 rfl ?_
          refine z_get C 0 rfl rfl in_Mo 17 (by decide) rfl wf_Mo_63 rfl d_Mo_value_45 ?_
          refine z_iload_n C d_Mo_value_48 rfl 4 rfl ?_
          refine z_iload C d_Mo_value_49 1 rfl ?_
          refine z_iconst (v := (1 : Int32)) C d_Mo_value_51 (by decide) ?_
          refine z_icmp_ne (tgt := 61) C d_Mo_value_52 (by decide) (fun c21 => ?_) (fun c21 => ?_)
          · have hS22 := hS9.1 c21
            refine z_aload_n C d_Mo_value_61 rfl 2 rfl ?_
            refine z_iload C d_Mo_value_62 0 rfl ?_
            refine z_callVd (As := [.int (t_code (y3 + (1 : Int32)).toNatClampNeg)]) (b := q_t) (st := [.int y2, .ref q_t_pile]) (wr := [zaI K q_t_code 1400 t_code, zaD K q_t_pile 60 t_pile]) (wj := fun u => [zo 6 q_t [.ref q_t_text, .ref q_t_code, .ref q_t_site, .ref q_t_condition, .ref q_t_actions, .ref q_t_kind, .ref q_t_target, .ref q_t_first, .ref q_t_second, .ref q_t_failures, .ref q_t_met, .ref q_t_there, .ref q_t_on, .ref q_t_compared, .ref q_t_globals, .ref q_t_own, .ref q_t_records, .ref q_t_pile, .ref q_t_handed, .ref q_t_keys, .ref q_t_key, .ref q_t_count, .ref q_t_bins, .ref q_t_operator, .ref q_t_starts, .ref q_t_sum, .ref q_t_least, .ref q_t_greatest, .int t_newSite, .int t_newCondition, .int t_newActions, .int t_size, .int t_place, .int t_pos, .int t_at, .int t_operators, .int t_recorded, .int t_lost, .int t_dropped, .int t_firings, .int t_time, .int t_thread, .int t_thrown, .int t_failed], zaI K q_t_code 1400 t_code, zaD K q_t_pile 60 t_pile, zaD K q_t_handed 3 t_handed, zaD K q_t_globals 3 t_globals, zaD K q_t_own 12 t_own]) C 0 rfl rfl (c_Mo_load l D K q_t q_t_text q_t_code q_t_site q_t_condition q_t_actions q_t_kind q_t_target q_t_first q_t_second q_t_failures q_t_met q_t_there q_t_on q_t_compared q_t_globals q_t_own q_t_records q_t_pile q_t_handed q_t_keys q_t_key q_t_count q_t_bins q_t_operator q_t_starts q_t_sum q_t_least q_t_greatest t_newSite t_newCondition t_newActions t_size t_place t_pos t_at t_operators t_recorded t_lost t_dropped t_firings t_time t_thread t_thrown t_failed t_handed t_globals t_own (t_code (y3 + (1 : Int32)).toNatClampNeg) hS22.1) (cwV 1 C.2.2.2.2.1 (z_gV wl_Mo_181 wi_Mo_load wv_Mo_load wz_Mo wk_Mo_load) rfl rfl rfl (by decide +kernel) ⟨Nat.le_of_ble_eq_true rfl, Nat.le_of_ble_eq_true rfl⟩) [0, 3, 4, 5] [1, 2] [2, 0, 1, 3, 4, 5] rfl rfl rfl rfl (by decide) (fun _ => rfl) rfl rfl rfl (Nat.le_of_ble_eq_true rfl) d_Mo_value_64 ⟨Nat.le_of_ble_eq_true rfl, Nat.le_of_ble_eq_true rfl⟩ (fun r23 u24 e25 => ?_)
            have hS26 := hS22.2 r23 e25
            refine z_dast (ws' := [zo 6 q_t [.ref q_t_text, .ref q_t_code, .ref q_t_site, .ref q_t_condition, .ref q_t_actions, .ref q_t_kind, .ref q_t_target, .ref q_t_first, .ref q_t_second, .ref q_t_failures, .ref q_t_met, .ref q_t_there, .ref q_t_on, .ref q_t_compared, .ref q_t_globals, .ref q_t_own, .ref q_t_records, .ref q_t_pile, .ref q_t_handed, .ref q_t_keys, .ref q_t_key, .ref q_t_count, .ref q_t_bins, .ref q_t_operator, .ref q_t_starts, .ref q_t_sum, .ref q_t_least, .ref q_t_greatest, .int t_newSite, .int t_newCondition, .int t_newActions, .int t_size, .int t_place, .int t_pos, .int t_at, .int t_operators, .int t_recorded, .int t_lost, .int t_dropped, .int t_firings, .int t_time, .int t_thread, .int t_thrown, .int t_failed], zaI K q_t_code 1400 t_code, zaD K q_t_pile 60 (vf_upd t_pile y2.toNatClampNeg r23), zaD K q_t_handed 3 t_handed, zaD K q_t_globals 3 t_globals, zaD K q_t_own 12 t_own]) C 2 1 rfl rfl hS26.1 rfl d_Mo_value_67 ?_
            have hS27 := hS26.2
            refine z_iinc (j := 4) (v := y2 + (1 : Int32)) (lv' := [(2, .int (y2 + (1 : Int32))), (5, .int (t_code (y3 + (1 : Int32)).toNatClampNeg)), (4, .int (t_code y3.toNatClampNeg)), (0, .ref q_t), (1, .int y1), (3, .int y3)]) C d_Mo_value_68 rfl rfl (by decide) rfl ?_
            refine z_goto (tgt := 133) C d_Mo_value_71 (by decide) ?_
            refine z_iinc (j := 5) (v := y3 + (2 : Int32)) (lv' := [(3, .int (y3 + (2 : Int32))), (2, .int (y2 + (1 : Int32))), (5, .int (t_code (y3 + (1 : Int32)).toNatClampNeg)), (4, .int (t_code y3.toNatClampNeg)), (0, .ref q_t), (1, .int y1)]) C d_Mo_value_133 rfl rfl (by decide) rfl ?_
            refine z_goto (tgt := 4) C d_Mo_value_136 (by decide) ?_
            refine z_lpick (lv' := [(0, .ref q_t), (1, .int y1), (2, .int (y2 + (1 : Int32))), (3, .int (y3 + (2 : Int32)))]) [4, 5, 1, 0] rfl ?_
            exact ih y1 (y2 + (1 : Int32)) (y3 + (2 : Int32)) t_failed (vf_upd t_pile y2.toNatClampNeg r23) hS27
          · have hS22 := hS9.2 c21
            refine z_iload C d_Mo_value_55 0 rfl ?_
            refine z_i2d C d_Mo_value_57 ?_
            refine z_goto (tgt := 67) C d_Mo_value_58 (by decide) ?_
            refine z_dast (ws' := [zo 6 q_t [.ref q_t_text, .ref q_t_code, .ref q_t_site, .ref q_t_condition, .ref q_t_actions, .ref q_t_kind, .ref q_t_target, .ref q_t_first, .ref q_t_second, .ref q_t_failures, .ref q_t_met, .ref q_t_there, .ref q_t_on, .ref q_t_compared, .ref q_t_globals, .ref q_t_own, .ref q_t_records, .ref q_t_pile, .ref q_t_handed, .ref q_t_keys, .ref q_t_key, .ref q_t_count, .ref q_t_bins, .ref q_t_operator, .ref q_t_starts, .ref q_t_sum, .ref q_t_least, .ref q_t_greatest, .int t_newSite, .int t_newCondition, .int t_newActions, .int t_size, .int t_place, .int t_pos, .int t_at, .int t_operators, .int t_recorded, .int t_lost, .int t_dropped, .int t_firings, .int t_time, .int t_thread, .int t_thrown, .int t_failed], zaI K q_t_code 1400 t_code, zaD K q_t_pile 60 (vf_upd t_pile y2.toNatClampNeg (FP.i2d (t_code (y3 + (1 : Int32)).toNatClampNeg))), zaD K q_t_handed 3 t_handed, zaD K q_t_globals 3 t_globals, zaD K q_t_own 12 t_own]) C 2 1 rfl rfl hS22.1 rfl d_Mo_value_67 ?_
            have hS28 := hS22.2
            refine z_iinc (j := 4) (v := y2 + (1 : Int32)) (lv' := [(2, .int (y2 + (1 : Int32))), (5, .int (t_code (y3 + (1 : Int32)).toNatClampNeg)), (4, .int (t_code y3.toNatClampNeg)), (0, .ref q_t), (1, .int y1), (3, .int y3)]) C d_Mo_value_68 rfl rfl (by decide) rfl ?_
            refine z_goto (tgt := 133) C d_Mo_value_71 (by decide) ?_
            refine z_iinc (j := 5) (v := y3 + (2 : Int32)) (lv' := [(3, .int (y3 + (2 : Int32))), (2, .int (y2 + (1 : Int32))), (5, .int (t_code (y3 + (1 : Int32)).toNatClampNeg)), (4, .int (t_code y3.toNatClampNeg)), (0, .ref q_t), (1, .int y1)]) C d_Mo_value_133 rfl rfl (by decide) rfl ?_
            refine z_goto (tgt := 4) C d_Mo_value_136 (by decide) ?_
            refine z_lpick (lv' := [(0, .ref q_t), (1, .int y1), (2, .int (y2 + (1 : Int32))), (3, .int (y3 + (2 : Int32)))]) [4, 5, 1, 0] rfl ?_
            exact ih y1 (y2 + (1 : Int32)) (y3 + (2 : Int32)) t_failed (vf_upd t_pile y2.toNatClampNeg (FP.i2d (t_code (y3 + (1 : Int32)).toNatClampNeg))) hS28
set_option maxHeartbeats 4000000 in
set_option maxRecDepth 100000 in
theorem cw_Mo_value (l : Launch) (D : va_G) (K : Nat → ClassId) (q_t : Nat) (q_t_text : Nat) (q_t_code : Nat) (q_t_site : Nat) (q_t_condition : Nat) (q_t_actions : Nat) (q_t_kind : Nat) (q_t_target : Nat) (q_t_first : Nat) (q_t_second : Nat) (q_t_failures : Nat) (q_t_met : Nat) (q_t_there : Nat) (q_t_on : Nat) (q_t_compared : Nat) (q_t_globals : Nat) (q_t_own : Nat) (q_t_records : Nat) (q_t_pile : Nat) (q_t_handed : Nat) (q_t_keys : Nat) (q_t_key : Nat) (q_t_count : Nat) (q_t_bins : Nat) (q_t_operator : Nat) (q_t_starts : Nat) (q_t_sum : Nat) (q_t_least : Nat) (q_t_greatest : Nat) (t_newSite : Int32) (t_newCondition : Int32) (t_newActions : Int32) (t_size : Int32) (t_place : Int32) (t_pos : Int32) (t_at : Int32) (t_operators : Int32) (t_recorded : Int32) (t_lost : Int32) (t_dropped : Int32) (t_firings : Int32) (t_time : Int32) (t_thread : Int32) (t_thrown : Int32) (t_failed : Int32) (t_code : Nat → Int32) (t_pile : Nat → UInt64) (t_handed : Nat → UInt64) (t_globals : Nat → UInt64) (t_own : Nat → UInt64) (x1 : Int32) {Q : UInt64 → (Int32 × (Nat → UInt64)) → Prop} (hS0 : WP_Mo_value t_time t_thread t_failed t_code t_pile t_handed t_globals t_own x1 Q) : zCd l y_Mo_value wy_Mo_value rm_Mo_value D zcl (zT K) [.ref q_t, .int x1] (w_Mo_value K q_t q_t_text q_t_code q_t_site q_t_condition q_t_actions q_t_kind q_t_target q_t_first q_t_second q_t_failures q_t_met q_t_there q_t_on q_t_compared q_t_globals q_t_own q_t_records q_t_pile q_t_handed q_t_keys q_t_key q_t_count q_t_bins q_t_operator q_t_starts q_t_sum q_t_least q_t_greatest t_newSite t_newCondition t_newActions t_size t_place t_pos t_at t_operators t_recorded t_lost t_dropped t_firings t_time t_thread t_thrown t_code t_handed t_globals t_own (t_failed, t_pile)) (w_Mo_value K q_t q_t_text q_t_code q_t_site q_t_condition q_t_actions q_t_kind q_t_target q_t_first q_t_second q_t_failures q_t_met q_t_there q_t_on q_t_compared q_t_globals q_t_own q_t_records q_t_pile q_t_handed q_t_keys q_t_key q_t_count q_t_bins q_t_operator q_t_starts q_t_sum q_t_least q_t_greatest t_newSite t_newCondition t_newActions t_size t_place t_pos t_at t_operators t_recorded t_lost t_dropped t_firings t_time t_thread t_thrown t_code t_handed t_globals t_own) Q 0 0 := by
  refine z_metd (cc := b_Mo_value) (maxL := 6) (ret := (some .double)) (by decide) rfl (Nat.le_of_ble_eq_true rfl) ?_
  intro p e s m args below meth c A C hr hlk hnm
  refine z_lpick (lv' := [(0, .ref q_t), (1, .int x1)]) [0, 1] rfl ?_
  refine z_weq (ws' := [zo 6 q_t [.ref q_t_text, .ref q_t_code, .ref q_t_site, .ref q_t_condition, .ref q_t_actions, .ref q_t_kind, .ref q_t_target, .ref q_t_first, .ref q_t_second, .ref q_t_failures, .ref q_t_met, .ref q_t_there, .ref q_t_on, .ref q_t_compared, .ref q_t_globals, .ref q_t_own, .ref q_t_records, .ref q_t_pile, .ref q_t_handed, .ref q_t_keys, .ref q_t_key, .ref q_t_count, .ref q_t_bins, .ref q_t_operator, .ref q_t_starts, .ref q_t_sum, .ref q_t_least, .ref q_t_greatest, .int t_newSite, .int t_newCondition, .int t_newActions, .int t_size, .int t_place, .int t_pos, .int t_at, .int t_operators, .int t_recorded, .int t_lost, .int t_dropped, .int t_firings, .int t_time, .int t_thread, .int t_thrown, .int t_failed], zaI K q_t_code 1400 t_code, zaD K q_t_pile 60 t_pile, zaD K q_t_handed 3 t_handed, zaD K q_t_globals 3 t_globals, zaD K q_t_own 12 t_own]) rfl ?_
  refine z_iconst (v := (0 : Int32)) C d_Mo_value_0 (by decide) ?_
  refine z_istore_n (lv' := [(2, .int (0 : Int32)), (0, .ref q_t), (1, .int x1)]) C d_Mo_value_1 rfl (by decide) rfl ?_
  refine z_iload_n C d_Mo_value_2 rfl 2 rfl ?_
  refine z_istore_n (lv' := [(3, .int x1), (2, .int (0 : Int32)), (0, .ref q_t), (1, .int x1)]) C d_Mo_value_3 rfl (by decide) rfl ?_
  refine z_lpick (lv' := [(0, .ref q_t), (1, .int x1), (2, .int (0 : Int32)), (3, .int x1)]) [2, 3, 1, 0] rfl ?_
  exact lw_Mo_value_L4 l D K q_t q_t_text q_t_code q_t_site q_t_condition q_t_actions q_t_kind q_t_target q_t_first q_t_second q_t_failures q_t_met q_t_there q_t_on q_t_compared q_t_globals q_t_own q_t_records q_t_pile q_t_handed q_t_keys q_t_key q_t_count q_t_bins q_t_operator q_t_starts q_t_sum q_t_least q_t_greatest t_newSite t_newCondition t_newActions t_size t_place t_pos t_at t_operators t_recorded t_lost t_dropped t_firings t_time t_thread t_thrown t_code t_handed t_globals t_own C hr hlk 600 x1 (0 : Int32) x1 t_failed t_pile hS0
def s_Mo_value_L4 : Nat → Int32 → Int32 → Int32 → Int32 → Int32 → Int32 → (Nat → Int32) → (Nat → UInt64) → (Nat → UInt64) → (Nat → UInt64) → (Nat → UInt64) → UInt64 × Int32 × (Nat → UInt64)
  | 0, _, _, _, _, _, t_failed, _, t_pile, _, _, _ => (0, t_failed, t_pile)
  | n + 1, y1, y2, y3, t_time, t_thread, t_failed, t_code, t_pile, t_handed, t_globals, t_own => (if (t_code y3.toNatClampNeg) = 0 then (t_pile 0, t_failed, t_pile) else (if t_failed = 0 then (if (3 : Int32) ≤ (t_code y3.toNatClampNeg) then (if (t_code y3.toNatClampNeg) = (4 : Int32) then s_Mo_value_L4 n y1 y2 (y3 + (2 : Int32)) t_time t_thread t_failed t_code (vf_upd t_pile (y2 - (1 : Int32)).toNatClampNeg (FP.dneg (t_pile (y2 - (1 : Int32)).toNatClampNeg))) t_handed t_globals t_own else (zl2 (s_Mo_reckon t_failed (t_code (y3 + (1 : Int32)).toNatClampNeg) (t_pile (y2 - (2 : Int32)).toNatClampNeg) (t_pile (y2 - (1 : Int32)).toNatClampNeg)) (fun r14 u15 => s_Mo_value_L4 n y1 (y2 + (-1 : Int32)) (y3 + (2 : Int32)) t_time t_thread u15 t_code (vf_upd t_pile (y2 - (2 : Int32)).toNatClampNeg r14) t_handed t_globals t_own))) else (if (t_code y3.toNatClampNeg) = (1 : Int32) then s_Mo_value_L4 n y1 (y2 + (1 : Int32)) (y3 + (2 : Int32)) t_time t_thread t_failed t_code (vf_upd t_pile y2.toNatClampNeg (FP.i2d (t_code (y3 + (1 : Int32)).toNatClampNeg))) t_handed t_globals t_own else (zl1 (s_Mo_load t_time t_thread t_handed t_globals t_own (t_code (y3 + (1 : Int32)).toNatClampNeg)) fun r23 => s_Mo_value_L4 n y1 (y2 + (1 : Int32)) (y3 + (2 : Int32)) t_time t_thread t_failed t_code (vf_upd t_pile y2.toNatClampNeg r23) t_handed t_globals t_own))) else (t_pile 0, t_failed, t_pile)))
def s_Mo_value (t_time : Int32) (t_thread : Int32) (t_failed : Int32) (t_code : Nat → Int32) (t_pile : Nat → UInt64) (t_handed : Nat → UInt64) (t_globals : Nat → UInt64) (t_own : Nat → UInt64) (x1 : Int32) : UInt64 × Int32 × (Nat → UInt64) := s_Mo_value_L4 600 x1 (0 : Int32) x1 t_time t_thread t_failed t_code t_pile t_handed t_globals t_own
def p_Mo_value (t_time : Int32) (t_thread : Int32) (t_failed : Int32) (t_code : Nat → Int32) (t_pile : Nat → UInt64) (t_handed : Nat → UInt64) (t_globals : Nat → UInt64) (t_own : Nat → UInt64) (x1 : Int32) : Prop := WP_Mo_value t_time t_thread t_failed t_code t_pile t_handed t_globals t_own x1 (fun _ _ => True)
set_option maxRecDepth 100000 in
theorem v_Mo_value_L4 : ∀ (n : Nat) (y1 : Int32) (y2 : Int32) (y3 : Int32) (t_time : Int32) (t_thread : Int32) (t_failed : Int32) (t_code : Nat → Int32) (t_pile : Nat → UInt64) (t_handed : Nat → UInt64) (t_globals : Nat → UInt64) (t_own : Nat → UInt64) (tgt : UInt64 × Int32 × (Nat → UInt64)), s_Mo_value_L4 n y1 y2 y3 t_time t_thread t_failed t_code t_pile t_handed t_globals t_own = tgt → WP_Mo_value_L4 n y1 y2 y3 t_time t_thread t_failed t_code t_pile t_handed t_globals t_own (fun _ _ => True) → WP_Mo_value_L4 n y1 y2 y3 t_time t_thread t_failed t_code t_pile t_handed t_globals t_own (fun r u => tgt = (r, u.1, u.2)) := by
  intro n
  induction n with
  | zero => intros; contradiction
  | succ n ih =>
    intro y1 y2 y3 t_time t_thread t_failed t_code t_pile t_handed t_globals t_own tgt f0 hp
    unfold s_Mo_value_L4 at f0
    unfold WP_Mo_value_L4 at hp ⊢
    refine ⟨hp.1, ?_⟩
    have g1 := hp.2
    refine ⟨fun c2 => ?_, fun c2 => ?_⟩
    · have f2 := Eq.trans (Eq.symm (if_pos c2)) f0
      have g2 := g1.1 c2
      exact f2.symm
    · have f2 := Eq.trans (Eq.symm (if_neg c2)) f0
      have g2 := g1.2 c2
      refine ⟨fun c4 => ?_, fun c4 => ?_⟩
      · have f3 := Eq.trans (Eq.symm (if_neg c4)) f2
        have g3 := g2.1 c4
        exact f3.symm
      · have f3 := Eq.trans (Eq.symm (if_pos c4)) f2
        have g3 := g2.2 c4
        refine ⟨g3.1, ?_⟩
        have g4 := g3.2
        refine ⟨g4.1, ?_⟩
        have g5 := g4.2
        refine ⟨fun c8 => ?_, fun c8 => ?_⟩
        · have f6 := Eq.trans (Eq.symm (if_pos c8)) f3
          have g6 := g5.1 c8
          refine ⟨fun c10 => ?_, fun c10 => ?_⟩
          · have f7 := Eq.trans (Eq.symm (if_neg c10)) f6
            have g7 := g6.1 c10
            refine ⟨g7.1, ?_⟩
            have g8 := g7.2
            refine ⟨g8.1, ?_⟩
            have g9 := g8.2
            refine ⟨g9.1, ?_⟩
            have g11 := g9.2
            intro r14 u15 e16
            have g10 := g11 r14 u15 e16
            have f10 := Eq.trans (Eq.symm (zl2_eq e16)) f7
            refine ⟨g10.1, ?_⟩
            have g12 := g10.2
            exact ih y1 (y2 + (-1 : Int32)) (y3 + (2 : Int32)) t_time t_thread u15 t_code (vf_upd t_pile (y2 - (2 : Int32)).toNatClampNeg r14) t_handed t_globals t_own _ f10 g12
          · have f7 := Eq.trans (Eq.symm (if_pos c10)) f6
            have g7 := g6.2 c10
            refine ⟨g7.1, ?_⟩
            have g13 := g7.2
            refine ⟨g13.1, ?_⟩
            have g14 := g13.2
            exact ih y1 y2 (y3 + (2 : Int32)) t_time t_thread t_failed t_code (vf_upd t_pile (y2 - (1 : Int32)).toNatClampNeg (FP.dneg (t_pile (y2 - (1 : Int32)).toNatClampNeg))) t_handed t_globals t_own _ f7 g14
        · have f6 := Eq.trans (Eq.symm (if_neg c8)) f3
          have g6 := g5.2 c8
          refine ⟨fun c21 => ?_, fun c21 => ?_⟩
          · have f15 := Eq.trans (Eq.symm (if_neg c21)) f6
            have g15 := g6.1 c21
            refine ⟨g15.1, ?_⟩
            have g17 := g15.2
            intro r23 e25
            have g16 := g17 r23 e25
            have f16 := Eq.trans (Eq.symm (zl1_eq e25)) f15
            refine ⟨g16.1, ?_⟩
            have g18 := g16.2
            exact ih y1 (y2 + (1 : Int32)) (y3 + (2 : Int32)) t_time t_thread t_failed t_code (vf_upd t_pile y2.toNatClampNeg r23) t_handed t_globals t_own _ f16 g18
          · have f15 := Eq.trans (Eq.symm (if_pos c21)) f6
            have g15 := g6.2 c21
            refine ⟨g15.1, ?_⟩
            have g19 := g15.2
            exact ih y1 (y2 + (1 : Int32)) (y3 + (2 : Int32)) t_time t_thread t_failed t_code (vf_upd t_pile y2.toNatClampNeg (FP.i2d (t_code (y3 + (1 : Int32)).toNatClampNeg))) t_handed t_globals t_own _ f15 g19
set_option maxRecDepth 100000 in
theorem v_Mo_value (t_time : Int32) (t_thread : Int32) (t_failed : Int32) (t_code : Nat → Int32) (t_pile : Nat → UInt64) (t_handed : Nat → UInt64) (t_globals : Nat → UInt64) (t_own : Nat → UInt64) (x1 : Int32) (hp : p_Mo_value t_time t_thread t_failed t_code t_pile t_handed t_globals t_own x1) : WP_Mo_value t_time t_thread t_failed t_code t_pile t_handed t_globals t_own x1 (fun r u => s_Mo_value t_time t_thread t_failed t_code t_pile t_handed t_globals t_own x1 = (r, u.1, u.2)) := by
  unfold p_Mo_value WP_Mo_value at hp
  obtain ⟨tgt, f0⟩ : ∃ tgt, s_Mo_value t_time t_thread t_failed t_code t_pile t_handed t_globals t_own x1 = tgt := ⟨_, rfl⟩
  rw [f0]
  unfold s_Mo_value at f0
  unfold WP_Mo_value
  exact v_Mo_value_L4 600 x1 (0 : Int32) x1 t_time t_thread t_failed t_code t_pile t_handed t_globals t_own _ f0 hp
theorem c_Mo_value (l : Launch) (D : va_G) (K : Nat → ClassId) (q_t : Nat) (q_t_text : Nat) (q_t_code : Nat) (q_t_site : Nat) (q_t_condition : Nat) (q_t_actions : Nat) (q_t_kind : Nat) (q_t_target : Nat) (q_t_first : Nat) (q_t_second : Nat) (q_t_failures : Nat) (q_t_met : Nat) (q_t_there : Nat) (q_t_on : Nat) (q_t_compared : Nat) (q_t_globals : Nat) (q_t_own : Nat) (q_t_records : Nat) (q_t_pile : Nat) (q_t_handed : Nat) (q_t_keys : Nat) (q_t_key : Nat) (q_t_count : Nat) (q_t_bins : Nat) (q_t_operator : Nat) (q_t_starts : Nat) (q_t_sum : Nat) (q_t_least : Nat) (q_t_greatest : Nat) (t_newSite : Int32) (t_newCondition : Int32) (t_newActions : Int32) (t_size : Int32) (t_place : Int32) (t_pos : Int32) (t_at : Int32) (t_operators : Int32) (t_recorded : Int32) (t_lost : Int32) (t_dropped : Int32) (t_firings : Int32) (t_time : Int32) (t_thread : Int32) (t_thrown : Int32) (t_failed : Int32) (t_code : Nat → Int32) (t_pile : Nat → UInt64) (t_handed : Nat → UInt64) (t_globals : Nat → UInt64) (t_own : Nat → UInt64) (x1 : Int32) (hp : p_Mo_value t_time t_thread t_failed t_code t_pile t_handed t_globals t_own x1) : zCd l y_Mo_value wy_Mo_value rm_Mo_value D zcl (zT K) [.ref q_t, .int x1] (w_Mo_value K q_t q_t_text q_t_code q_t_site q_t_condition q_t_actions q_t_kind q_t_target q_t_first q_t_second q_t_failures q_t_met q_t_there q_t_on q_t_compared q_t_globals q_t_own q_t_records q_t_pile q_t_handed q_t_keys q_t_key q_t_count q_t_bins q_t_operator q_t_starts q_t_sum q_t_least q_t_greatest t_newSite t_newCondition t_newActions t_size t_place t_pos t_at t_operators t_recorded t_lost t_dropped t_firings t_time t_thread t_thrown t_code t_handed t_globals t_own (t_failed, t_pile)) (w_Mo_value K q_t q_t_text q_t_code q_t_site q_t_condition q_t_actions q_t_kind q_t_target q_t_first q_t_second q_t_failures q_t_met q_t_there q_t_on q_t_compared q_t_globals q_t_own q_t_records q_t_pile q_t_handed q_t_keys q_t_key q_t_count q_t_bins q_t_operator q_t_starts q_t_sum q_t_least q_t_greatest t_newSite t_newCondition t_newActions t_size t_place t_pos t_at t_operators t_recorded t_lost t_dropped t_firings t_time t_thread t_thrown t_code t_handed t_globals t_own) (fun r u => s_Mo_value t_time t_thread t_failed t_code t_pile t_handed t_globals t_own x1 = (r, u.1, u.2)) 0 0 := cw_Mo_value l D K q_t q_t_text q_t_code q_t_site q_t_condition q_t_actions q_t_kind q_t_target q_t_first q_t_second q_t_failures q_t_met q_t_there q_t_on q_t_compared q_t_globals q_t_own q_t_records q_t_pile q_t_handed q_t_keys q_t_key q_t_count q_t_bins q_t_operator q_t_starts q_t_sum q_t_least q_t_greatest t_newSite t_newCondition t_newActions t_size t_place t_pos t_at t_operators t_recorded t_lost t_dropped t_firings t_time t_thread t_thrown t_failed t_code t_pile t_handed t_globals t_own x1 (v_Mo_value t_time t_thread t_failed t_code t_pile t_handed t_globals t_own x1 hp)
-- RuleTracerModel.binOf(D)I: reads [], changes []
abbrev w_Mo_binOf (K : Nat → ClassId)   (u : Unit) : va_W := []
abbrev rm_Mo_binOf : Room := { frames := 0, cells := 0, slots := 0, locals := 0 }
abbrev wy_Mo_binOf : List Cond := .code y_Mo_binOf b_Mo_binOf 5 (some .int) :: zWT
def WP_Mo_binOf_L4 : Nat → UInt64 → Int32 → UInt64 → (Int32 → Unit → Prop) → Prop
  | 0, _, _, _, _ => False
  | n + 1, y0, y2, y3, Q => (((7 : Int32) ≤ y2) → Q y2 ()) ∧ ((¬ (7 : Int32) ≤ y2) → (((Op.cmpValue (FP.dcmp y0 y3) .l) < 0) → Q y2 ()) ∧ ((¬ (Op.cmpValue (FP.dcmp y0 y3) .l) < 0) → vf_n64 (FP.dmul y3 (4611686018427387904 : UInt64)) ∧ WP_Mo_binOf_L4 n y0 (y2 + (1 : Int32)) (FP.dmul y3 (4611686018427387904 : UInt64)) Q))
def WP_Mo_binOf (x0 : UInt64) (Q : Int32 → Unit → Prop) : Prop := WP_Mo_binOf_L4 600 x0 (0 : Int32) FP.dconst1 Q
set_option maxHeartbeats 4000000 in
set_option maxRecDepth 100000 in
theorem lw_Mo_binOf_L4 {p : Program} {e : Env} {s : State} {m : MethodId} {args : Array Value} {below : List Frame} {meth : Method} {c : Code} {A : Nat → Prop} (l : Launch) (D : va_G) (K : Nat → ClassId)   {Q : Int32 → Unit → Prop} (C : zCx p s m args c b_Mo_binOf 5 R_Mo zWT D zcl (zT K) A) (hr : meth.sig.returnType = (some .int)) (hlk : meth.locks = false) : ∀ (n : Nat) (y0 : UInt64) (y2 : Int32) (y3 : UInt64), WP_Mo_binOf_L4 n y0 y2 y3 Q → zW p l e (headSpec wy_Mo_binOf rm_Mo_binOf).room s m args below meth c D zcl A 5 0 0 (MQ below (va_Qi Q (zB D zcl (zT K) (w_Mo_binOf K) A) A) args s 0 0 A) [(0, .double y0), (2, .int y2), (3, .double y3)] [] 4 [] := by
  intro n
  induction n with
  | zero => intros; contradiction
  | succ n ih =>
    intro y0 y2 y3 hS0
    refine z_iload_n C d_Mo_binOf_4 rfl 1 rfl ?_
    refine z_bipush (v := (7 : Int32)) C d_Mo_binOf_5 (by decide) ?_
    refine z_icmp_ge (tgt := 28) C d_Mo_binOf_7 (by decide) (fun c1 => ?_) (fun c1 => ?_)
    · have hS2 := hS0.1 c1
      refine z_iload_n C d_Mo_binOf_28 rfl 1 rfl ?_
      exact z_iret C hr hlk () rfl hS2 d_Mo_binOf_29
    · have hS2 := hS0.2 c1
      refine z_dload_n C d_Mo_binOf_10 rfl 0 rfl ?_
      refine z_dload_n C d_Mo_binOf_11 rfl 2 rfl ?_
      refine z_dcmp C d_Mo_binOf_12 ?_
      refine z_if_lt (tgt := 28) C d_Mo_binOf_13 (by decide) (fun c3 => ?_) (fun c3 => ?_)
      · have hS4 := hS2.1 c3
        refine z_iload_n C d_Mo_binOf_28 rfl 1 rfl ?_
        exact z_iret C hr hlk () rfl hS4 d_Mo_binOf_29
      · have hS4 := hS2.2 c3
        refine z_iinc (j := 1) (v := y2 + (1 : Int32)) (lv' := [(2, .int (y2 + (1 : Int32))), (0, .double y0), (3, .double y3)]) C d_Mo_binOf_16 rfl rfl (by decide) rfl ?_
        refine z_dload_n C d_Mo_binOf_19 rfl 2 rfl ?_
        refine z_ldc2d C d_Mo_binOf_20 wd_Mo_189 ?_
        refine z_dmul C d_Mo_binOf_23 hS4.1 ?_
        have hS5 := hS4.2
        refine z_dstore_n (lv' := [(3, .double (FP.dmul y3 (4611686018427387904 : UInt64))), (2, .int (y2 + (1 : Int32))), (0, .double y0)]) C d_Mo_binOf_24 rfl (by decide) rfl ?_
        refine z_goto (tgt := 4) C d_Mo_binOf_25 (by decide) ?_
        refine z_lpick (lv' := [(0, .double y0), (2, .int (y2 + (1 : Int32))), (3, .double (FP.dmul y3 (4611686018427387904 : UInt64)))]) [2, 1, 0] rfl ?_
        exact ih y0 (y2 + (1 : Int32)) (FP.dmul y3 (4611686018427387904 : UInt64)) hS5
set_option maxHeartbeats 4000000 in
set_option maxRecDepth 100000 in
theorem cw_Mo_binOf (l : Launch) (D : va_G) (K : Nat → ClassId)  (x0 : UInt64) {Q : Int32 → Unit → Prop} (hS0 : WP_Mo_binOf x0 Q) : zCi l y_Mo_binOf wy_Mo_binOf rm_Mo_binOf D zcl (zT K) [.double x0] (w_Mo_binOf K ()) (w_Mo_binOf K) Q 0 0 := by
  refine z_meti (cc := b_Mo_binOf) (maxL := 5) (ret := (some .int)) (by decide) rfl (Nat.le_of_ble_eq_true rfl) ?_
  intro p e s m args below meth c A C hr hlk hnm
  refine z_lpick (lv' := [(0, .double x0)]) [0] rfl ?_
  refine z_weq (ws' := []) rfl ?_
  refine z_iconst (v := (0 : Int32)) C d_Mo_binOf_0 (by decide) ?_
  refine z_istore_n (lv' := [(2, .int (0 : Int32)), (0, .double x0)]) C d_Mo_binOf_1 rfl (by decide) rfl ?_
  refine z_dconst1 C d_Mo_binOf_2 ?_
  refine z_dstore_n (lv' := [(3, .double FP.dconst1), (2, .int (0 : Int32)), (0, .double x0)]) C d_Mo_binOf_3 rfl (by decide) rfl ?_
  refine z_lpick (lv' := [(0, .double x0), (2, .int (0 : Int32)), (3, .double FP.dconst1)]) [2, 1, 0] rfl ?_
  exact lw_Mo_binOf_L4 l D K C hr hlk 600 x0 (0 : Int32) FP.dconst1 hS0
def s_Mo_binOf_L4 : Nat → UInt64 → Int32 → UInt64 → Int32
  | 0, _, _, _ => 0
  | n + 1, y0, y2, y3 => (if (7 : Int32) ≤ y2 then y2 else (if (Op.cmpValue (FP.dcmp y0 y3) .l) < 0 then y2 else s_Mo_binOf_L4 n y0 (y2 + (1 : Int32)) (FP.dmul y3 (4611686018427387904 : UInt64))))
def s_Mo_binOf (x0 : UInt64) : Int32 := s_Mo_binOf_L4 600 x0 (0 : Int32) FP.dconst1
def p_Mo_binOf (x0 : UInt64) : Prop := WP_Mo_binOf x0 (fun _ _ => True)
set_option maxRecDepth 100000 in
theorem v_Mo_binOf_L4 : ∀ (n : Nat) (y0 : UInt64) (y2 : Int32) (y3 : UInt64) (tgt : Int32), s_Mo_binOf_L4 n y0 y2 y3 = tgt → WP_Mo_binOf_L4 n y0 y2 y3 (fun _ _ => True) → WP_Mo_binOf_L4 n y0 y2 y3 (fun r u => tgt = r) := by
  intro n
  induction n with
  | zero => intros; contradiction
  | succ n ih =>
    intro y0 y2 y3 tgt f0 hp
    unfold s_Mo_binOf_L4 at f0
    unfold WP_Mo_binOf_L4 at hp ⊢
    refine ⟨fun c1 => ?_, fun c1 => ?_⟩
    · have f1 := Eq.trans (Eq.symm (if_pos c1)) f0
      have g1 := hp.1 c1
      exact f1.symm
    · have f1 := Eq.trans (Eq.symm (if_neg c1)) f0
      have g1 := hp.2 c1
      refine ⟨fun c3 => ?_, fun c3 => ?_⟩
      · have f2 := Eq.trans (Eq.symm (if_pos c3)) f1
        have g2 := g1.1 c3
        exact f2.symm
      · have f2 := Eq.trans (Eq.symm (if_neg c3)) f1
        have g2 := g1.2 c3
        refine ⟨g2.1, ?_⟩
        have g3 := g2.2
        exact ih y0 (y2 + (1 : Int32)) (FP.dmul y3 (4611686018427387904 : UInt64)) _ f2 g3
set_option maxRecDepth 100000 in
theorem v_Mo_binOf (x0 : UInt64) (hp : p_Mo_binOf x0) : WP_Mo_binOf x0 (fun r u => s_Mo_binOf x0 = r) := by
  unfold p_Mo_binOf WP_Mo_binOf at hp
  obtain ⟨tgt, f0⟩ : ∃ tgt, s_Mo_binOf x0 = tgt := ⟨_, rfl⟩
  rw [f0]
  unfold s_Mo_binOf at f0
  unfold WP_Mo_binOf
  exact v_Mo_binOf_L4 600 x0 (0 : Int32) FP.dconst1 _ f0 hp
theorem c_Mo_binOf (l : Launch) (D : va_G) (K : Nat → ClassId)  (x0 : UInt64) (hp : p_Mo_binOf x0) : zCi l y_Mo_binOf wy_Mo_binOf rm_Mo_binOf D zcl (zT K) [.double x0] (w_Mo_binOf K ()) (w_Mo_binOf K) (fun r u => s_Mo_binOf x0 = r) 0 0 := cw_Mo_binOf l D K x0 (v_Mo_binOf x0 hp)
-- RuleTracerModel.find(II)I: reads ['t.keys', 't.key'], changes []
abbrev w_Mo_find (K : Nat → ClassId) (q_t : Nat) (q_t_text : Nat) (q_t_code : Nat) (q_t_site : Nat) (q_t_condition : Nat) (q_t_actions : Nat) (q_t_kind : Nat) (q_t_target : Nat) (q_t_first : Nat) (q_t_second : Nat) (q_t_failures : Nat) (q_t_met : Nat) (q_t_there : Nat) (q_t_on : Nat) (q_t_compared : Nat) (q_t_globals : Nat) (q_t_own : Nat) (q_t_records : Nat) (q_t_pile : Nat) (q_t_handed : Nat) (q_t_keys : Nat) (q_t_key : Nat) (q_t_count : Nat) (q_t_bins : Nat) (q_t_operator : Nat) (q_t_starts : Nat) (q_t_sum : Nat) (q_t_least : Nat) (q_t_greatest : Nat) (t_newSite : Int32) (t_newCondition : Int32) (t_newActions : Int32) (t_size : Int32) (t_place : Int32) (t_pos : Int32) (t_at : Int32) (t_operators : Int32) (t_recorded : Int32) (t_lost : Int32) (t_dropped : Int32) (t_firings : Int32) (t_time : Int32) (t_thread : Int32) (t_thrown : Int32) (t_failed : Int32) (t_keys : Nat → Int32) (t_key : Nat → Int32) (u : Unit) : va_W := [zo 6 q_t [.ref q_t_text, .ref q_t_code, .ref q_t_site, .ref q_t_condition, .ref q_t_actions, .ref q_t_kind, .ref q_t_target, .ref q_t_first, .ref q_t_second, .ref q_t_failures, .ref q_t_met, .ref q_t_there, .ref q_t_on, .ref q_t_compared, .ref q_t_globals, .ref q_t_own, .ref q_t_records, .ref q_t_pile, .ref q_t_handed, .ref q_t_keys, .ref q_t_key, .ref q_t_count, .ref q_t_bins, .ref q_t_operator, .ref q_t_starts, .ref q_t_sum, .ref q_t_least, .ref q_t_greatest, .int t_newSite, .int t_newCondition, .int t_newActions, .int t_size, .int t_place, .int t_pos, .int t_at, .int t_operators, .int t_recorded, .int t_lost, .int t_dropped, .int t_firings, .int t_time, .int t_thread, .int t_thrown, .int t_failed], zaI K q_t_keys 3 t_keys, zaI K q_t_key 12 t_key]
abbrev rm_Mo_find : Room := { frames := 0, cells := 0, slots := 0, locals := 0 }
abbrev wy_Mo_find : List Cond := .code y_Mo_find b_Mo_find 4 (some .int) :: zWT
def WP_Mo_find_L2 : Nat → Int32 → Int32 → Int32 → (Nat → Int32) → (Nat → Int32) → (Int32 → Unit → Prop) → Prop
  | 0, _, _, _, _, _, _ => False
  | n + 1, y1, y2, y3, t_keys, t_key, Q => vp_in y1 3 ∧ (((t_keys y1.toNatClampNeg) ≤ y3) → Q (-1 : Int32) ()) ∧ ((¬ (t_keys y1.toNatClampNeg) ≤ y3) → vp_in ((y1 * (4 : Int32)) + y3) 12 ∧ ((¬ (t_key ((y1 * (4 : Int32)) + y3).toNatClampNeg) = y2) → WP_Mo_find_L2 n y1 y2 (y3 + (1 : Int32)) t_keys t_key Q) ∧ (((t_key ((y1 * (4 : Int32)) + y3).toNatClampNeg) = y2) → Q ((y1 * (4 : Int32)) + y3) ()))
def WP_Mo_find (t_keys : Nat → Int32) (t_key : Nat → Int32) (x1 : Int32) (x2 : Int32) (Q : Int32 → Unit → Prop) : Prop := WP_Mo_find_L2 600 x1 x2 (0 : Int32) t_keys t_key Q
set_option maxHeartbeats 4000000 in
set_option maxRecDepth 100000 in
theorem lw_Mo_find_L2 {p : Program} {e : Env} {s : State} {m : MethodId} {args : Array Value} {below : List Frame} {meth : Method} {c : Code} {A : Nat → Prop} (l : Launch) (D : va_G) (K : Nat → ClassId) (q_t : Nat) (q_t_text : Nat) (q_t_code : Nat) (q_t_site : Nat) (q_t_condition : Nat) (q_t_actions : Nat) (q_t_kind : Nat) (q_t_target : Nat) (q_t_first : Nat) (q_t_second : Nat) (q_t_failures : Nat) (q_t_met : Nat) (q_t_there : Nat) (q_t_on : Nat) (q_t_compared : Nat) (q_t_globals : Nat) (q_t_own : Nat) (q_t_records : Nat) (q_t_pile : Nat) (q_t_handed : Nat) (q_t_keys : Nat) (q_t_key : Nat) (q_t_count : Nat) (q_t_bins : Nat) (q_t_operator : Nat) (q_t_starts : Nat) (q_t_sum : Nat) (q_t_least : Nat) (q_t_greatest : Nat) (t_newSite : Int32) (t_newCondition : Int32) (t_newActions : Int32) (t_size : Int32) (t_place : Int32) (t_pos : Int32) (t_at : Int32) (t_operators : Int32) (t_recorded : Int32) (t_lost : Int32) (t_dropped : Int32) (t_firings : Int32) (t_time : Int32) (t_thread : Int32) (t_thrown : Int32) (t_failed : Int32) (t_keys : Nat → Int32) (t_key : Nat → Int32) {Q : Int32 → Unit → Prop} (C : zCx p s m args c b_Mo_find 4 R_Mo zWT D zcl (zT K) A) (hr : meth.sig.returnType = (some .int)) (hlk : meth.locks = false) : ∀ (n : Nat) (y1 : Int32) (y2 : Int32) (y3 : Int32), WP_Mo_find_L2 n y1 y2 y3 t_keys t_key Q → zW p l e (headSpec wy_Mo_find rm_Mo_find).room s m args below meth c D zcl A 4 0 0 (MQ below (va_Qi Q (zB D zcl (zT K) (w_Mo_find K q_t q_t_text q_t_code q_t_site q_t_condition q_t_actions q_t_kind q_t_target q_t_first q_t_second q_t_failures q_t_met q_t_there q_t_on q_t_compared q_t_globals q_t_own q_t_records q_t_pile q_t_handed q_t_keys q_t_key q_t_count q_t_bins q_t_operator q_t_starts q_t_sum q_t_least q_t_greatest t_newSite t_newCondition t_newActions t_size t_place t_pos t_at t_operators t_recorded t_lost t_dropped t_firings t_time t_thread t_thrown t_failed t_keys t_key) A) A) args s 0 0 A) [(0, .ref q_t), (1, .int y1), (2, .int y2), (3, .int y3)] [zo 6 q_t [.ref q_t_text, .ref q_t_code, .ref q_t_site, .ref q_t_condition, .ref q_t_actions, .ref q_t_kind, .ref q_t_target, .ref q_t_first, .ref q_t_second, .ref q_t_failures, .ref q_t_met, .ref q_t_there, .ref q_t_on, .ref q_t_compared, .ref q_t_globals, .ref q_t_own, .ref q_t_records, .ref q_t_pile, .ref q_t_handed, .ref q_t_keys, .ref q_t_key, .ref q_t_count, .ref q_t_bins, .ref q_t_operator, .ref q_t_starts, .ref q_t_sum, .ref q_t_least, .ref q_t_greatest, .int t_newSite, .int t_newCondition, .int t_newActions, .int t_size, .int t_place, .int t_pos, .int t_at, .int t_operators, .int t_recorded, .int t_lost, .int t_dropped, .int t_firings, .int t_time, .int t_thread, .int t_thrown, .int t_failed], zaI K q_t_keys 3 t_keys, zaI K q_t_key 12 t_key] 2 [] := by
  intro n
  induction n with
  | zero => intros; contradiction
  | succ n ih =>
    intro y1 y2 y3 hS0
    refine z_iload_n C d_Mo_find_2 rfl 3 rfl ?_
    refine z_aload_n C d_Mo_find_3 rfl 0 rfl ?_
    refine z_get C 0 rfl rfl in_Mo 19 (by decide) rfl wf_Mo_69 rfl d_Mo_find_4 ?_
    refine z_iload_n C d_Mo_find_7 rfl 1 rfl ?_
    refine z_iald C 1 0 rfl rfl hS0.1 d_Mo_find_8 ?_
    have hS1 := hS0.2
    refine z_icmp_ge (tgt := 38) C d_Mo_find_9 (by decide) (fun c2 => ?_) (fun c2 => ?_)
    · have hS3 := hS1.1 c2
      refine z_iconst (v := (-1 : Int32)) C d_Mo_find_38 (by decide) ?_
      exact z_iret C hr hlk () rfl hS3 d_Mo_find_39
    · have hS3 := hS1.2 c2
      refine z_aload_n C d_Mo_find_12 rfl 0 rfl ?_
      refine z_get C 0 rfl rfl in_Mo 20 (by decide) rfl wf_Mo_72 rfl d_Mo_find_13 ?_
      refine z_iload_n C d_Mo_find_16 rfl 1 rfl ?_
      refine z_iconst (v := (4 : Int32)) C d_Mo_find_17 (by decide) ?_
      refine z_imul C d_Mo_find_18 ?_
      refine z_iload_n C d_Mo_find_19 rfl 3 rfl ?_
      refine z_iadd C d_Mo_find_20 ?_
      refine z_iald C 2 0 rfl rfl hS3.1 d_Mo_find_21 ?_
      have hS4 := hS3.2
      refine z_iload_n C d_Mo_find_22 rfl 2 rfl ?_
      refine z_icmp_ne (tgt := 32) C d_Mo_find_23 (by decide) (fun c5 => ?_) (fun c5 => ?_)
      · have hS6 := hS4.1 c5
        refine z_iinc (j := 3) (v := y3 + (1 : Int32)) (lv' := [(3, .int (y3 + (1 : Int32))), (0, .ref q_t), (1, .int y1), (2, .int y2)]) C d_Mo_find_32 rfl rfl (by decide) rfl ?_
        refine z_goto (tgt := 2) C d_Mo_find_35 (by decide) ?_
        refine z_lpick (lv' := [(0, .ref q_t), (1, .int y1), (2, .int y2), (3, .int (y3 + (1 : Int32)))]) [1, 2, 3, 0] rfl ?_
        exact ih y1 y2 (y3 + (1 : Int32)) hS6
      · have hS6 := hS4.2 c5
        refine z_iload_n C d_Mo_find_26 rfl 1 rfl ?_
        refine z_iconst (v := (4 : Int32)) C d_Mo_find_27 (by decide) ?_
        refine z_imul C d_Mo_find_28 ?_
        refine z_iload_n C d_Mo_find_29 rfl 3 rfl ?_
        refine z_iadd C d_Mo_find_30 ?_
        exact z_iret C hr hlk () rfl hS6 d_Mo_find_31
set_option maxHeartbeats 4000000 in
set_option maxRecDepth 100000 in
theorem cw_Mo_find (l : Launch) (D : va_G) (K : Nat → ClassId) (q_t : Nat) (q_t_text : Nat) (q_t_code : Nat) (q_t_site : Nat) (q_t_condition : Nat) (q_t_actions : Nat) (q_t_kind : Nat) (q_t_target : Nat) (q_t_first : Nat) (q_t_second : Nat) (q_t_failures : Nat) (q_t_met : Nat) (q_t_there : Nat) (q_t_on : Nat) (q_t_compared : Nat) (q_t_globals : Nat) (q_t_own : Nat) (q_t_records : Nat) (q_t_pile : Nat) (q_t_handed : Nat) (q_t_keys : Nat) (q_t_key : Nat) (q_t_count : Nat) (q_t_bins : Nat) (q_t_operator : Nat) (q_t_starts : Nat) (q_t_sum : Nat) (q_t_least : Nat) (q_t_greatest : Nat) (t_newSite : Int32) (t_newCondition : Int32) (t_newActions : Int32) (t_size : Int32) (t_place : Int32) (t_pos : Int32) (t_at : Int32) (t_operators : Int32) (t_recorded : Int32) (t_lost : Int32) (t_dropped : Int32) (t_firings : Int32) (t_time : Int32) (t_thread : Int32) (t_thrown : Int32) (t_failed : Int32) (t_keys : Nat → Int32) (t_key : Nat → Int32) (x1 : Int32) (x2 : Int32) {Q : Int32 → Unit → Prop} (hS0 : WP_Mo_find t_keys t_key x1 x2 Q) : zCi l y_Mo_find wy_Mo_find rm_Mo_find D zcl (zT K) [.ref q_t, .int x1, .int x2] (w_Mo_find K q_t q_t_text q_t_code q_t_site q_t_condition q_t_actions q_t_kind q_t_target q_t_first q_t_second q_t_failures q_t_met q_t_there q_t_on q_t_compared q_t_globals q_t_own q_t_records q_t_pile q_t_handed q_t_keys q_t_key q_t_count q_t_bins q_t_operator q_t_starts q_t_sum q_t_least q_t_greatest t_newSite t_newCondition t_newActions t_size t_place t_pos t_at t_operators t_recorded t_lost t_dropped t_firings t_time t_thread t_thrown t_failed t_keys t_key ()) (w_Mo_find K q_t q_t_text q_t_code q_t_site q_t_condition q_t_actions q_t_kind q_t_target q_t_first q_t_second q_t_failures q_t_met q_t_there q_t_on q_t_compared q_t_globals q_t_own q_t_records q_t_pile q_t_handed q_t_keys q_t_key q_t_count q_t_bins q_t_operator q_t_starts q_t_sum q_t_least q_t_greatest t_newSite t_newCondition t_newActions t_size t_place t_pos t_at t_operators t_recorded t_lost t_dropped t_firings t_time t_thread t_thrown t_failed t_keys t_key) Q 0 0 := by
  refine z_meti (cc := b_Mo_find) (maxL := 4) (ret := (some .int)) (by decide) rfl (Nat.le_of_ble_eq_true rfl) ?_
  intro p e s m args below meth c A C hr hlk hnm
  refine z_lpick (lv' := [(0, .ref q_t), (1, .int x1), (2, .int x2)]) [0, 1, 2] rfl ?_
  refine z_weq (ws' := [zo 6 q_t [.ref q_t_text, .ref q_t_code, .ref q_t_site, .ref q_t_condition, .ref q_t_actions, .ref q_t_kind, .ref q_t_target, .ref q_t_first, .ref q_t_second, .ref q_t_failures, .ref q_t_met, .ref q_t_there, .ref q_t_on, .ref q_t_compared, .ref q_t_globals, .ref q_t_own, .ref q_t_records, .ref q_t_pile, .ref q_t_handed, .ref q_t_keys, .ref q_t_key, .ref q_t_count, .ref q_t_bins, .ref q_t_operator, .ref q_t_starts, .ref q_t_sum, .ref q_t_least, .ref q_t_greatest, .int t_newSite, .int t_newCondition, .int t_newActions, .int t_size, .int t_place, .int t_pos, .int t_at, .int t_operators, .int t_recorded, .int t_lost, .int t_dropped, .int t_firings, .int t_time, .int t_thread, .int t_thrown, .int t_failed], zaI K q_t_keys 3 t_keys, zaI K q_t_key 12 t_key]) rfl ?_
  refine z_iconst (v := (0 : Int32)) C d_Mo_find_0 (by decide) ?_
  refine z_istore_n (lv' := [(3, .int (0 : Int32)), (0, .ref q_t), (1, .int x1), (2, .int x2)]) C d_Mo_find_1 rfl (by decide) rfl ?_
  refine z_lpick (lv' := [(0, .ref q_t), (1, .int x1), (2, .int x2), (3, .int (0 : Int32))]) [1, 2, 3, 0] rfl ?_
  exact lw_Mo_find_L2 l D K q_t q_t_text q_t_code q_t_site q_t_condition q_t_actions q_t_kind q_t_target q_t_first q_t_second q_t_failures q_t_met q_t_there q_t_on q_t_compared q_t_globals q_t_own q_t_records q_t_pile q_t_handed q_t_keys q_t_key q_t_count q_t_bins q_t_operator q_t_starts q_t_sum q_t_least q_t_greatest t_newSite t_newCondition t_newActions t_size t_place t_pos t_at t_operators t_recorded t_lost t_dropped t_firings t_time t_thread t_thrown t_failed t_keys t_key C hr hlk 600 x1 x2 (0 : Int32) hS0
def s_Mo_find_L2 : Nat → Int32 → Int32 → Int32 → (Nat → Int32) → (Nat → Int32) → Int32
  | 0, _, _, _, _, _ => 0
  | n + 1, y1, y2, y3, t_keys, t_key => (if (t_keys y1.toNatClampNeg) ≤ y3 then (-1 : Int32) else (if (t_key ((y1 * (4 : Int32)) + y3).toNatClampNeg) = y2 then (y1 * (4 : Int32)) + y3 else s_Mo_find_L2 n y1 y2 (y3 + (1 : Int32)) t_keys t_key))
def s_Mo_find (t_keys : Nat → Int32) (t_key : Nat → Int32) (x1 : Int32) (x2 : Int32) : Int32 := s_Mo_find_L2 600 x1 x2 (0 : Int32) t_keys t_key
def p_Mo_find (t_keys : Nat → Int32) (t_key : Nat → Int32) (x1 : Int32) (x2 : Int32) : Prop := WP_Mo_find t_keys t_key x1 x2 (fun _ _ => True)
set_option maxRecDepth 100000 in
theorem v_Mo_find_L2 : ∀ (n : Nat) (y1 : Int32) (y2 : Int32) (y3 : Int32) (t_keys : Nat → Int32) (t_key : Nat → Int32) (tgt : Int32), s_Mo_find_L2 n y1 y2 y3 t_keys t_key = tgt → WP_Mo_find_L2 n y1 y2 y3 t_keys t_key (fun _ _ => True) → WP_Mo_find_L2 n y1 y2 y3 t_keys t_key (fun r u => tgt = r) := by
  intro n
  induction n with
  | zero => intros; contradiction
  | succ n ih =>
    intro y1 y2 y3 t_keys t_key tgt f0 hp
    unfold s_Mo_find_L2 at f0
    unfold WP_Mo_find_L2 at hp ⊢
    refine ⟨hp.1, ?_⟩
    have g1 := hp.2
    refine ⟨fun c2 => ?_, fun c2 => ?_⟩
    · have f2 := Eq.trans (Eq.symm (if_pos c2)) f0
      have g2 := g1.1 c2
      exact f2.symm
    · have f2 := Eq.trans (Eq.symm (if_neg c2)) f0
      have g2 := g1.2 c2
      refine ⟨g2.1, ?_⟩
      have g3 := g2.2
      refine ⟨fun c5 => ?_, fun c5 => ?_⟩
      · have f4 := Eq.trans (Eq.symm (if_neg c5)) f2
        have g4 := g3.1 c5
        exact ih y1 y2 (y3 + (1 : Int32)) t_keys t_key _ f4 g4
      · have f4 := Eq.trans (Eq.symm (if_pos c5)) f2
        have g4 := g3.2 c5
        exact f4.symm
set_option maxRecDepth 100000 in
theorem v_Mo_find (t_keys : Nat → Int32) (t_key : Nat → Int32) (x1 : Int32) (x2 : Int32) (hp : p_Mo_find t_keys t_key x1 x2) : WP_Mo_find t_keys t_key x1 x2 (fun r u => s_Mo_find t_keys t_key x1 x2 = r) := by
  unfold p_Mo_find WP_Mo_find at hp
  obtain ⟨tgt, f0⟩ : ∃ tgt, s_Mo_find t_keys t_key x1 x2 = tgt := ⟨_, rfl⟩
  rw [f0]
  unfold s_Mo_find at f0
  unfold WP_Mo_find
  exact v_Mo_find_L2 600 x1 x2 (0 : Int32) t_keys t_key _ f0 hp
theorem c_Mo_find (l : Launch) (D : va_G) (K : Nat → ClassId) (q_t : Nat) (q_t_text : Nat) (q_t_code : Nat) (q_t_site : Nat) (q_t_condition : Nat) (q_t_actions : Nat) (q_t_kind : Nat) (q_t_target : Nat) (q_t_first : Nat) (q_t_second : Nat) (q_t_failures : Nat) (q_t_met : Nat) (q_t_there : Nat) (q_t_on : Nat) (q_t_compared : Nat) (q_t_globals : Nat) (q_t_own : Nat) (q_t_records : Nat) (q_t_pile : Nat) (q_t_handed : Nat) (q_t_keys : Nat) (q_t_key : Nat) (q_t_count : Nat) (q_t_bins : Nat) (q_t_operator : Nat) (q_t_starts : Nat) (q_t_sum : Nat) (q_t_least : Nat) (q_t_greatest : Nat) (t_newSite : Int32) (t_newCondition : Int32) (t_newActions : Int32) (t_size : Int32) (t_place : Int32) (t_pos : Int32) (t_at : Int32) (t_operators : Int32) (t_recorded : Int32) (t_lost : Int32) (t_dropped : Int32) (t_firings : Int32) (t_time : Int32) (t_thread : Int32) (t_thrown : Int32) (t_failed : Int32) (t_keys : Nat → Int32) (t_key : Nat → Int32) (x1 : Int32) (x2 : Int32) (hp : p_Mo_find t_keys t_key x1 x2) : zCi l y_Mo_find wy_Mo_find rm_Mo_find D zcl (zT K) [.ref q_t, .int x1, .int x2] (w_Mo_find K q_t q_t_text q_t_code q_t_site q_t_condition q_t_actions q_t_kind q_t_target q_t_first q_t_second q_t_failures q_t_met q_t_there q_t_on q_t_compared q_t_globals q_t_own q_t_records q_t_pile q_t_handed q_t_keys q_t_key q_t_count q_t_bins q_t_operator q_t_starts q_t_sum q_t_least q_t_greatest t_newSite t_newCondition t_newActions t_size t_place t_pos t_at t_operators t_recorded t_lost t_dropped t_firings t_time t_thread t_thrown t_failed t_keys t_key ()) (w_Mo_find K q_t q_t_text q_t_code q_t_site q_t_condition q_t_actions q_t_kind q_t_target q_t_first q_t_second q_t_failures q_t_met q_t_there q_t_on q_t_compared q_t_globals q_t_own q_t_records q_t_pile q_t_handed q_t_keys q_t_key q_t_count q_t_bins q_t_operator q_t_starts q_t_sum q_t_least q_t_greatest t_newSite t_newCondition t_newActions t_size t_place t_pos t_at t_operators t_recorded t_lost t_dropped t_firings t_time t_thread t_thrown t_failed t_keys t_key) (fun r u => s_Mo_find t_keys t_key x1 x2 = r) 0 0 := cw_Mo_find l D K q_t q_t_text q_t_code q_t_site q_t_condition q_t_actions q_t_kind q_t_target q_t_first q_t_second q_t_failures q_t_met q_t_there q_t_on q_t_compared q_t_globals q_t_own q_t_records q_t_pile q_t_handed q_t_keys q_t_key q_t_count q_t_bins q_t_operator q_t_starts q_t_sum q_t_least q_t_greatest t_newSite t_newCondition t_newActions t_size t_place t_pos t_at t_operators t_recorded t_lost t_dropped t_firings t_time t_thread t_thrown t_failed t_keys t_key x1 x2 (v_Mo_find t_keys t_key x1 x2 hp)
-- RuleTracerModel.gather(IID)V: reads ['t.dropped', 't.failed', 't.keys', 't.key', 't.sum', 't.least', 't.greatest', 't.count', 't.bins'], changes ['t.dropped', 't.failed', 't.keys', 't.key', 't.sum', 't.least', 't.greatest', 't.count', 't.bins']
abbrev w_Mo_gather (K : Nat → ClassId) (q_t : Nat) (q_t_text : Nat) (q_t_code : Nat) (q_t_site : Nat) (q_t_condition : Nat) (q_t_actions : Nat) (q_t_kind : Nat) (q_t_target : Nat) (q_t_first : Nat) (q_t_second : Nat) (q_t_failures : Nat) (q_t_met : Nat) (q_t_there : Nat) (q_t_on : Nat) (q_t_compared : Nat) (q_t_globals : Nat) (q_t_own : Nat) (q_t_records : Nat) (q_t_pile : Nat) (q_t_handed : Nat) (q_t_keys : Nat) (q_t_key : Nat) (q_t_count : Nat) (q_t_bins : Nat) (q_t_operator : Nat) (q_t_starts : Nat) (q_t_sum : Nat) (q_t_least : Nat) (q_t_greatest : Nat) (t_newSite : Int32) (t_newCondition : Int32) (t_newActions : Int32) (t_size : Int32) (t_place : Int32) (t_pos : Int32) (t_at : Int32) (t_operators : Int32) (t_recorded : Int32) (t_lost : Int32) (t_firings : Int32) (t_time : Int32) (t_thread : Int32) (t_thrown : Int32) (u : Int32 × Int32 × (Nat → Int32) × (Nat → Int32) × (Nat → UInt64) × (Nat → UInt64) × (Nat → UInt64) × (Nat → Int32) × (Nat → Int32)) : va_W := [zo 6 q_t [.ref q_t_text, .ref q_t_code, .ref q_t_site, .ref q_t_condition, .ref q_t_actions, .ref q_t_kind, .ref q_t_target, .ref q_t_first, .ref q_t_second, .ref q_t_failures, .ref q_t_met, .ref q_t_there, .ref q_t_on, .ref q_t_compared, .ref q_t_globals, .ref q_t_own, .ref q_t_records, .ref q_t_pile, .ref q_t_handed, .ref q_t_keys, .ref q_t_key, .ref q_t_count, .ref q_t_bins, .ref q_t_operator, .ref q_t_starts, .ref q_t_sum, .ref q_t_least, .ref q_t_greatest, .int t_newSite, .int t_newCondition, .int t_newActions, .int t_size, .int t_place, .int t_pos, .int t_at, .int t_operators, .int t_recorded, .int t_lost, .int u.1, .int t_firings, .int t_time, .int t_thread, .int t_thrown, .int u.2.1], zaI K q_t_keys 3 u.2.2.1, zaI K q_t_key 12 u.2.2.2.1, zaD K q_t_sum 12 u.2.2.2.2.1, zaD K q_t_least 12 u.2.2.2.2.2.1, zaD K q_t_greatest 12 u.2.2.2.2.2.2.1, zaI K q_t_count 12 u.2.2.2.2.2.2.2.1, zaI K q_t_bins 96 u.2.2.2.2.2.2.2.2]
abbrev rm_Mo_gather : Room := { frames := 1, cells := 0, slots := 0, locals := 24 }
abbrev wy_Mo_gather : List Cond := .code y_Mo_gather b_Mo_gather 9 none :: zWT
def WP_Mo_gather (t_dropped : Int32) (t_failed : Int32) (t_keys : Nat → Int32) (t_key : Nat → Int32) (t_sum : Nat → UInt64) (t_least : Nat → UInt64) (t_greatest : Nat → UInt64) (t_count : Nat → Int32) (t_bins : Nat → Int32) (x1 : Int32) (x2 : Int32) (x3 : UInt64) (Q : (Int32 × Int32 × (Nat → Int32) × (Nat → Int32) × (Nat → UInt64) × (Nat → UInt64) × (Nat → UInt64) × (Nat → Int32) × (Nat → Int32)) → Prop) : Prop := p_Mo_find t_keys t_key x1 x2 ∧ (∀ (r1 : Int32), s_Mo_find t_keys t_key x1 x2 = r1 → ((0 ≤ r1) → vp_in r1 12 ∧ vf_n64 (FP.dadd (t_sum r1.toNatClampNeg) x3) ∧ ((0 < (Op.cmpValue (FP.dcmp (FP.dadd (t_sum r1.toNatClampNeg) x3) (4741671816366391296 : UInt64)) .l)) → Q (t_dropped, (1 : Int32), t_keys, t_key, t_sum, t_least, t_greatest, t_count, t_bins)) ∧ ((¬ 0 < (Op.cmpValue (FP.dcmp (FP.dadd (t_sum r1.toNatClampNeg) x3) (4741671816366391296 : UInt64)) .l)) → ((0 ≤ (Op.cmpValue (FP.dcmp (FP.dadd (t_sum r1.toNatClampNeg) x3) (13965043853221167104 : UInt64)) .g)) → vp_in r1 12 ∧ vp_in r1 12 ∧ ((0 ≤ (Op.cmpValue (FP.dcmp x3 (t_least r1.toNatClampNeg)) .g)) → vp_in r1 12 ∧ (((Op.cmpValue (FP.dcmp x3 (t_greatest r1.toNatClampNeg)) .l) ≤ 0) → vp_in r1 12 ∧ vp_in r1 12 ∧ p_Mo_binOf x3 ∧ (∀ (r28 : Int32), s_Mo_binOf x3 = r28 → vp_in ((r1 * (8 : Int32)) + r28) 96 ∧ vp_in ((r1 * (8 : Int32)) + r28) 96 ∧ Q (t_dropped, t_failed, t_keys, t_key, vf_upd t_sum r1.toNatClampNeg (FP.dadd (t_sum r1.toNatClampNeg) x3), t_least, t_greatest, upd t_count r1.toNatClampNeg ((t_count r1.toNatClampNeg) + (1 : Int32)), upd t_bins ((r1 * (8 : Int32)) + r28).toNatClampNeg ((t_bins ((r1 * (8 : Int32)) + r28).toNatClampNeg) + (1 : Int32))))) ∧ ((¬ (Op.cmpValue (FP.dcmp x3 (t_greatest r1.toNatClampNeg)) .l) ≤ 0) → vp_in r1 12 ∧ vp_in r1 12 ∧ vp_in r1 12 ∧ p_Mo_binOf x3 ∧ (∀ (r37 : Int32), s_Mo_binOf x3 = r37 → vp_in ((r1 * (8 : Int32)) + r37) 96 ∧ vp_in ((r1 * (8 : Int32)) + r37) 96 ∧ Q (t_dropped, t_failed, t_keys, t_key, vf_upd t_sum r1.toNatClampNeg (FP.dadd (t_sum r1.toNatClampNeg) x3), t_least, vf_upd t_greatest r1.toNatClampNeg x3, upd t_count r1.toNatClampNeg ((t_count r1.toNatClampNeg) + (1 : Int32)), upd t_bins ((r1 * (8 : Int32)) + r37).toNatClampNeg ((t_bins ((r1 * (8 : Int32)) + r37).toNatClampNeg) + (1 : Int32)))))) ∧ ((¬ 0 ≤ (Op.cmpValue (FP.dcmp x3 (t_least r1.toNatClampNeg)) .g)) → vp_in r1 12 ∧ vp_in r1 12 ∧ (((Op.cmpValue (FP.dcmp x3 (t_greatest r1.toNatClampNeg)) .l) ≤ 0) → vp_in r1 12 ∧ vp_in r1 12 ∧ p_Mo_binOf x3 ∧ (∀ (r50 : Int32), s_Mo_binOf x3 = r50 → vp_in ((r1 * (8 : Int32)) + r50) 96 ∧ vp_in ((r1 * (8 : Int32)) + r50) 96 ∧ Q (t_dropped, t_failed, t_keys, t_key, vf_upd t_sum r1.toNatClampNeg (FP.dadd (t_sum r1.toNatClampNeg) x3), vf_upd t_least r1.toNatClampNeg x3, t_greatest, upd t_count r1.toNatClampNeg ((t_count r1.toNatClampNeg) + (1 : Int32)), upd t_bins ((r1 * (8 : Int32)) + r50).toNatClampNeg ((t_bins ((r1 * (8 : Int32)) + r50).toNatClampNeg) + (1 : Int32))))) ∧ ((¬ (Op.cmpValue (FP.dcmp x3 (t_greatest r1.toNatClampNeg)) .l) ≤ 0) → vp_in r1 12 ∧ vp_in r1 12 ∧ vp_in r1 12 ∧ p_Mo_binOf x3 ∧ (∀ (r59 : Int32), s_Mo_binOf x3 = r59 → vp_in ((r1 * (8 : Int32)) + r59) 96 ∧ vp_in ((r1 * (8 : Int32)) + r59) 96 ∧ Q (t_dropped, t_failed, t_keys, t_key, vf_upd t_sum r1.toNatClampNeg (FP.dadd (t_sum r1.toNatClampNeg) x3), vf_upd t_least r1.toNatClampNeg x3, vf_upd t_greatest r1.toNatClampNeg x3, upd t_count r1.toNatClampNeg ((t_count r1.toNatClampNeg) + (1 : Int32)), upd t_bins ((r1 * (8 : Int32)) + r59).toNatClampNeg ((t_bins ((r1 * (8 : Int32)) + r59).toNatClampNeg) + (1 : Int32))))))) ∧ ((¬ 0 ≤ (Op.cmpValue (FP.dcmp (FP.dadd (t_sum r1.toNatClampNeg) x3) (13965043853221167104 : UInt64)) .g)) → Q (t_dropped, (1 : Int32), t_keys, t_key, t_sum, t_least, t_greatest, t_count, t_bins)))) ∧ ((¬ 0 ≤ r1) → vp_in x1 3 ∧ ((¬ (t_keys x1.toNatClampNeg) = (4 : Int32)) → vp_in x1 3 ∧ vf_n64 (FP.dadd FP.dconst0 x3) ∧ ((0 < (Op.cmpValue (FP.dcmp (FP.dadd FP.dconst0 x3) (4741671816366391296 : UInt64)) .l)) → Q (t_dropped, (1 : Int32), t_keys, t_key, t_sum, t_least, t_greatest, t_count, t_bins)) ∧ ((¬ 0 < (Op.cmpValue (FP.dcmp (FP.dadd FP.dconst0 x3) (4741671816366391296 : UInt64)) .l)) → ((0 ≤ (Op.cmpValue (FP.dcmp (FP.dadd FP.dconst0 x3) (13965043853221167104 : UInt64)) .g)) → vp_in x1 3 ∧ vp_in x1 3 ∧ vp_in ((x1 * (4 : Int32)) + (t_keys x1.toNatClampNeg)) 12 ∧ vp_in ((x1 * (4 : Int32)) + (t_keys x1.toNatClampNeg)) 12 ∧ vp_in ((x1 * (4 : Int32)) + (t_keys x1.toNatClampNeg)) 12 ∧ vp_in ((x1 * (4 : Int32)) + (t_keys x1.toNatClampNeg)) 12 ∧ vp_in ((x1 * (4 : Int32)) + (t_keys x1.toNatClampNeg)) 12 ∧ vp_in ((x1 * (4 : Int32)) + (t_keys x1.toNatClampNeg)) 12 ∧ p_Mo_binOf x3 ∧ (∀ (r88 : Int32), s_Mo_binOf x3 = r88 → vp_in ((((x1 * (4 : Int32)) + (t_keys x1.toNatClampNeg)) * (8 : Int32)) + r88) 96 ∧ vp_in ((((x1 * (4 : Int32)) + (t_keys x1.toNatClampNeg)) * (8 : Int32)) + r88) 96 ∧ Q (t_dropped, t_failed, upd t_keys x1.toNatClampNeg ((t_keys x1.toNatClampNeg) + (1 : Int32)), upd t_key ((x1 * (4 : Int32)) + (t_keys x1.toNatClampNeg)).toNatClampNeg x2, vf_upd t_sum ((x1 * (4 : Int32)) + (t_keys x1.toNatClampNeg)).toNatClampNeg (FP.dadd FP.dconst0 x3), vf_upd t_least ((x1 * (4 : Int32)) + (t_keys x1.toNatClampNeg)).toNatClampNeg x3, vf_upd t_greatest ((x1 * (4 : Int32)) + (t_keys x1.toNatClampNeg)).toNatClampNeg x3, upd t_count ((x1 * (4 : Int32)) + (t_keys x1.toNatClampNeg)).toNatClampNeg ((t_count ((x1 * (4 : Int32)) + (t_keys x1.toNatClampNeg)).toNatClampNeg) + (1 : Int32)), upd t_bins ((((x1 * (4 : Int32)) + (t_keys x1.toNatClampNeg)) * (8 : Int32)) + r88).toNatClampNeg ((t_bins ((((x1 * (4 : Int32)) + (t_keys x1.toNatClampNeg)) * (8 : Int32)) + r88).toNatClampNeg) + (1 : Int32))))) ∧ ((¬ 0 ≤ (Op.cmpValue (FP.dcmp (FP.dadd FP.dconst0 x3) (13965043853221167104 : UInt64)) .g)) → Q (t_dropped, (1 : Int32), t_keys, t_key, t_sum, t_least, t_greatest, t_count, t_bins)))) ∧ (((t_keys x1.toNatClampNeg) = (4 : Int32)) → Q (t_dropped + (1 : Int32), t_failed, t_keys, t_key, t_sum, t_least, t_greatest, t_count, t_bins))))
set_option maxHeartbeats 4000000 in
set_option maxRecDepth 100000 in
theorem cw_Mo_gather (l : Launch) (D : va_G) (K : Nat → ClassId) (q_t : Nat) (q_t_text : Nat) (q_t_code : Nat) (q_t_site : Nat) (q_t_condition : Nat) (q_t_actions : Nat) (q_t_kind : Nat) (q_t_target : Nat) (q_t_first : Nat) (q_t_second : Nat) (q_t_failures : Nat) (q_t_met : Nat) (q_t_there : Nat) (q_t_on : Nat) (q_t_compared : Nat) (q_t_globals : Nat) (q_t_own : Nat) (q_t_records : Nat) (q_t_pile : Nat) (q_t_handed : Nat) (q_t_keys : Nat) (q_t_key : Nat) (q_t_count : Nat) (q_t_bins : Nat) (q_t_operator : Nat) (q_t_starts : Nat) (q_t_sum : Nat) (q_t_least : Nat) (q_t_greatest : Nat) (t_newSite : Int32) (t_newCondition : Int32) (t_newActions : Int32) (t_size : Int32) (t_place : Int32) (t_pos : Int32) (t_at : Int32) (t_operators : Int32) (t_recorded : Int32) (t_lost : Int32) (t_dropped : Int32) (t_firings : Int32) (t_time : Int32) (t_thread : Int32) (t_thrown : Int32) (t_failed : Int32) (t_keys : Nat → Int32) (t_key : Nat → Int32) (t_sum : Nat → UInt64) (t_least : Nat → UInt64) (t_greatest : Nat → UInt64) (t_count : Nat → Int32) (t_bins : Nat → Int32) (x1 : Int32) (x2 : Int32) (x3 : UInt64) {Q : (Int32 × Int32 × (Nat → Int32) × (Nat → Int32) × (Nat → UInt64) × (Nat → UInt64) × (Nat → UInt64) × (Nat → Int32) × (Nat → Int32)) → Prop} (hS0 : WP_Mo_gather t_dropped t_failed t_keys t_key t_sum t_least t_greatest t_count t_bins x1 x2 x3 Q) : zCv l y_Mo_gather wy_Mo_gather rm_Mo_gather D zcl (zT K) [.ref q_t, .int x1, .int x2, .double x3] (w_Mo_gather K q_t q_t_text q_t_code q_t_site q_t_condition q_t_actions q_t_kind q_t_target q_t_first q_t_second q_t_failures q_t_met q_t_there q_t_on q_t_compared q_t_globals q_t_own q_t_records q_t_pile q_t_handed q_t_keys q_t_key q_t_count q_t_bins q_t_operator q_t_starts q_t_sum q_t_least q_t_greatest t_newSite t_newCondition t_newActions t_size t_place t_pos t_at t_operators t_recorded t_lost t_firings t_time t_thread t_thrown (t_dropped, t_failed, t_keys, t_key, t_sum, t_least, t_greatest, t_count, t_bins)) (w_Mo_gather K q_t q_t_text q_t_code q_t_site q_t_condition q_t_actions q_t_kind q_t_target q_t_first q_t_second q_t_failures q_t_met q_t_there q_t_on q_t_compared q_t_globals q_t_own q_t_records q_t_pile q_t_handed q_t_keys q_t_key q_t_count q_t_bins q_t_operator q_t_starts q_t_sum q_t_least q_t_greatest t_newSite t_newCondition t_newActions t_size t_place t_pos t_at t_operators t_recorded t_lost t_firings t_time t_thread t_thrown) Q 0 0 := by
  refine z_metv (cc := b_Mo_gather) (maxL := 9) (ret := none) (by decide) rfl (Nat.le_of_ble_eq_true rfl) ?_
  intro p e s m args below meth c A C hr hlk hnm
  refine z_lpick (lv' := [(0, .ref q_t), (1, .int x1), (2, .int x2), (3, .double x3)]) [0, 1, 2, 3] rfl ?_
  refine z_weq (ws' := [zo 6 q_t [.ref q_t_text, .ref q_t_code, .ref q_t_site, .ref q_t_condition, .ref q_t_actions, .ref q_t_kind, .ref q_t_target, .ref q_t_first, .ref q_t_second, .ref q_t_failures, .ref q_t_met, .ref q_t_there, .ref q_t_on, .ref q_t_compared, .ref q_t_globals, .ref q_t_own, .ref q_t_records, .ref q_t_pile, .ref q_t_handed, .ref q_t_keys, .ref q_t_key, .ref q_t_count, .ref q_t_bins, .ref q_t_operator, .ref q_t_starts, .ref q_t_sum, .ref q_t_least, .ref q_t_greatest, .int t_newSite, .int t_newCondition, .int t_newActions, .int t_size, .int t_place, .int t_pos, .int t_at, .int t_operators, .int t_recorded, .int t_lost, .int t_dropped, .int t_firings, .int t_time, .int t_thread, .int t_thrown, .int t_failed], zaI K q_t_keys 3 t_keys, zaI K q_t_key 12 t_key, zaD K q_t_sum 12 t_sum, zaD K q_t_least 12 t_least, zaD K q_t_greatest 12 t_greatest, zaI K q_t_count 12 t_count, zaI K q_t_bins 96 t_bins]) rfl ?_
  refine z_aload_n C d_Mo_gather_0 rfl 0 rfl ?_
  refine z_iload_n C d_Mo_gather_1 rfl 1 rfl ?_
  refine z_iload_n C d_Mo_gather_2 rfl 2 rfl ?_
  refine z_callVi (As := [.int x1, .int x2]) (b := q_t) (st := []) (wr := [zaD K q_t_sum 12 t_sum, zaD K q_t_least 12 t_least, zaD K q_t_greatest 12 t_greatest, zaI K q_t_count 12 t_count, zaI K q_t_bins 96 t_bins]) (wj := fun u => [zo 6 q_t [.ref q_t_text, .ref q_t_code, .ref q_t_site, .ref q_t_condition, .ref q_t_actions, .ref q_t_kind, .ref q_t_target, .ref q_t_first, .ref q_t_second, .ref q_t_failures, .ref q_t_met, .ref q_t_there, .ref q_t_on, .ref q_t_compared, .ref q_t_globals, .ref q_t_own, .ref q_t_records, .ref q_t_pile, .ref q_t_handed, .ref q_t_keys, .ref q_t_key, .ref q_t_count, .ref q_t_bins, .ref q_t_operator, .ref q_t_starts, .ref q_t_sum, .ref q_t_least, .ref q_t_greatest, .int t_newSite, .int t_newCondition, .int t_newActions, .int t_size, .int t_place, .int t_pos, .int t_at, .int t_operators, .int t_recorded, .int t_lost, .int t_dropped, .int t_firings, .int t_time, .int t_thread, .int t_thrown, .int t_failed], zaI K q_t_keys 3 t_keys, zaI K q_t_key 12 t_key, zaD K q_t_sum 12 t_sum, zaD K q_t_least 12 t_least, zaD K q_t_greatest 12 t_greatest, zaI K q_t_count 12 t_count, zaI K q_t_bins 96 t_bins]) C 0 rfl rfl (c_Mo_find l D K q_t q_t_text q_t_code q_t_site q_t_condition q_t_actions q_t_kind q_t_target q_t_first q_t_second q_t_failures q_t_met q_t_there q_t_on q_t_compared q_t_globals q_t_own q_t_records q_t_pile q_t_handed q_t_keys q_t_key q_t_count q_t_bins q_t_operator q_t_starts q_t_sum q_t_least q_t_greatest t_newSite t_newCondition t_newActions t_size t_place t_pos t_at t_operators t_recorded t_lost t_dropped t_firings t_time t_thread t_thrown t_failed t_keys t_key x1 x2 hS0.1) (cwV 2 C.2.2.2.2.1 (z_gV wl_Mo_191 wi_Mo_find wv_Mo_find wz_Mo wk_Mo_find) rfl rfl rfl (by decide +kernel) ⟨Nat.le_of_ble_eq_true rfl, Nat.le_of_ble_eq_true rfl⟩) [0, 1, 2] [3, 4, 5, 6, 7] [5, 6, 7, 0, 1, 2, 3, 4] rfl rfl rfl rfl (by decide) (fun _ => rfl) rfl rfl rfl (Nat.le_of_ble_eq_true rfl) d_Mo_gather_3 ⟨Nat.le_of_ble_eq_true rfl, Nat.le_of_ble_eq_true rfl⟩ (fun r1 u2 e3 => ?_)
  have hS4 := hS0.2 r1 e3
  refine z_istore (lv' := [(5, .int r1), (0, .ref q_t), (1, .int x1), (2, .int x2), (3, .double x3)]) C d_Mo_gather_6 (by decide) rfl ?_
  refine z_iload C d_Mo_gather_8 0 rfl ?_
  refine z_if_ge (tgt := 34) C d_Mo_gather_10 (by decide) (fun c5 => ?_) (fun c5 => ?_)
  · have hS6 := hS4.1 c5
    refine z_iload C d_Mo_gather_34 0 rfl ?_
    refine z_if_ge (tgt := 43) C d_Mo_gather_36 (by decide) (fun c7 => ?_) (fun c7 => absurd c5 c7)
    refine z_iconst (v := (0 : Int32)) C d_Mo_gather_43 (by decide) ?_
    refine z_istore (lv' := [(6, .int (0 : Int32)), (5, .int r1), (0, .ref q_t), (1, .int x1), (2, .int x2), (3, .double x3)]) C d_Mo_gather_44 (by decide) rfl ?_
    refine z_iload C d_Mo_gather_46 0 rfl ?_
    refine z_if_eq (tgt := 63) C d_Mo_gather_48 (by decide) (fun c8 => ?_) (fun c8 => absurd c8 (by decide))
    refine z_iload C d_Mo_gather_63 0 rfl ?_
    refine z_if_eq (tgt := 74) C d_Mo_gather_65 (by decide) (fun c9 => ?_) (fun c9 => absurd c9 (by decide))
    refine z_aload_n C d_Mo_gather_74 rfl 2 rfl ?_
    refine z_get C 0 rfl rfl in_Mo 25 (by decide) rfl wf_Mo_87 rfl d_Mo_gather_75 ?_
    refine z_iload C d_Mo_gather_78 1 rfl ?_
    refine z_dald C 3 1 rfl rfl hS6.1 d_Mo_gather_80 ?_
    have hS10 := hS6.2
    refine z_dload_n C d_Mo_gather_81 rfl 5 rfl ?_
    refine z_dadd C d_Mo_gather_82 hS10.1 ?_
    have hS11 := hS10.2
    refine z_dstore (lv' := [(7, .double (FP.dadd (t_sum r1.toNatClampNeg) x3)), (6, .int (0 : Int32)), (5, .int r1), (0, .ref q_t), (1, .int x1), (2, .int x2), (3, .double x3)]) C d_Mo_gather_83 (by decide) rfl ?_
    refine z_dload C d_Mo_gather_85 0 rfl ?_
    refine z_ldc2d C d_Mo_gather_87 wd_Mo_177 ?_
    refine z_dcmp C d_Mo_gather_90 ?_
    refine z_if_gt (tgt := 103) C d_Mo_gather_91 (by decide) (fun c12 => ?_) (fun c12 => ?_)
    · have hS13 := hS11.1 c12
      refine z_aload_n C d_Mo_gather_103 rfl 3 rfl ?_
      refine z_iconst (v := (1 : Int32)) C d_Mo_gather_104 (by decide) ?_
      refine z_put (ty := .boolean) (ws' := [zo 6 q_t [.ref q_t_text, .ref q_t_code, .ref q_t_site, .ref q_t_condition, .ref q_t_actions, .ref q_t_kind, .ref q_t_target, .ref q_t_first, .ref q_t_second, .ref q_t_failures, .ref q_t_met, .ref q_t_there, .ref q_t_on, .ref q_t_compared, .ref q_t_globals, .ref q_t_own, .ref q_t_records, .ref q_t_pile, .ref q_t_handed, .ref q_t_keys, .ref q_t_key, .ref q_t_count, .ref q_t_bins, .ref q_t_operator, .ref q_t_starts, .ref q_t_sum, .ref q_t_least, .ref q_t_greatest, .int t_newSite, .int t_newCondition, .int t_newActions, .int t_size, .int t_place, .int t_pos, .int t_at, .int t_operators, .int t_recorded, .int t_lost, .int t_dropped, .int t_firings, .int t_time, .int t_thread, .int t_thrown, .int (1 : Int32)], zaI K q_t_keys 3 t_keys, zaI K q_t_key 12 t_key, zaD K q_t_sum 12 t_sum, zaD K q_t_least 12 t_least, zaD K q_t_greatest 12 t_greatest, zaI K q_t_count 12 t_count, zaI K q_t_bins 96 t_bins]) C ty_Mo to_Mo nm_Mo 0 rfl rfl in_Mo 43 (by decide) rfl wf_Mo_173 rfl rfl rfl rfl (Nat.le_of_ble_eq_true rfl) rfl d_Mo_gather_105 ?_
      exact z_vret C hr hlk (t_dropped, (1 : Int32), t_keys, t_key, t_sum, t_least, t_greatest, t_count, t_bins) rfl hS13 d_Mo_gather_108
    · have hS13 := hS11.2 c12
      refine z_dload C d_Mo_gather_94 0 rfl ?_
      refine z_ldc2d C d_Mo_gather_96 wd_Mo_179 ?_
      refine z_dcmp C d_Mo_gather_99 ?_
      refine z_if_ge (tgt := 109) C d_Mo_gather_100 (by decide) (fun c14 => ?_) (fun c14 => ?_)
      · have hS15 := hS13.1 c14
        refine z_iload C d_Mo_gather_109 1 rfl ?_
        refine z_if_eq (tgt := 132) C d_Mo_gather_111 (by decide) (fun c16 => ?_) (fun c16 => absurd c16 (by decide))
        refine z_aload_n C d_Mo_gather_132 rfl 3 rfl ?_
        refine z_get C 0 rfl rfl in_Mo 25 (by decide) rfl wf_Mo_87 rfl d_Mo_gather_133 ?_
        refine z_iload C d_Mo_gather_136 2 rfl ?_
        refine z_dload C d_Mo_gather_138 0 rfl ?_
        refine z_dast (ws' := [zo 6 q_t [.ref q_t_text, .ref q_t_code, .ref q_t_site, .ref q_t_condition, .ref q_t_actions, .ref q_t_kind, .ref q_t_target, .ref q_t_first, .ref q_t_second, .ref q_t_failures, .ref q_t_met, .ref q_t_there, .ref q_t_on, .ref q_t_compared, .ref q_t_globals, .ref q_t_own, .ref q_t_records, .ref q_t_pile, .ref q_t_handed, .ref q_t_keys, .ref q_t_key, .ref q_t_count, .ref q_t_bins, .ref q_t_operator, .ref q_t_starts, .ref q_t_sum, .ref q_t_least, .ref q_t_greatest, .int t_newSite, .int t_newCondition, .int t_newActions, .int t_size, .int t_place, .int t_pos, .int t_at, .int t_operators, .int t_recorded, .int t_lost, .int t_dropped, .int t_firings, .int t_time, .int t_thread, .int t_thrown, .int t_failed], zaI K q_t_keys 3 t_keys, zaI K q_t_key 12 t_key, zaD K q_t_sum 12 (vf_upd t_sum r1.toNatClampNeg (FP.dadd (t_sum r1.toNatClampNeg) x3)), zaD K q_t_least 12 t_least, zaD K q_t_greatest 12 t_greatest, zaI K q_t_count 12 t_count, zaI K q_t_bins 96 t_bins]) C 3 1 rfl rfl hS15.1 rfl d_Mo_gather_140 ?_
        have hS17 := hS15.2
        refine z_iload C d_Mo_gather_141 1 rfl ?_
        refine z_if_ne (tgt := 158) C d_Mo_gather_143 (by decide) (fun c18 => absurd c18 (by decide)) (fun c18 => ?_)
        refine z_dload_n C d_Mo_gather_146 rfl 6 rfl ?_
        refine z_aload_n C d_Mo_gather_147 rfl 3 rfl ?_
        refine z_get C 0 rfl rfl in_Mo 26 (by decide) rfl wf_Mo_90 rfl d_Mo_gather_148 ?_
        refine z_iload C d_Mo_gather_151 2 rfl ?_
        refine z_dald C 4 1 rfl rfl hS17.1 d_Mo_gather_153 ?_
        have hS19 := hS17.2
        refine z_dcmp C d_Mo_gather_154 ?_
        refine z_if_ge (tgt := 166) C d_Mo_gather_155 (by decide) (fun c20 => ?_) (fun c20 => ?_)
        · have hS21 := hS19.1 c20
          refine z_iload C d_Mo_gather_166 1 rfl ?_
          refine z_if_ne (tgt := 183) C d_Mo_gather_168 (by decide) (fun c22 => absurd c22 (by decide)) (fun c22 => ?_)
          refine z_dload_n C d_Mo_gather_171 rfl 6 rfl ?_
          refine z_aload_n C d_Mo_gather_172 rfl 3 rfl ?_
          refine z_get C 0 rfl rfl in_Mo 27 (by decide) rfl wf_Mo_93 rfl d_Mo_gather_173 ?_
          refine z_iload C d_Mo_gather_176 2 rfl ?_
          refine z_dald C 5 1 rfl rfl hS21.1 d_Mo_gather_178 ?_
          have hS23 := hS21.2
          refine z_dcmp C d_Mo_gather_179 ?_
          refine z_if_le (tgt := 191) C d_Mo_gather_180 (by decide) (fun c24 => ?_) (fun c24 => ?_)
          · have hS25 := hS23.1 c24
            refine z_aload_n C d_Mo_gather_191 rfl 3 rfl ?_
            refine z_get C 0 rfl rfl in_Mo 21 (by decide) rfl wf_Mo_75 rfl d_Mo_gather_192 ?_
            refine z_iload C d_Mo_gather_195 2 rfl ?_
            refine z_dup2_11 C d_Mo_gather_197 rfl rfl ?_
            refine z_iald C 6 0 rfl rfl hS25.1 d_Mo_gather_198 ?_
            have hS26 := hS25.2
            refine z_iconst (v := (1 : Int32)) C d_Mo_gather_199 (by decide) ?_
            refine z_iadd C d_Mo_gather_200 ?_
            refine z_iast (ws' := [zo 6 q_t [.ref q_t_text, .ref q_t_code, .ref q_t_site, .ref q_t_condition, .ref q_t_actions, .ref q_t_kind, .ref q_t_target, .ref q_t_first, .ref q_t_second, .ref q_t_failures, .ref q_t_met, .ref q_t_there, .ref q_t_on, .ref q_t_compared, .ref q_t_globals, .ref q_t_own, .ref q_t_records, .ref q_t_pile, .ref q_t_handed, .ref q_t_keys, .ref q_t_key, .ref q_t_count, .ref q_t_bins, .ref q_t_operator, .ref q_t_starts, .ref q_t_sum, .ref q_t_least, .ref q_t_greatest, .int t_newSite, .int t_newCondition, .int t_newActions, .int t_size, .int t_place, .int t_pos, .int t_at, .int t_operators, .int t_recorded, .int t_lost, .int t_dropped, .int t_firings, .int t_time, .int t_thread, .int t_thrown, .int t_failed], zaI K q_t_keys 3 t_keys, zaI K q_t_key 12 t_key, zaD K q_t_sum 12 (vf_upd t_sum r1.toNatClampNeg (FP.dadd (t_sum r1.toNatClampNeg) x3)), zaD K q_t_least 12 t_least, zaD K q_t_greatest 12 t_greatest, zaI K q_t_count 12 (upd t_count r1.toNatClampNeg ((t_count r1.toNatClampNeg) + (1 : Int32))), zaI K q_t_bins 96 t_bins]) C 6 0 rfl rfl hS26.1 rfl d_Mo_gather_201 ?_
            have hS27 := hS26.2
            refine z_aload_n C d_Mo_gather_202 rfl 3 rfl ?_
            refine z_get C 0 rfl rfl in_Mo 22 (by decide) rfl wf_Mo_78 rfl d_Mo_gather_203 ?_
            refine z_iload C d_Mo_gather_206 2 rfl ?_
            refine z_bipush (v := (8 : Int32)) C d_Mo_gather_208 (by decide) ?_
            refine z_imul C d_Mo_gather_210 ?_
            refine z_dload_n C d_Mo_gather_211 rfl 6 rfl ?_
            refine z_callSi (As := [.double x3]) (st := [.int (r1 * (8 : Int32)), .ref q_t_bins]) (wr := [zo 6 q_t [.ref q_t_text, .ref q_t_code, .ref q_t_site, .ref q_t_condition, .ref q_t_actions, .ref q_t_kind, .ref q_t_target, .ref q_t_first, .ref q_t_second, .ref q_t_failures, .ref q_t_met, .ref q_t_there, .ref q_t_on, .ref q_t_compared, .ref q_t_globals, .ref q_t_own, .ref q_t_records, .ref q_t_pile, .ref q_t_handed, .ref q_t_keys, .ref q_t_key, .ref q_t_count, .ref q_t_bins, .ref q_t_operator, .ref q_t_starts, .ref q_t_sum, .ref q_t_least, .ref q_t_greatest, .int t_newSite, .int t_newCondition, .int t_newActions, .int t_size, .int t_place, .int t_pos, .int t_at, .int t_operators, .int t_recorded, .int t_lost, .int t_dropped, .int t_firings, .int t_time, .int t_thread, .int t_thrown, .int t_failed], zaI K q_t_keys 3 t_keys, zaI K q_t_key 12 t_key, zaD K q_t_sum 12 (vf_upd t_sum r1.toNatClampNeg (FP.dadd (t_sum r1.toNatClampNeg) x3)), zaD K q_t_least 12 t_least, zaD K q_t_greatest 12 t_greatest, zaI K q_t_count 12 (upd t_count r1.toNatClampNeg ((t_count r1.toNatClampNeg) + (1 : Int32))), zaI K q_t_bins 96 t_bins]) (wj := fun u => [zo 6 q_t [.ref q_t_text, .ref q_t_code, .ref q_t_site, .ref q_t_condition, .ref q_t_actions, .ref q_t_kind, .ref q_t_target, .ref q_t_first, .ref q_t_second, .ref q_t_failures, .ref q_t_met, .ref q_t_there, .ref q_t_on, .ref q_t_compared, .ref q_t_globals, .ref q_t_own, .ref q_t_records, .ref q_t_pile, .ref q_t_handed, .ref q_t_keys, .ref q_t_key, .ref q_t_count, .ref q_t_bins, .ref q_t_operator, .ref q_t_starts, .ref q_t_sum, .ref q_t_least, .ref q_t_greatest, .int t_newSite, .int t_newCondition, .int t_newActions, .int t_size, .int t_place, .int t_pos, .int t_at, .int t_operators, .int t_recorded, .int t_lost, .int t_dropped, .int t_firings, .int t_time, .int t_thread, .int t_thrown, .int t_failed], zaI K q_t_keys 3 t_keys, zaI K q_t_key 12 t_key, zaD K q_t_sum 12 (vf_upd t_sum r1.toNatClampNeg (FP.dadd (t_sum r1.toNatClampNeg) x3)), zaD K q_t_least 12 t_least, zaD K q_t_greatest 12 t_greatest, zaI K q_t_count 12 (upd t_count r1.toNatClampNeg ((t_count r1.toNatClampNeg) + (1 : Int32))), zaI K q_t_bins 96 t_bins]) C (c_Mo_binOf l D K x3 hS27.1) (cwS 1 C.2.2.2.2.1 (z_gS wl_Mo_198 ws_Mo_binOf wz_Mo wk_Mo_binOf) rfl rfl rfl (by decide +kernel) ⟨Nat.le_of_ble_eq_true rfl, Nat.le_of_ble_eq_true rfl⟩) [] [0, 1, 2, 3, 4, 5, 6, 7] [0, 1, 2, 3, 4, 5, 6, 7] rfl rfl rfl rfl (by decide) (fun _ => rfl) rfl rfl rfl (Nat.le_of_ble_eq_true rfl) d_Mo_gather_212 ⟨Nat.le_of_ble_eq_true rfl, Nat.le_of_ble_eq_true rfl⟩ (fun r28 u29 e30 => ?_)
            have hS31 := hS27.2 r28 e30
            refine z_iadd C d_Mo_gather_215 ?_
            refine z_dup2_11 C d_Mo_gather_216 rfl rfl ?_
            refine z_iald C 7 0 rfl rfl hS31.1 d_Mo_gather_217 ?_
            have hS32 := hS31.2
            refine z_iconst (v := (1 : Int32)) C d_Mo_gather_218 (by decide) ?_
            refine z_iadd C d_Mo_gather_219 ?_
            refine z_iast (ws' := [zo 6 q_t [.ref q_t_text, .ref q_t_code, .ref q_t_site, .ref q_t_condition, .ref q_t_actions, .ref q_t_kind, .ref q_t_target, .ref q_t_first, .ref q_t_second, .ref q_t_failures, .ref q_t_met, .ref q_t_there, .ref q_t_on, .ref q_t_compared, .ref q_t_globals, .ref q_t_own, .ref q_t_records, .ref q_t_pile, .ref q_t_handed, .ref q_t_keys, .ref q_t_key, .ref q_t_count, .ref q_t_bins, .ref q_t_operator, .ref q_t_starts, .ref q_t_sum, .ref q_t_least, .ref q_t_greatest, .int t_newSite, .int t_newCondition, .int t_newActions, .int t_size, .int t_place, .int t_pos, .int t_at, .int t_operators, .int t_recorded, .int t_lost, .int t_dropped, .int t_firings, .int t_time, .int t_thread, .int t_thrown, .int t_failed], zaI K q_t_keys 3 t_keys, zaI K q_t_key 12 t_key, zaD K q_t_sum 12 (vf_upd t_sum r1.toNatClampNeg (FP.dadd (t_sum r1.toNatClampNeg) x3)), zaD K q_t_least 12 t_least, zaD K q_t_greatest 12 t_greatest, zaI K q_t_count 12 (upd t_count r1.toNatClampNeg ((t_count r1.toNatClampNeg) + (1 : Int32))), zaI K q_t_bins 96 (upd t_bins ((r1 * (8 : Int32)) + r28).toNatClampNeg ((t_bins ((r1 * (8 : Int32)) + r28).toNatClampNeg) + (1 : Int32)))]) C 7 0 rfl rfl hS32.1 rfl d_Mo_gather_220 ?_
            have hS33 := hS32.2
            exact z_vret C hr hlk (t_dropped, t_failed, t_keys, t_key, vf_upd t_sum r1.toNatClampNeg (FP.dadd (t_sum r1.toNatClampNeg) x3), t_least, t_greatest, upd t_count r1.toNatClampNeg ((t_count r1.toNatClampNeg) + (1 : Int32)), upd t_bins ((r1 * (8 : Int32)) + r28).toNatClampNeg ((t_bins ((r1 * (8 : Int32)) + r28).toNatClampNeg) + (1 : Int32))) rfl hS33 d_Mo_gather_221
          · have hS25 := hS23.2 c24
            refine z_aload_n C d_Mo_gather_183 rfl 3 rfl ?_
            refine z_get C 0 rfl rfl in_Mo 27 (by decide) rfl wf_Mo_93 rfl d_Mo_gather_184 ?_
            refine z_iload C d_Mo_gather_187 2 rfl ?_
            refine z_dload_n C d_Mo_gather_189 rfl 6 rfl ?_
            refine z_dast (ws' := [zo 6 q_t [.ref q_t_text, .ref q_t_code, .ref q_t_site, .ref q_t_condition, .ref q_t_actions, .ref q_t_kind, .ref q_t_target, .ref q_t_first, .ref q_t_second, .ref q_t_failures, .ref q_t_met, .ref q_t_there, .ref q_t_on, .ref q_t_compared, .ref q_t_globals, .ref q_t_own, .ref q_t_records, .ref q_t_pile, .ref q_t_handed, .ref q_t_keys, .ref q_t_key, .ref q_t_count, .ref q_t_bins, .ref q_t_operator, .ref q_t_starts, .ref q_t_sum, .ref q_t_least, .ref q_t_greatest, .int t_newSite, .int t_newCondition, .int t_newActions, .int t_size, .int t_place, .int t_pos, .int t_at, .int t_operators, .int t_recorded, .int t_lost, .int t_dropped, .int t_firings, .int t_time, .int t_thread, .int t_thrown, .int t_failed], zaI K q_t_keys 3 t_keys, zaI K q_t_key 12 t_key, zaD K q_t_sum 12 (vf_upd t_sum r1.toNatClampNeg (FP.dadd (t_sum r1.toNatClampNeg) x3)), zaD K q_t_least 12 t_least, zaD K q_t_greatest 12 (vf_upd t_greatest r1.toNatClampNeg x3), zaI K q_t_count 12 t_count, zaI K q_t_bins 96 t_bins]) C 5 1 rfl rfl hS25.1 rfl d_Mo_gather_190 ?_
            have hS34 := hS25.2
            refine z_aload_n C d_Mo_gather_191 rfl 3 rfl ?_
            refine z_get C 0 rfl rfl in_Mo 21 (by decide) rfl wf_Mo_75 rfl d_Mo_gather_192 ?_
            refine z_iload C d_Mo_gather_195 2 rfl ?_
            refine z_dup2_11 C d_Mo_gather_197 rfl rfl ?_
            refine z_iald C 6 0 rfl rfl hS34.1 d_Mo_gather_198 ?_
            have hS35 := hS34.2
            refine z_iconst (v := (1 : Int32)) C d_Mo_gather_199 (by decide) ?_
            refine z_iadd C d_Mo_gather_200 ?_
            refine z_iast (ws' := [zo 6 q_t [.ref q_t_text, .ref q_t_code, .ref q_t_site, .ref q_t_condition, .ref q_t_actions, .ref q_t_kind, .ref q_t_target, .ref q_t_first, .ref q_t_second, .ref q_t_failures, .ref q_t_met, .ref q_t_there, .ref q_t_on, .ref q_t_compared, .ref q_t_globals, .ref q_t_own, .ref q_t_records, .ref q_t_pile, .ref q_t_handed, .ref q_t_keys, .ref q_t_key, .ref q_t_count, .ref q_t_bins, .ref q_t_operator, .ref q_t_starts, .ref q_t_sum, .ref q_t_least, .ref q_t_greatest, .int t_newSite, .int t_newCondition, .int t_newActions, .int t_size, .int t_place, .int t_pos, .int t_at, .int t_operators, .int t_recorded, .int t_lost, .int t_dropped, .int t_firings, .int t_time, .int t_thread, .int t_thrown, .int t_failed], zaI K q_t_keys 3 t_keys, zaI K q_t_key 12 t_key, zaD K q_t_sum 12 (vf_upd t_sum r1.toNatClampNeg (FP.dadd (t_sum r1.toNatClampNeg) x3)), zaD K q_t_least 12 t_least, zaD K q_t_greatest 12 (vf_upd t_greatest r1.toNatClampNeg x3), zaI K q_t_count 12 (upd t_count r1.toNatClampNeg ((t_count r1.toNatClampNeg) + (1 : Int32))), zaI K q_t_bins 96 t_bins]) C 6 0 rfl rfl hS35.1 rfl d_Mo_gather_201 ?_
            have hS36 := hS35.2
            refine z_aload_n C d_Mo_gather_202 rfl 3 rfl ?_
            refine z_get C 0 rfl rfl in_Mo 22 (by decide) rfl wf_Mo_78 rfl d_Mo_gather_203 ?_
            refine z_iload C d_Mo_gather_206 2 rfl ?_
            refine z_bipush (v := (8 : Int32)) C d_Mo_gather_208 (by decide) ?_
            refine z_imul C d_Mo_gather_210 ?_
            refine z_dload_n C d_Mo_gather_211 rfl 6 rfl ?_
            refine z_callSi (As := [.double x3]) (st := [.int (r1 * (8 : Int32)), .ref q_t_bins]) (wr := [zo 6 q_t [.ref q_t_text, .ref q_t_code, .ref q_t_site, .ref q_t_condition, .ref q_t_actions, .ref q_t_kind, .ref q_t_target, .ref q_t_first, .ref q_t_second, .ref q_t_failures, .ref q_t_met, .ref q_t_there, .ref q_t_on, .ref q_t_compared, .ref q_t_globals, .ref q_t_own, .ref q_t_records, .ref q_t_pile, .ref q_t_handed, .ref q_t_keys, .ref q_t_key, .ref q_t_count, .ref q_t_bins, .ref q_t_operator, .ref q_t_starts, .ref q_t_sum, .ref q_t_least, .ref q_t_greatest, .int t_newSite, .int t_newCondition, .int t_newActions, .int t_size, .int t_place, .int t_pos, .int t_at, .int t_operators, .int t_recorded, .int t_lost, .int t_dropped, .int t_firings, .int t_time, .int t_thread, .int t_thrown, .int t_failed], zaI K q_t_keys 3 t_keys, zaI K q_t_key 12 t_key, zaD K q_t_sum 12 (vf_upd t_sum r1.toNatClampNeg (FP.dadd (t_sum r1.toNatClampNeg) x3)), zaD K q_t_least 12 t_least, zaD K q_t_greatest 12 (vf_upd t_greatest r1.toNatClampNeg x3), zaI K q_t_count 12 (upd t_count r1.toNatClampNeg ((t_count r1.toNatClampNeg) + (1 : Int32))), zaI K q_t_bins 96 t_bins]) (wj := fun u => [zo 6 q_t [.ref q_t_text, .ref q_t_code, .ref q_t_site, .ref q_t_condition, .ref q_t_actions, .ref q_t_kind, .ref q_t_target, .ref q_t_first, .ref q_t_second, .ref q_t_failures, .ref q_t_met, .ref q_t_there, .ref q_t_on, .ref q_t_compared, .ref q_t_globals, .ref q_t_own, .ref q_t_records, .ref q_t_pile, .ref q_t_handed, .ref q_t_keys, .ref q_t_key, .ref q_t_count, .ref q_t_bins, .ref q_t_operator, .ref q_t_starts, .ref q_t_sum, .ref q_t_least, .ref q_t_greatest, .int t_newSite, .int t_newCondition, .int t_newActions, .int t_size, .int t_place, .int t_pos, .int t_at, .int t_operators, .int t_recorded, .int t_lost, .int t_dropped, .int t_firings, .int t_time, .int t_thread, .int t_thrown, .int t_failed], zaI K q_t_keys 3 t_keys, zaI K q_t_key 12 t_key, zaD K q_t_sum 12 (vf_upd t_sum r1.toNatClampNeg (FP.dadd (t_sum r1.toNatClampNeg) x3)), zaD K q_t_least 12 t_least, zaD K q_t_greatest 12 (vf_upd t_greatest r1.toNatClampNeg x3), zaI K q_t_count 12 (upd t_count r1.toNatClampNeg ((t_count r1.toNatClampNeg) + (1 : Int32))), zaI K q_t_bins 96 t_bins]) C (c_Mo_binOf l D K x3 hS36.1) (cwS 1 C.2.2.2.2.1 (z_gS wl_Mo_198 ws_Mo_binOf wz_Mo wk_Mo_binOf) rfl rfl rfl (by decide +kernel) ⟨Nat.le_of_ble_eq_true rfl, Nat.le_of_ble_eq_true rfl⟩) [] [0, 1, 2, 3, 4, 5, 6, 7] [0, 1, 2, 3, 4, 5, 6, 7] rfl rfl rfl rfl (by decide) (fun _ => rfl) rfl rfl rfl (Nat.le_of_ble_eq_true rfl) d_Mo_gather_212 ⟨Nat.le_of_ble_eq_true rfl, Nat.le_of_ble_eq_true rfl⟩ (fun r37 u38 e39 => ?_)
            have hS40 := hS36.2 r37 e39
            refine z_iadd C d_Mo_gather_215 ?_
            refine z_dup2_11 C d_Mo_gather_216 rfl rfl ?_
            refine z_iald C 7 0 rfl rfl hS40.1 d_Mo_gather_217 ?_
            have hS41 := hS40.2
            refine z_iconst (v := (1 : Int32)) C d_Mo_gather_218 (by decide) ?_
            refine z_iadd C d_Mo_gather_219 ?_
            refine z_iast (ws' := [zo 6 q_t [.ref q_t_text, .ref q_t_code, .ref q_t_site, .ref q_t_condition, .ref q_t_actions, .ref q_t_kind, .ref q_t_target, .ref q_t_first, .ref q_t_second, .ref q_t_failures, .ref q_t_met, .ref q_t_there, .ref q_t_on, .ref q_t_compared, .ref q_t_globals, .ref q_t_own, .ref q_t_records, .ref q_t_pile, .ref q_t_handed, .ref q_t_keys, .ref q_t_key, .ref q_t_count, .ref q_t_bins, .ref q_t_operator, .ref q_t_starts, .ref q_t_sum, .ref q_t_least, .ref q_t_greatest, .int t_newSite, .int t_newCondition, .int t_newActions, .int t_size, .int t_place, .int t_pos, .int t_at, .int t_operators, .int t_recorded, .int t_lost, .int t_dropped, .int t_firings, .int t_time, .int t_thread, .int t_thrown, .int t_failed], zaI K q_t_keys 3 t_keys, zaI K q_t_key 12 t_key, zaD K q_t_sum 12 (vf_upd t_sum r1.toNatClampNeg (FP.dadd (t_sum r1.toNatClampNeg) x3)), zaD K q_t_least 12 t_least, zaD K q_t_greatest 12 (vf_upd t_greatest r1.toNatClampNeg x3), zaI K q_t_count 12 (upd t_count r1.toNatClampNeg ((t_count r1.toNatClampNeg) + (1 : Int32))), zaI K q_t_bins 96 (upd t_bins ((r1 * (8 : Int32)) + r37).toNatClampNeg ((t_bins ((r1 * (8 : Int32)) + r37).toNatClampNeg) + (1 : Int32)))]) C 7 0 rfl rfl hS41.1 rfl d_Mo_gather_220 ?_
            have hS42 := hS41.2
            exact z_vret C hr hlk (t_dropped, t_failed, t_keys, t_key, vf_upd t_sum r1.toNatClampNeg (FP.dadd (t_sum r1.toNatClampNeg) x3), t_least, vf_upd t_greatest r1.toNatClampNeg x3, upd t_count r1.toNatClampNeg ((t_count r1.toNatClampNeg) + (1 : Int32)), upd t_bins ((r1 * (8 : Int32)) + r37).toNatClampNeg ((t_bins ((r1 * (8 : Int32)) + r37).toNatClampNeg) + (1 : Int32))) rfl hS42 d_Mo_gather_221
        · have hS21 := hS19.2 c20
          refine z_aload_n C d_Mo_gather_158 rfl 3 rfl ?_
          refine z_get C 0 rfl rfl in_Mo 26 (by decide) rfl wf_Mo_90 rfl d_Mo_gather_159 ?_
          refine z_iload C d_Mo_gather_162 2 rfl ?_
          refine z_dload_n C d_Mo_gather_164 rfl 6 rfl ?_
          refine z_dast (ws' := [zo 6 q_t [.ref q_t_text, .ref q_t_code, .ref q_t_site, .ref q_t_condition, .ref q_t_actions, .ref q_t_kind, .ref q_t_target, .ref q_t_first, .ref q_t_second, .ref q_t_failures, .ref q_t_met, .ref q_t_there, .ref q_t_on, .ref q_t_compared, .ref q_t_globals, .ref q_t_own, .ref q_t_records, .ref q_t_pile, .ref q_t_handed, .ref q_t_keys, .ref q_t_key, .ref q_t_count, .ref q_t_bins, .ref q_t_operator, .ref q_t_starts, .ref q_t_sum, .ref q_t_least, .ref q_t_greatest, .int t_newSite, .int t_newCondition, .int t_newActions, .int t_size, .int t_place, .int t_pos, .int t_at, .int t_operators, .int t_recorded, .int t_lost, .int t_dropped, .int t_firings, .int t_time, .int t_thread, .int t_thrown, .int t_failed], zaI K q_t_keys 3 t_keys, zaI K q_t_key 12 t_key, zaD K q_t_sum 12 (vf_upd t_sum r1.toNatClampNeg (FP.dadd (t_sum r1.toNatClampNeg) x3)), zaD K q_t_least 12 (vf_upd t_least r1.toNatClampNeg x3), zaD K q_t_greatest 12 t_greatest, zaI K q_t_count 12 t_count, zaI K q_t_bins 96 t_bins]) C 4 1 rfl rfl hS21.1 rfl d_Mo_gather_165 ?_
          have hS43 := hS21.2
          refine z_iload C d_Mo_gather_166 1 rfl ?_
          refine z_if_ne (tgt := 183) C d_Mo_gather_168 (by decide) (fun c44 => absurd c44 (by decide)) (fun c44 => ?_)
          refine z_dload_n C d_Mo_gather_171 rfl 6 rfl ?_
          refine z_aload_n C d_Mo_gather_172 rfl 3 rfl ?_
          refine z_get C 0 rfl rfl in_Mo 27 (by decide) rfl wf_Mo_93 rfl d_Mo_gather_173 ?_
          refine z_iload C d_Mo_gather_176 2 rfl ?_
          refine z_dald C 5 1 rfl rfl hS43.1 d_Mo_gather_178 ?_
          have hS45 := hS43.2
          refine z_dcmp C d_Mo_gather_179 ?_
          refine z_if_le (tgt := 191) C d_Mo_gather_180 (by decide) (fun c46 => ?_) (fun c46 => ?_)
          · have hS47 := hS45.1 c46
            refine z_aload_n C d_Mo_gather_191 rfl 3 rfl ?_
            refine z_get C 0 rfl rfl in_Mo 21 (by decide) rfl wf_Mo_75 rfl d_Mo_gather_192 ?_
            refine z_iload C d_Mo_gather_195 2 rfl ?_
            refine z_dup2_11 C d_Mo_gather_197 rfl rfl ?_
            refine z_iald C 6 0 rfl rfl hS47.1 d_Mo_gather_198 ?_
            have hS48 := hS47.2
            refine z_iconst (v := (1 : Int32)) C d_Mo_gather_199 (by decide) ?_
            refine z_iadd C d_Mo_gather_200 ?_
            refine z_iast (ws' := [zo 6 q_t [.ref q_t_text, .ref q_t_code, .ref q_t_site, .ref q_t_condition, .ref q_t_actions, .ref q_t_kind, .ref q_t_target, .ref q_t_first, .ref q_t_second, .ref q_t_failures, .ref q_t_met, .ref q_t_there, .ref q_t_on, .ref q_t_compared, .ref q_t_globals, .ref q_t_own, .ref q_t_records, .ref q_t_pile, .ref q_t_handed, .ref q_t_keys, .ref q_t_key, .ref q_t_count, .ref q_t_bins, .ref q_t_operator, .ref q_t_starts, .ref q_t_sum, .ref q_t_least, .ref q_t_greatest, .int t_newSite, .int t_newCondition, .int t_newActions, .int t_size, .int t_place, .int t_pos, .int t_at, .int t_operators, .int t_recorded, .int t_lost, .int t_dropped, .int t_firings, .int t_time, .int t_thread, .int t_thrown, .int t_failed], zaI K q_t_keys 3 t_keys, zaI K q_t_key 12 t_key, zaD K q_t_sum 12 (vf_upd t_sum r1.toNatClampNeg (FP.dadd (t_sum r1.toNatClampNeg) x3)), zaD K q_t_least 12 (vf_upd t_least r1.toNatClampNeg x3), zaD K q_t_greatest 12 t_greatest, zaI K q_t_count 12 (upd t_count r1.toNatClampNeg ((t_count r1.toNatClampNeg) + (1 : Int32))), zaI K q_t_bins 96 t_bins]) C 6 0 rfl rfl hS48.1 rfl d_Mo_gather_201 ?_
            have hS49 := hS48.2
            refine z_aload_n C d_Mo_gather_202 rfl 3 rfl ?_
            refine z_get C 0 rfl rfl in_Mo 22 (by decide) rfl wf_Mo_78 rfl d_Mo_gather_203 ?_
            refine z_iload C d_Mo_gather_206 2 rfl ?_
            refine z_bipush (v := (8 : Int32)) C d_Mo_gather_208 (by decide) ?_
            refine z_imul C d_Mo_gather_210 ?_
            refine z_dload_n C d_Mo_gather_211 rfl 6 rfl ?_
            refine z_callSi (As := [.double x3]) (st := [.int (r1 * (8 : Int32)), .ref q_t_bins]) (wr := [zo 6 q_t [.ref q_t_text, .ref q_t_code, .ref q_t_site, .ref q_t_condition, .ref q_t_actions, .ref q_t_kind, .ref q_t_target, .ref q_t_first, .ref q_t_second, .ref q_t_failures, .ref q_t_met, .ref q_t_there, .ref q_t_on, .ref q_t_compared, .ref q_t_globals, .ref q_t_own, .ref q_t_records, .ref q_t_pile, .ref q_t_handed, .ref q_t_keys, .ref q_t_key, .ref q_t_count, .ref q_t_bins, .ref q_t_operator, .ref q_t_starts, .ref q_t_sum, .ref q_t_least, .ref q_t_greatest, .int t_newSite, .int t_newCondition, .int t_newActions, .int t_size, .int t_place, .int t_pos, .int t_at, .int t_operators, .int t_recorded, .int t_lost, .int t_dropped, .int t_firings, .int t_time, .int t_thread, .int t_thrown, .int t_failed], zaI K q_t_keys 3 t_keys, zaI K q_t_key 12 t_key, zaD K q_t_sum 12 (vf_upd t_sum r1.toNatClampNeg (FP.dadd (t_sum r1.toNatClampNeg) x3)), zaD K q_t_least 12 (vf_upd t_least r1.toNatClampNeg x3), zaD K q_t_greatest 12 t_greatest, zaI K q_t_count 12 (upd t_count r1.toNatClampNeg ((t_count r1.toNatClampNeg) + (1 : Int32))), zaI K q_t_bins 96 t_bins]) (wj := fun u => [zo 6 q_t [.ref q_t_text, .ref q_t_code, .ref q_t_site, .ref q_t_condition, .ref q_t_actions, .ref q_t_kind, .ref q_t_target, .ref q_t_first, .ref q_t_second, .ref q_t_failures, .ref q_t_met, .ref q_t_there, .ref q_t_on, .ref q_t_compared, .ref q_t_globals, .ref q_t_own, .ref q_t_records, .ref q_t_pile, .ref q_t_handed, .ref q_t_keys, .ref q_t_key, .ref q_t_count, .ref q_t_bins, .ref q_t_operator, .ref q_t_starts, .ref q_t_sum, .ref q_t_least, .ref q_t_greatest, .int t_newSite, .int t_newCondition, .int t_newActions, .int t_size, .int t_place, .int t_pos, .int t_at, .int t_operators, .int t_recorded, .int t_lost, .int t_dropped, .int t_firings, .int t_time, .int t_thread, .int t_thrown, .int t_failed], zaI K q_t_keys 3 t_keys, zaI K q_t_key 12 t_key, zaD K q_t_sum 12 (vf_upd t_sum r1.toNatClampNeg (FP.dadd (t_sum r1.toNatClampNeg) x3)), zaD K q_t_least 12 (vf_upd t_least r1.toNatClampNeg x3), zaD K q_t_greatest 12 t_greatest, zaI K q_t_count 12 (upd t_count r1.toNatClampNeg ((t_count r1.toNatClampNeg) + (1 : Int32))), zaI K q_t_bins 96 t_bins]) C (c_Mo_binOf l D K x3 hS49.1) (cwS 1 C.2.2.2.2.1 (z_gS wl_Mo_198 ws_Mo_binOf wz_Mo wk_Mo_binOf) rfl rfl rfl (by decide +kernel) ⟨Nat.le_of_ble_eq_true rfl, Nat.le_of_ble_eq_true rfl⟩) [] [0, 1, 2, 3, 4, 5, 6, 7] [0, 1, 2, 3, 4, 5, 6, 7] rfl rfl rfl rfl (by decide) (fun _ => rfl) rfl rfl rfl (Nat.le_of_ble_eq_true rfl) d_Mo_gather_212 ⟨Nat.le_of_ble_eq_true rfl, Nat.le_of_ble_eq_true rfl⟩ (fun r50 u51 e52 => ?_)
            have hS53 := hS49.2 r50 e52
            refine z_iadd C d_Mo_gather_215 ?_
            refine z_dup2_11 C d_Mo_gather_216 rfl rfl ?_
            refine z_iald C 7 0 rfl rfl hS53.1 d_Mo_gather_217 ?_
            have hS54 := hS53.2
            refine z_iconst (v := (1 : Int32)) C d_Mo_gather_218 (by decide) ?_
            refine z_iadd C d_Mo_gather_219 ?_
            refine z_iast (ws' := [zo 6 q_t [.ref q_t_text, .ref q_t_code, .ref q_t_site, .ref q_t_condition, .ref q_t_actions, .ref q_t_kind, .ref q_t_target, .ref q_t_first, .ref q_t_second, .ref q_t_failures, .ref q_t_met, .ref q_t_there, .ref q_t_on, .ref q_t_compared, .ref q_t_globals, .ref q_t_own, .ref q_t_records, .ref q_t_pile, .ref q_t_handed, .ref q_t_keys, .ref q_t_key, .ref q_t_count, .ref q_t_bins, .ref q_t_operator, .ref q_t_starts, .ref q_t_sum, .ref q_t_least, .ref q_t_greatest, .int t_newSite, .int t_newCondition, .int t_newActions, .int t_size, .int t_place, .int t_pos, .int t_at, .int t_operators, .int t_recorded, .int t_lost, .int t_dropped, .int t_firings, .int t_time, .int t_thread, .int t_thrown, .int t_failed], zaI K q_t_keys 3 t_keys, zaI K q_t_key 12 t_key, zaD K q_t_sum 12 (vf_upd t_sum r1.toNatClampNeg (FP.dadd (t_sum r1.toNatClampNeg) x3)), zaD K q_t_least 12 (vf_upd t_least r1.toNatClampNeg x3), zaD K q_t_greatest 12 t_greatest, zaI K q_t_count 12 (upd t_count r1.toNatClampNeg ((t_count r1.toNatClampNeg) + (1 : Int32))), zaI K q_t_bins 96 (upd t_bins ((r1 * (8 : Int32)) + r50).toNatClampNeg ((t_bins ((r1 * (8 : Int32)) + r50).toNatClampNeg) + (1 : Int32)))]) C 7 0 rfl rfl hS54.1 rfl d_Mo_gather_220 ?_
            have hS55 := hS54.2
            exact z_vret C hr hlk (t_dropped, t_failed, t_keys, t_key, vf_upd t_sum r1.toNatClampNeg (FP.dadd (t_sum r1.toNatClampNeg) x3), vf_upd t_least r1.toNatClampNeg x3, t_greatest, upd t_count r1.toNatClampNeg ((t_count r1.toNatClampNeg) + (1 : Int32)), upd t_bins ((r1 * (8 : Int32)) + r50).toNatClampNeg ((t_bins ((r1 * (8 : Int32)) + r50).toNatClampNeg) + (1 : Int32))) rfl hS55 d_Mo_gather_221
          · have hS47 := hS45.2 c46
            refine z_aload_n C d_Mo_gather_183 rfl 3 rfl ?_
            refine z_get C 0 rfl rfl in_Mo 27 (by decide) rfl wf_Mo_93 rfl d_Mo_gather_184 ?_
            refine z_iload C d_Mo_gather_187 2 rfl ?_
            refine z_dload_n C d_Mo_gather_189 rfl 6 rfl ?_
            refine z_dast (ws' := [zo 6 q_t [.ref q_t_text, .ref q_t_code, .ref q_t_site, .ref q_t_condition, .ref q_t_actions, .ref q_t_kind, .ref q_t_target, .ref q_t_first, .ref q_t_second, .ref q_t_failures, .ref q_t_met, .ref q_t_there, .ref q_t_on, .ref q_t_compared, .ref q_t_globals, .ref q_t_own, .ref q_t_records, .ref q_t_pile, .ref q_t_handed, .ref q_t_keys, .ref q_t_key, .ref q_t_count, .ref q_t_bins, .ref q_t_operator, .ref q_t_starts, .ref q_t_sum, .ref q_t_least, .ref q_t_greatest, .int t_newSite, .int t_newCondition, .int t_newActions, .int t_size, .int t_place, .int t_pos, .int t_at, .int t_operators, .int t_recorded, .int t_lost, .int t_dropped, .int t_firings, .int t_time, .int t_thread, .int t_thrown, .int t_failed], zaI K q_t_keys 3 t_keys, zaI K q_t_key 12 t_key, zaD K q_t_sum 12 (vf_upd t_sum r1.toNatClampNeg (FP.dadd (t_sum r1.toNatClampNeg) x3)), zaD K q_t_least 12 (vf_upd t_least r1.toNatClampNeg x3), zaD K q_t_greatest 12 (vf_upd t_greatest r1.toNatClampNeg x3), zaI K q_t_count 12 t_count, zaI K q_t_bins 96 t_bins]) C 5 1 rfl rfl hS47.1 rfl d_Mo_gather_190 ?_
            have hS56 := hS47.2
            refine z_aload_n C d_Mo_gather_191 rfl 3 rfl ?_
            refine z_get C 0 rfl rfl in_Mo 21 (by decide) rfl wf_Mo_75 rfl d_Mo_gather_192 ?_
            refine z_iload C d_Mo_gather_195 2 rfl ?_
            refine z_dup2_11 C d_Mo_gather_197 rfl rfl ?_
            refine z_iald C 6 0 rfl rfl hS56.1 d_Mo_gather_198 ?_
            have hS57 := hS56.2
            refine z_iconst (v := (1 : Int32)) C d_Mo_gather_199 (by decide) ?_
            refine z_iadd C d_Mo_gather_200 ?_
            refine z_iast (ws' := [zo 6 q_t [.ref q_t_text, .ref q_t_code, .ref q_t_site, .ref q_t_condition, .ref q_t_actions, .ref q_t_kind, .ref q_t_target, .ref q_t_first, .ref q_t_second, .ref q_t_failures, .ref q_t_met, .ref q_t_there, .ref q_t_on, .ref q_t_compared, .ref q_t_globals, .ref q_t_own, .ref q_t_records, .ref q_t_pile, .ref q_t_handed, .ref q_t_keys, .ref q_t_key, .ref q_t_count, .ref q_t_bins, .ref q_t_operator, .ref q_t_starts, .ref q_t_sum, .ref q_t_least, .ref q_t_greatest, .int t_newSite, .int t_newCondition, .int t_newActions, .int t_size, .int t_place, .int t_pos, .int t_at, .int t_operators, .int t_recorded, .int t_lost, .int t_dropped, .int t_firings, .int t_time, .int t_thread, .int t_thrown, .int t_failed], zaI K q_t_keys 3 t_keys, zaI K q_t_key 12 t_key, zaD K q_t_sum 12 (vf_upd t_sum r1.toNatClampNeg (FP.dadd (t_sum r1.toNatClampNeg) x3)), zaD K q_t_least 12 (vf_upd t_least r1.toNatClampNeg x3), zaD K q_t_greatest 12 (vf_upd t_greatest r1.toNatClampNeg x3), zaI K q_t_count 12 (upd t_count r1.toNatClampNeg ((t_count r1.toNatClampNeg) + (1 : Int32))), zaI K q_t_bins 96 t_bins]) C 6 0 rfl rfl hS57.1 rfl d_Mo_gather_201 ?_
            have hS58 := hS57.2
            refine z_aload_n C d_Mo_gather_202 rfl 3 rfl ?_
            refine z_get C 0 rfl rfl in_Mo 22 (by decide) rfl wf_Mo_78 rfl d_Mo_gather_203 ?_
            refine z_iload C d_Mo_gather_206 2 rfl ?_
            refine z_bipush (v := (8 : Int32)) C d_Mo_gather_208 (by decide) ?_
            refine z_imul C d_Mo_gather_210 ?_
            refine z_dload_n C d_Mo_gather_211 rfl 6 rfl ?_
            refine z_callSi (As := [.double x3]) (st := [.int (r1 * (8 : Int32)), .ref q_t_bins]) (wr := [zo 6 q_t [.ref q_t_text, .ref q_t_code, .ref q_t_site, .ref q_t_condition, .ref q_t_actions, .ref q_t_kind, .ref q_t_target, .ref q_t_first, .ref q_t_second, .ref q_t_failures, .ref q_t_met, .ref q_t_there, .ref q_t_on, .ref q_t_compared, .ref q_t_globals, .ref q_t_own, .ref q_t_records, .ref q_t_pile, .ref q_t_handed, .ref q_t_keys, .ref q_t_key, .ref q_t_count, .ref q_t_bins, .ref q_t_operator, .ref q_t_starts, .ref q_t_sum, .ref q_t_least, .ref q_t_greatest, .int t_newSite, .int t_newCondition, .int t_newActions, .int t_size, .int t_place, .int t_pos, .int t_at, .int t_operators, .int t_recorded, .int t_lost, .int t_dropped, .int t_firings, .int t_time, .int t_thread, .int t_thrown, .int t_failed], zaI K q_t_keys 3 t_keys, zaI K q_t_key 12 t_key, zaD K q_t_sum 12 (vf_upd t_sum r1.toNatClampNeg (FP.dadd (t_sum r1.toNatClampNeg) x3)), zaD K q_t_least 12 (vf_upd t_least r1.toNatClampNeg x3), zaD K q_t_greatest 12 (vf_upd t_greatest r1.toNatClampNeg x3), zaI K q_t_count 12 (upd t_count r1.toNatClampNeg ((t_count r1.toNatClampNeg) + (1 : Int32))), zaI K q_t_bins 96 t_bins]) (wj := fun u => [zo 6 q_t [.ref q_t_text, .ref q_t_code, .ref q_t_site, .ref q_t_condition, .ref q_t_actions, .ref q_t_kind, .ref q_t_target, .ref q_t_first, .ref q_t_second, .ref q_t_failures, .ref q_t_met, .ref q_t_there, .ref q_t_on, .ref q_t_compared, .ref q_t_globals, .ref q_t_own, .ref q_t_records, .ref q_t_pile, .ref q_t_handed, .ref q_t_keys, .ref q_t_key, .ref q_t_count, .ref q_t_bins, .ref q_t_operator, .ref q_t_starts, .ref q_t_sum, .ref q_t_least, .ref q_t_greatest, .int t_newSite, .int t_newCondition, .int t_newActions, .int t_size, .int t_place, .int t_pos, .int t_at, .int t_operators, .int t_recorded, .int t_lost, .int t_dropped, .int t_firings, .int t_time, .int t_thread, .int t_thrown, .int t_failed], zaI K q_t_keys 3 t_keys, zaI K q_t_key 12 t_key, zaD K q_t_sum 12 (vf_upd t_sum r1.toNatClampNeg (FP.dadd (t_sum r1.toNatClampNeg) x3)), zaD K q_t_least 12 (vf_upd t_least r1.toNatClampNeg x3), zaD K q_t_greatest 12 (vf_upd t_greatest r1.toNatClampNeg x3), zaI K q_t_count 12 (upd t_count r1.toNatClampNeg ((t_count r1.toNatClampNeg) + (1 : Int32))), zaI K q_t_bins 96 t_bins]) C (c_Mo_binOf l D K x3 hS58.1) (cwS 1 C.2.2.2.2.1 (z_gS wl_Mo_198 ws_Mo_binOf wz_Mo wk_Mo_binOf) rfl rfl rfl (by decide +kernel) ⟨Nat.le_of_ble_eq_true rfl, Nat.le_of_ble_eq_true rfl⟩) [] [0, 1, 2, 3, 4, 5, 6, 7] [0, 1, 2, 3, 4, 5, 6, 7] rfl rfl rfl rfl (by decide) (fun _ => rfl) rfl rfl rfl (Nat.le_of_ble_eq_true rfl) d_Mo_gather_212 ⟨Nat.le_of_ble_eq_true rfl, Nat.le_of_ble_eq_true rfl⟩ (fun r59 u60 e61 => ?_)
            have hS62 := hS58.2 r59 e61
            refine z_iadd C d_Mo_gather_215 ?_
            refine z_dup2_11 C d_Mo_gather_216 rfl rfl ?_
            refine z_iald C 7 0 rfl rfl hS62.1 d_Mo_gather_217 ?_
            have hS63 := hS62.2
            refine z_iconst (v := (1 : Int32)) C d_Mo_gather_218 (by decide) ?_
            refine z_iadd C d_Mo_gather_219 ?_
            refine z_iast (ws' := [zo 6 q_t [.ref q_t_text, .ref q_t_code, .ref q_t_site, .ref q_t_condition, .ref q_t_actions, .ref q_t_kind, .ref q_t_target, .ref q_t_first, .ref q_t_second, .ref q_t_failures, .ref q_t_met, .ref q_t_there, .ref q_t_on, .ref q_t_compared, .ref q_t_globals, .ref q_t_own, .ref q_t_records, .ref q_t_pile, .ref q_t_handed, .ref q_t_keys, .ref q_t_key, .ref q_t_count, .ref q_t_bins, .ref q_t_operator, .ref q_t_starts, .ref q_t_sum, .ref q_t_least, .ref q_t_greatest, .int t_newSite, .int t_newCondition, .int t_newActions, .int t_size, .int t_place, .int t_pos, .int t_at, .int t_operators, .int t_recorded, .int t_lost, .int t_dropped, .int t_firings, .int t_time, .int t_thread, .int t_thrown, .int t_failed], zaI K q_t_keys 3 t_keys, zaI K q_t_key 12 t_key, zaD K q_t_sum 12 (vf_upd t_sum r1.toNatClampNeg (FP.dadd (t_sum r1.toNatClampNeg) x3)), zaD K q_t_least 12 (vf_upd t_least r1.toNatClampNeg x3), zaD K q_t_greatest 12 (vf_upd t_greatest r1.toNatClampNeg x3), zaI K q_t_count 12 (upd t_count r1.toNatClampNeg ((t_count r1.toNatClampNeg) + (1 : Int32))), zaI K q_t_bins 96 (upd t_bins ((r1 * (8 : Int32)) + r59).toNatClampNeg ((t_bins ((r1 * (8 : Int32)) + r59).toNatClampNeg) + (1 : Int32)))]) C 7 0 rfl rfl hS63.1 rfl d_Mo_gather_220 ?_
            have hS64 := hS63.2
            exact z_vret C hr hlk (t_dropped, t_failed, t_keys, t_key, vf_upd t_sum r1.toNatClampNeg (FP.dadd (t_sum r1.toNatClampNeg) x3), vf_upd t_least r1.toNatClampNeg x3, vf_upd t_greatest r1.toNatClampNeg x3, upd t_count r1.toNatClampNeg ((t_count r1.toNatClampNeg) + (1 : Int32)), upd t_bins ((r1 * (8 : Int32)) + r59).toNatClampNeg ((t_bins ((r1 * (8 : Int32)) + r59).toNatClampNeg) + (1 : Int32))) rfl hS64 d_Mo_gather_221
      · have hS15 := hS13.2 c14
        refine z_aload_n C d_Mo_gather_103 rfl 3 rfl ?_
        refine z_iconst (v := (1 : Int32)) C d_Mo_gather_104 (by decide) ?_
        refine z_put (ty := .boolean) (ws' := [zo 6 q_t [.ref q_t_text, .ref q_t_code, .ref q_t_site, .ref q_t_condition, .ref q_t_actions, .ref q_t_kind, .ref q_t_target, .ref q_t_first, .ref q_t_second, .ref q_t_failures, .ref q_t_met, .ref q_t_there, .ref q_t_on, .ref q_t_compared, .ref q_t_globals, .ref q_t_own, .ref q_t_records, .ref q_t_pile, .ref q_t_handed, .ref q_t_keys, .ref q_t_key, .ref q_t_count, .ref q_t_bins, .ref q_t_operator, .ref q_t_starts, .ref q_t_sum, .ref q_t_least, .ref q_t_greatest, .int t_newSite, .int t_newCondition, .int t_newActions, .int t_size, .int t_place, .int t_pos, .int t_at, .int t_operators, .int t_recorded, .int t_lost, .int t_dropped, .int t_firings, .int t_time, .int t_thread, .int t_thrown, .int (1 : Int32)], zaI K q_t_keys 3 t_keys, zaI K q_t_key 12 t_key, zaD K q_t_sum 12 t_sum, zaD K q_t_least 12 t_least, zaD K q_t_greatest 12 t_greatest, zaI K q_t_count 12 t_count, zaI K q_t_bins 96 t_bins]) C ty_Mo to_Mo nm_Mo 0 rfl rfl in_Mo 43 (by decide) rfl wf_Mo_173 rfl rfl rfl rfl (Nat.le_of_ble_eq_true rfl) rfl d_Mo_gather_105 ?_
        exact z_vret C hr hlk (t_dropped, (1 : Int32), t_keys, t_key, t_sum, t_least, t_greatest, t_count, t_bins) rfl hS15 d_Mo_gather_108
  · have hS6 := hS4.2 c5
    refine z_aload_n C d_Mo_gather_13 rfl 1 rfl ?_
    refine z_get C 0 rfl rfl in_Mo 19 (by decide) rfl wf_Mo_69 rfl d_Mo_gather_14 ?_
    refine z_iload_n C d_Mo_gather_17 rfl 2 rfl ?_
    refine z_iald C 1 0 rfl rfl hS6.1 d_Mo_gather_18 ?_
    have hS65 := hS6.2
    refine z_iconst (v := (4 : Int32)) C d_Mo_gather_19 (by decide) ?_
    refine z_icmp_ne (tgt := 34) C d_Mo_gather_20 (by decide) (fun c66 => ?_) (fun c66 => ?_)
    · have hS67 := hS65.1 c66
      refine z_iload C d_Mo_gather_34 0 rfl ?_
      refine z_if_ge (tgt := 43) C d_Mo_gather_36 (by decide) (fun c68 => absurd c68 c5) (fun c68 => ?_)
      refine z_iconst (v := (1 : Int32)) C d_Mo_gather_39 (by decide) ?_
      refine z_goto (tgt := 44) C d_Mo_gather_40 (by decide) ?_
      refine z_istore (lv' := [(6, .int (1 : Int32)), (5, .int r1), (0, .ref q_t), (1, .int x1), (2, .int x2), (3, .double x3)]) C d_Mo_gather_44 (by decide) rfl ?_
      refine z_iload C d_Mo_gather_46 0 rfl ?_
      refine z_if_eq (tgt := 63) C d_Mo_gather_48 (by decide) (fun c69 => absurd c69 (by decide)) (fun c69 => ?_)
      refine z_iload_n C d_Mo_gather_51 rfl 3 rfl ?_
      refine z_iconst (v := (4 : Int32)) C d_Mo_gather_52 (by decide) ?_
      refine z_imul C d_Mo_gather_53 ?_
      refine z_aload_n C d_Mo_gather_54 rfl 2 rfl ?_
      refine z_get C 0 rfl rfl in_Mo 19 (by decide) rfl wf_Mo_69 rfl d_Mo_gather_55 ?_
      refine z_iload_n C d_Mo_gather_58 rfl 3 rfl ?_
      refine z_iald C 1 0 rfl rfl hS67.1 d_Mo_gather_59 ?_
      have hS70 := hS67.2
      refine z_iadd C d_Mo_gather_60 ?_
      refine z_istore (lv' := [(5, .int ((x1 * (4 : Int32)) + (t_keys x1.toNatClampNeg))), (6, .int (1 : Int32)), (0, .ref q_t), (1, .int x1), (2, .int x2), (3, .double x3)]) C d_Mo_gather_61 (by decide) rfl ?_
      refine z_iload C d_Mo_gather_63 1 rfl ?_
      refine z_if_eq (tgt := 74) C d_Mo_gather_65 (by decide) (fun c71 => absurd c71 (by decide)) (fun c71 => ?_)
      refine z_dconst0 C d_Mo_gather_68 ?_
      refine z_dload_n C d_Mo_gather_69 rfl 5 rfl ?_
      refine z_dadd C d_Mo_gather_70 hS70.1 ?_
      have hS72 := hS70.2
      refine z_goto (tgt := 83) C d_Mo_gather_71 (by decide) ?_
      refine z_dstore (lv' := [(7, .double (FP.dadd FP.dconst0 x3)), (5, .int ((x1 * (4 : Int32)) + (t_keys x1.toNatClampNeg))), (6, .int (1 : Int32)), (0, .ref q_t), (1, .int x1), (2, .int x2), (3, .double x3)]) C d_Mo_gather_83 (by decide) rfl ?_
      refine z_dload C d_Mo_gather_85 0 rfl ?_
      refine z_ldc2d C d_Mo_gather_87 wd_Mo_177 ?_
      refine z_dcmp C d_Mo_gather_90 ?_
      refine z_if_gt (tgt := 103) C d_Mo_gather_91 (by decide) (fun c73 => ?_) (fun c73 => ?_)
      · have hS74 := hS72.1 c73
        refine z_aload_n C d_Mo_gather_103 rfl 3 rfl ?_
        refine z_iconst (v := (1 : Int32)) C d_Mo_gather_104 (by decide) ?_
        refine z_put (ty := .boolean) (ws' := [zo 6 q_t [.ref q_t_text, .ref q_t_code, .ref q_t_site, .ref q_t_condition, .ref q_t_actions, .ref q_t_kind, .ref q_t_target, .ref q_t_first, .ref q_t_second, .ref q_t_failures, .ref q_t_met, .ref q_t_there, .ref q_t_on, .ref q_t_compared, .ref q_t_globals, .ref q_t_own, .ref q_t_records, .ref q_t_pile, .ref q_t_handed, .ref q_t_keys, .ref q_t_key, .ref q_t_count, .ref q_t_bins, .ref q_t_operator, .ref q_t_starts, .ref q_t_sum, .ref q_t_least, .ref q_t_greatest, .int t_newSite, .int t_newCondition, .int t_newActions, .int t_size, .int t_place, .int t_pos, .int t_at, .int t_operators, .int t_recorded, .int t_lost, .int t_dropped, .int t_firings, .int t_time, .int t_thread, .int t_thrown, .int (1 : Int32)], zaI K q_t_keys 3 t_keys, zaI K q_t_key 12 t_key, zaD K q_t_sum 12 t_sum, zaD K q_t_least 12 t_least, zaD K q_t_greatest 12 t_greatest, zaI K q_t_count 12 t_count, zaI K q_t_bins 96 t_bins]) C ty_Mo to_Mo nm_Mo 0 rfl rfl in_Mo 43 (by decide) rfl wf_Mo_173 rfl rfl rfl rfl (Nat.le_of_ble_eq_true rfl) rfl d_Mo_gather_105 ?_
        exact z_vret C hr hlk (t_dropped, (1 : Int32), t_keys, t_key, t_sum, t_least, t_greatest, t_count, t_bins) rfl hS74 d_Mo_gather_108
      · have hS74 := hS72.2 c73
        refine z_dload C d_Mo_gather_94 0 rfl ?_
        refine z_ldc2d C d_Mo_gather_96 wd_Mo_179 ?_
        refine z_dcmp C d_Mo_gather_99 ?_
        refine z_if_ge (tgt := 109) C d_Mo_gather_100 (by decide) (fun c75 => ?_) (fun c75 => ?_)
        · have hS76 := hS74.1 c75
          refine z_iload C d_Mo_gather_109 2 rfl ?_
          refine z_if_eq (tgt := 132) C d_Mo_gather_111 (by decide) (fun c77 => absurd c77 (by decide)) (fun c77 => ?_)
          refine z_aload_n C d_Mo_gather_114 rfl 3 rfl ?_
          refine z_get C 0 rfl rfl in_Mo 19 (by decide) rfl wf_Mo_69 rfl d_Mo_gather_115 ?_
          refine z_iload_n C d_Mo_gather_118 rfl 4 rfl ?_
          refine z_dup2_11 C d_Mo_gather_119 rfl rfl ?_
          refine z_iald C 1 0 rfl rfl hS76.1 d_Mo_gather_120 ?_
          have hS78 := hS76.2
          refine z_iconst (v := (1 : Int32)) C d_Mo_gather_121 (by decide) ?_
          refine z_iadd C d_Mo_gather_122 ?_
          refine z_iast (ws' := [zo 6 q_t [.ref q_t_text, .ref q_t_code, .ref q_t_site, .ref q_t_condition, .ref q_t_actions, .ref q_t_kind, .ref q_t_target, .ref q_t_first, .ref q_t_second, .ref q_t_failures, .ref q_t_met, .ref q_t_there, .ref q_t_on, .ref q_t_compared, .ref q_t_globals, .ref q_t_own, .ref q_t_records, .ref q_t_pile, .ref q_t_handed, .ref q_t_keys, .ref q_t_key, .ref q_t_count, .ref q_t_bins, .ref q_t_operator, .ref q_t_starts, .ref q_t_sum, .ref q_t_least, .ref q_t_greatest, .int t_newSite, .int t_newCondition, .int t_newActions, .int t_size, .int t_place, .int t_pos, .int t_at, .int t_operators, .int t_recorded, .int t_lost, .int t_dropped, .int t_firings, .int t_time, .int t_thread, .int t_thrown, .int t_failed], zaI K q_t_keys 3 (upd t_keys x1.toNatClampNeg ((t_keys x1.toNatClampNeg) + (1 : Int32))), zaI K q_t_key 12 t_key, zaD K q_t_sum 12 t_sum, zaD K q_t_least 12 t_least, zaD K q_t_greatest 12 t_greatest, zaI K q_t_count 12 t_count, zaI K q_t_bins 96 t_bins]) C 1 0 rfl rfl hS78.1 rfl d_Mo_gather_123 ?_
          have hS79 := hS78.2
          refine z_aload_n C d_Mo_gather_124 rfl 3 rfl ?_
          refine z_get C 0 rfl rfl in_Mo 20 (by decide) rfl wf_Mo_72 rfl d_Mo_gather_125 ?_
          refine z_iload C d_Mo_gather_128 1 rfl ?_
          refine z_iload_n C d_Mo_gather_130 rfl 5 rfl ?_
          refine z_iast (ws' := [zo 6 q_t [.ref q_t_text, .ref q_t_code, .ref q_t_site, .ref q_t_condition, .ref q_t_actions, .ref q_t_kind, .ref q_t_target, .ref q_t_first, .ref q_t_second, .ref q_t_failures, .ref q_t_met, .ref q_t_there, .ref q_t_on, .ref q_t_compared, .ref q_t_globals, .ref q_t_own, .ref q_t_records, .ref q_t_pile, .ref q_t_handed, .ref q_t_keys, .ref q_t_key, .ref q_t_count, .ref q_t_bins, .ref q_t_operator, .ref q_t_starts, .ref q_t_sum, .ref q_t_least, .ref q_t_greatest, .int t_newSite, .int t_newCondition, .int t_newActions, .int t_size, .int t_place, .int t_pos, .int t_at, .int t_operators, .int t_recorded, .int t_lost, .int t_dropped, .int t_firings, .int t_time, .int t_thread, .int t_thrown, .int t_failed], zaI K q_t_keys 3 (upd t_keys x1.toNatClampNeg ((t_keys x1.toNatClampNeg) + (1 : Int32))), zaI K q_t_key 12 (upd t_key ((x1 * (4 : Int32)) + (t_keys x1.toNatClampNeg)).toNatClampNeg x2), zaD K q_t_sum 12 t_sum, zaD K q_t_least 12 t_least, zaD K q_t_greatest 12 t_greatest, zaI K q_t_count 12 t_count, zaI K q_t_bins 96 t_bins]) C 2 0 rfl rfl hS79.1 rfl d_Mo_gather_131 ?_
          have hS80 := hS79.2
          refine z_aload_n C d_Mo_gather_132 rfl 3 rfl ?_
          refine z_get C 0 rfl rfl in_Mo 25 (by decide) rfl wf_Mo_87 rfl d_Mo_gather_133 ?_
          refine z_iload C d_Mo_gather_136 1 rfl ?_
          refine z_dload C d_Mo_gather_138 0 rfl ?_
          refine z_dast (ws' := [zo 6 q_t [.ref q_t_text, .ref q_t_code, .ref q_t_site, .ref q_t_condition, .ref q_t_actions, .ref q_t_kind, .ref q_t_target, .ref q_t_first, .ref q_t_second, .ref q_t_failures, .ref q_t_met, .ref q_t_there, .ref q_t_on, .ref q_t_compared, .ref q_t_globals, .ref q_t_own, .ref q_t_records, .ref q_t_pile, .ref q_t_handed, .ref q_t_keys, .ref q_t_key, .ref q_t_count, .ref q_t_bins, .ref q_t_operator, .ref q_t_starts, .ref q_t_sum, .ref q_t_least, .ref q_t_greatest, .int t_newSite, .int t_newCondition, .int t_newActions, .int t_size, .int t_place, .int t_pos, .int t_at, .int t_operators, .int t_recorded, .int t_lost, .int t_dropped, .int t_firings, .int t_time, .int t_thread, .int t_thrown, .int t_failed], zaI K q_t_keys 3 (upd t_keys x1.toNatClampNeg ((t_keys x1.toNatClampNeg) + (1 : Int32))), zaI K q_t_key 12 (upd t_key ((x1 * (4 : Int32)) + (t_keys x1.toNatClampNeg)).toNatClampNeg x2), zaD K q_t_sum 12 (vf_upd t_sum ((x1 * (4 : Int32)) + (t_keys x1.toNatClampNeg)).toNatClampNeg (FP.dadd FP.dconst0 x3)), zaD K q_t_least 12 t_least, zaD K q_t_greatest 12 t_greatest, zaI K q_t_count 12 t_count, zaI K q_t_bins 96 t_bins]) C 3 1 rfl rfl hS80.1 rfl d_Mo_gather_140 ?_
          have hS81 := hS80.2
          refine z_iload C d_Mo_gather_141 2 rfl ?_
          refine z_if_ne (tgt := 158) C d_Mo_gather_143 (by decide) (fun c82 => ?_) (fun c82 => absurd c82 (by decide))
          refine z_aload_n C d_Mo_gather_158 rfl 3 rfl ?_
          refine z_get C 0 rfl rfl in_Mo 26 (by decide) rfl wf_Mo_90 rfl d_Mo_gather_159 ?_
          refine z_iload C d_Mo_gather_162 1 rfl ?_
          refine z_dload_n C d_Mo_gather_164 rfl 6 rfl ?_
          refine z_dast (ws' := [zo 6 q_t [.ref q_t_text, .ref q_t_code, .ref q_t_site, .ref q_t_condition, .ref q_t_actions, .ref q_t_kind, .ref q_t_target, .ref q_t_first, .ref q_t_second, .ref q_t_failures, .ref q_t_met, .ref q_t_there, .ref q_t_on, .ref q_t_compared, .ref q_t_globals, .ref q_t_own, .ref q_t_records, .ref q_t_pile, .ref q_t_handed, .ref q_t_keys, .ref q_t_key, .ref q_t_count, .ref q_t_bins, .ref q_t_operator, .ref q_t_starts, .ref q_t_sum, .ref q_t_least, .ref q_t_greatest, .int t_newSite, .int t_newCondition, .int t_newActions, .int t_size, .int t_place, .int t_pos, .int t_at, .int t_operators, .int t_recorded, .int t_lost, .int t_dropped, .int t_firings, .int t_time, .int t_thread, .int t_thrown, .int t_failed], zaI K q_t_keys 3 (upd t_keys x1.toNatClampNeg ((t_keys x1.toNatClampNeg) + (1 : Int32))), zaI K q_t_key 12 (upd t_key ((x1 * (4 : Int32)) + (t_keys x1.toNatClampNeg)).toNatClampNeg x2), zaD K q_t_sum 12 (vf_upd t_sum ((x1 * (4 : Int32)) + (t_keys x1.toNatClampNeg)).toNatClampNeg (FP.dadd FP.dconst0 x3)), zaD K q_t_least 12 (vf_upd t_least ((x1 * (4 : Int32)) + (t_keys x1.toNatClampNeg)).toNatClampNeg x3), zaD K q_t_greatest 12 t_greatest, zaI K q_t_count 12 t_count, zaI K q_t_bins 96 t_bins]) C 4 1 rfl rfl hS81.1 rfl d_Mo_gather_165 ?_
          have hS83 := hS81.2
          refine z_iload C d_Mo_gather_166 2 rfl ?_
          refine z_if_ne (tgt := 183) C d_Mo_gather_168 (by decide) (fun c84 => ?_) (fun c84 => absurd c84 (by decide))
          refine z_aload_n C d_Mo_gather_183 rfl 3 rfl ?_
          refine z_get C 0 rfl rfl in_Mo 27 (by decide) rfl wf_Mo_93 rfl d_Mo_gather_184 ?_
          refine z_iload C d_Mo_gather_187 1 rfl ?_
          refine z_dload_n C d_Mo_gather_189 rfl 6 rfl ?_
          refine z_dast (ws' := [zo 6 q_t [.ref q_t_text, .ref q_t_code, .ref q_t_site, .ref q_t_condition, .ref q_t_actions, .ref q_t_kind, .ref q_t_target, .ref q_t_first, .ref q_t_second, .ref q_t_failures, .ref q_t_met, .ref q_t_there, .ref q_t_on, .ref q_t_compared, .ref q_t_globals, .ref q_t_own, .ref q_t_records, .ref q_t_pile, .ref q_t_handed, .ref q_t_keys, .ref q_t_key, .ref q_t_count, .ref q_t_bins, .ref q_t_operator, .ref q_t_starts, .ref q_t_sum, .ref q_t_least, .ref q_t_greatest, .int t_newSite, .int t_newCondition, .int t_newActions, .int t_size, .int t_place, .int t_pos, .int t_at, .int t_operators, .int t_recorded, .int t_lost, .int t_dropped, .int t_firings, .int t_time, .int t_thread, .int t_thrown, .int t_failed], zaI K q_t_keys 3 (upd t_keys x1.toNatClampNeg ((t_keys x1.toNatClampNeg) + (1 : Int32))), zaI K q_t_key 12 (upd t_key ((x1 * (4 : Int32)) + (t_keys x1.toNatClampNeg)).toNatClampNeg x2), zaD K q_t_sum 12 (vf_upd t_sum ((x1 * (4 : Int32)) + (t_keys x1.toNatClampNeg)).toNatClampNeg (FP.dadd FP.dconst0 x3)), zaD K q_t_least 12 (vf_upd t_least ((x1 * (4 : Int32)) + (t_keys x1.toNatClampNeg)).toNatClampNeg x3), zaD K q_t_greatest 12 (vf_upd t_greatest ((x1 * (4 : Int32)) + (t_keys x1.toNatClampNeg)).toNatClampNeg x3), zaI K q_t_count 12 t_count, zaI K q_t_bins 96 t_bins]) C 5 1 rfl rfl hS83.1 rfl d_Mo_gather_190 ?_
          have hS85 := hS83.2
          refine z_aload_n C d_Mo_gather_191 rfl 3 rfl ?_
          refine z_get C 0 rfl rfl in_Mo 21 (by decide) rfl wf_Mo_75 rfl d_Mo_gather_192 ?_
          refine z_iload C d_Mo_gather_195 1 rfl ?_
          refine z_dup2_11 C d_Mo_gather_197 rfl rfl ?_
          refine z_iald C 6 0 rfl rfl hS85.1 d_Mo_gather_198 ?_
          have hS86 := hS85.2
          refine z_iconst (v := (1 : Int32)) C d_Mo_gather_199 (by decide) ?_
          refine z_iadd C d_Mo_gather_200 ?_
          refine z_iast (ws' := [zo 6 q_t [.ref q_t_text, .ref q_t_code, .ref q_t_site, .ref q_t_condition, .ref q_t_actions, .ref q_t_kind, .ref q_t_target, .ref q_t_first, .ref q_t_second, .ref q_t_failures, .ref q_t_met, .ref q_t_there, .ref q_t_on, .ref q_t_compared, .ref q_t_globals, .ref q_t_own, .ref q_t_records, .ref q_t_pile, .ref q_t_handed, .ref q_t_keys, .ref q_t_key, .ref q_t_count, .ref q_t_bins, .ref q_t_operator, .ref q_t_starts, .ref q_t_sum, .ref q_t_least, .ref q_t_greatest, .int t_newSite, .int t_newCondition, .int t_newActions, .int t_size, .int t_place, .int t_pos, .int t_at, .int t_operators, .int t_recorded, .int t_lost, .int t_dropped, .int t_firings, .int t_time, .int t_thread, .int t_thrown, .int t_failed], zaI K q_t_keys 3 (upd t_keys x1.toNatClampNeg ((t_keys x1.toNatClampNeg) + (1 : Int32))), zaI K q_t_key 12 (upd t_key ((x1 * (4 : Int32)) + (t_keys x1.toNatClampNeg)).toNatClampNeg x2), zaD K q_t_sum 12 (vf_upd t_sum ((x1 * (4 : Int32)) + (t_keys x1.toNatClampNeg)).toNatClampNeg (FP.dadd FP.dconst0 x3)), zaD K q_t_least 12 (vf_upd t_least ((x1 * (4 : Int32)) + (t_keys x1.toNatClampNeg)).toNatClampNeg x3), zaD K q_t_greatest 12 (vf_upd t_greatest ((x1 * (4 : Int32)) + (t_keys x1.toNatClampNeg)).toNatClampNeg x3), zaI K q_t_count 12 (upd t_count ((x1 * (4 : Int32)) + (t_keys x1.toNatClampNeg)).toNatClampNeg ((t_count ((x1 * (4 : Int32)) + (t_keys x1.toNatClampNeg)).toNatClampNeg) + (1 : Int32))), zaI K q_t_bins 96 t_bins]) C 6 0 rfl rfl hS86.1 rfl d_Mo_gather_201 ?_
          have hS87 := hS86.2
          refine z_aload_n C d_Mo_gather_202 rfl 3 rfl ?_
          refine z_get C 0 rfl rfl in_Mo 22 (by decide) rfl wf_Mo_78 rfl d_Mo_gather_203 ?_
          refine z_iload C d_Mo_gather_206 1 rfl ?_
          refine z_bipush (v := (8 : Int32)) C d_Mo_gather_208 (by decide) ?_
          refine z_imul C d_Mo_gather_210 ?_
          refine z_dload_n C d_Mo_gather_211 rfl 6 rfl ?_
          refine z_callSi (As := [.double x3]) (st := [.int (((x1 * (4 : Int32)) + (t_keys x1.toNatClampNeg)) * (8 : Int32)), .ref q_t_bins]) (wr := [zo 6 q_t [.ref q_t_text, .ref q_t_code, .ref q_t_site, .ref q_t_condition, .ref q_t_actions, .ref q_t_kind, .ref q_t_target, .ref q_t_first, .ref q_t_second, .ref q_t_failures, .ref q_t_met, .ref q_t_there, .ref q_t_on, .ref q_t_compared, .ref q_t_globals, .ref q_t_own, .ref q_t_records, .ref q_t_pile, .ref q_t_handed, .ref q_t_keys, .ref q_t_key, .ref q_t_count, .ref q_t_bins, .ref q_t_operator, .ref q_t_starts, .ref q_t_sum, .ref q_t_least, .ref q_t_greatest, .int t_newSite, .int t_newCondition, .int t_newActions, .int t_size, .int t_place, .int t_pos, .int t_at, .int t_operators, .int t_recorded, .int t_lost, .int t_dropped, .int t_firings, .int t_time, .int t_thread, .int t_thrown, .int t_failed], zaI K q_t_keys 3 (upd t_keys x1.toNatClampNeg ((t_keys x1.toNatClampNeg) + (1 : Int32))), zaI K q_t_key 12 (upd t_key ((x1 * (4 : Int32)) + (t_keys x1.toNatClampNeg)).toNatClampNeg x2), zaD K q_t_sum 12 (vf_upd t_sum ((x1 * (4 : Int32)) + (t_keys x1.toNatClampNeg)).toNatClampNeg (FP.dadd FP.dconst0 x3)), zaD K q_t_least 12 (vf_upd t_least ((x1 * (4 : Int32)) + (t_keys x1.toNatClampNeg)).toNatClampNeg x3), zaD K q_t_greatest 12 (vf_upd t_greatest ((x1 * (4 : Int32)) + (t_keys x1.toNatClampNeg)).toNatClampNeg x3), zaI K q_t_count 12 (upd t_count ((x1 * (4 : Int32)) + (t_keys x1.toNatClampNeg)).toNatClampNeg ((t_count ((x1 * (4 : Int32)) + (t_keys x1.toNatClampNeg)).toNatClampNeg) + (1 : Int32))), zaI K q_t_bins 96 t_bins]) (wj := fun u => [zo 6 q_t [.ref q_t_text, .ref q_t_code, .ref q_t_site, .ref q_t_condition, .ref q_t_actions, .ref q_t_kind, .ref q_t_target, .ref q_t_first, .ref q_t_second, .ref q_t_failures, .ref q_t_met, .ref q_t_there, .ref q_t_on, .ref q_t_compared, .ref q_t_globals, .ref q_t_own, .ref q_t_records, .ref q_t_pile, .ref q_t_handed, .ref q_t_keys, .ref q_t_key, .ref q_t_count, .ref q_t_bins, .ref q_t_operator, .ref q_t_starts, .ref q_t_sum, .ref q_t_least, .ref q_t_greatest, .int t_newSite, .int t_newCondition, .int t_newActions, .int t_size, .int t_place, .int t_pos, .int t_at, .int t_operators, .int t_recorded, .int t_lost, .int t_dropped, .int t_firings, .int t_time, .int t_thread, .int t_thrown, .int t_failed], zaI K q_t_keys 3 (upd t_keys x1.toNatClampNeg ((t_keys x1.toNatClampNeg) + (1 : Int32))), zaI K q_t_key 12 (upd t_key ((x1 * (4 : Int32)) + (t_keys x1.toNatClampNeg)).toNatClampNeg x2), zaD K q_t_sum 12 (vf_upd t_sum ((x1 * (4 : Int32)) + (t_keys x1.toNatClampNeg)).toNatClampNeg (FP.dadd FP.dconst0 x3)), zaD K q_t_least 12 (vf_upd t_least ((x1 * (4 : Int32)) + (t_keys x1.toNatClampNeg)).toNatClampNeg x3), zaD K q_t_greatest 12 (vf_upd t_greatest ((x1 * (4 : Int32)) + (t_keys x1.toNatClampNeg)).toNatClampNeg x3), zaI K q_t_count 12 (upd t_count ((x1 * (4 : Int32)) + (t_keys x1.toNatClampNeg)).toNatClampNeg ((t_count ((x1 * (4 : Int32)) + (t_keys x1.toNatClampNeg)).toNatClampNeg) + (1 : Int32))), zaI K q_t_bins 96 t_bins]) C (c_Mo_binOf l D K x3 hS87.1) (cwS 1 C.2.2.2.2.1 (z_gS wl_Mo_198 ws_Mo_binOf wz_Mo wk_Mo_binOf) rfl rfl rfl (by decide +kernel) ⟨Nat.le_of_ble_eq_true rfl, Nat.le_of_ble_eq_true rfl⟩) [] [0, 1, 2, 3, 4, 5, 6, 7] [0, 1, 2, 3, 4, 5, 6, 7] rfl rfl rfl rfl (by decide) (fun _ => rfl) rfl rfl rfl (Nat.le_of_ble_eq_true rfl) d_Mo_gather_212 ⟨Nat.le_of_ble_eq_true rfl, Nat.le_of_ble_eq_true rfl⟩ (fun r88 u89 e90 => ?_)
          have hS91 := hS87.2 r88 e90
          refine z_iadd C d_Mo_gather_215 ?_
          refine z_dup2_11 C d_Mo_gather_216 rfl rfl ?_
          refine z_iald C 7 0 rfl rfl hS91.1 d_Mo_gather_217 ?_
          have hS92 := hS91.2
          refine z_iconst (v := (1 : Int32)) C d_Mo_gather_218 (by decide) ?_
          refine z_iadd C d_Mo_gather_219 ?_
          refine z_iast (ws' := [zo 6 q_t [.ref q_t_text, .ref q_t_code, .ref q_t_site, .ref q_t_condition, .ref q_t_actions, .ref q_t_kind, .ref q_t_target, .ref q_t_first, .ref q_t_second, .ref q_t_failures, .ref q_t_met, .ref q_t_there, .ref q_t_on, .ref q_t_compared, .ref q_t_globals, .ref q_t_own, .ref q_t_records, .ref q_t_pile, .ref q_t_handed, .ref q_t_keys, .ref q_t_key, .ref q_t_count, .ref q_t_bins, .ref q_t_operator, .ref q_t_starts, .ref q_t_sum, .ref q_t_least, .ref q_t_greatest, .int t_newSite, .int t_newCondition, .int t_newActions, .int t_size, .int t_place, .int t_pos, .int t_at, .int t_operators, .int t_recorded, .int t_lost, .int t_dropped, .int t_firings, .int t_time, .int t_thread, .int t_thrown, .int t_failed], zaI K q_t_keys 3 (upd t_keys x1.toNatClampNeg ((t_keys x1.toNatClampNeg) + (1 : Int32))), zaI K q_t_key 12 (upd t_key ((x1 * (4 : Int32)) + (t_keys x1.toNatClampNeg)).toNatClampNeg x2), zaD K q_t_sum 12 (vf_upd t_sum ((x1 * (4 : Int32)) + (t_keys x1.toNatClampNeg)).toNatClampNeg (FP.dadd FP.dconst0 x3)), zaD K q_t_least 12 (vf_upd t_least ((x1 * (4 : Int32)) + (t_keys x1.toNatClampNeg)).toNatClampNeg x3), zaD K q_t_greatest 12 (vf_upd t_greatest ((x1 * (4 : Int32)) + (t_keys x1.toNatClampNeg)).toNatClampNeg x3), zaI K q_t_count 12 (upd t_count ((x1 * (4 : Int32)) + (t_keys x1.toNatClampNeg)).toNatClampNeg ((t_count ((x1 * (4 : Int32)) + (t_keys x1.toNatClampNeg)).toNatClampNeg) + (1 : Int32))), zaI K q_t_bins 96 (upd t_bins ((((x1 * (4 : Int32)) + (t_keys x1.toNatClampNeg)) * (8 : Int32)) + r88).toNatClampNeg ((t_bins ((((x1 * (4 : Int32)) + (t_keys x1.toNatClampNeg)) * (8 : Int32)) + r88).toNatClampNeg) + (1 : Int32)))]) C 7 0 rfl rfl hS92.1 rfl d_Mo_gather_220 ?_
          have hS93 := hS92.2
          exact z_vret C hr hlk (t_dropped, t_failed, upd t_keys x1.toNatClampNeg ((t_keys x1.toNatClampNeg) + (1 : Int32)), upd t_key ((x1 * (4 : Int32)) + (t_keys x1.toNatClampNeg)).toNatClampNeg x2, vf_upd t_sum ((x1 * (4 : Int32)) + (t_keys x1.toNatClampNeg)).toNatClampNeg (FP.dadd FP.dconst0 x3), vf_upd t_least ((x1 * (4 : Int32)) + (t_keys x1.toNatClampNeg)).toNatClampNeg x3, vf_upd t_greatest ((x1 * (4 : Int32)) + (t_keys x1.toNatClampNeg)).toNatClampNeg x3, upd t_count ((x1 * (4 : Int32)) + (t_keys x1.toNatClampNeg)).toNatClampNeg ((t_count ((x1 * (4 : Int32)) + (t_keys x1.toNatClampNeg)).toNatClampNeg) + (1 : Int32)), upd t_bins ((((x1 * (4 : Int32)) + (t_keys x1.toNatClampNeg)) * (8 : Int32)) + r88).toNatClampNeg ((t_bins ((((x1 * (4 : Int32)) + (t_keys x1.toNatClampNeg)) * (8 : Int32)) + r88).toNatClampNeg) + (1 : Int32))) rfl hS93 d_Mo_gather_221
        · have hS76 := hS74.2 c75
          refine z_aload_n C d_Mo_gather_103 rfl 3 rfl ?_
          refine z_iconst (v := (1 : Int32)) C d_Mo_gather_104 (by decide) ?_
          refine z_put (ty := .boolean) (ws' := [zo 6 q_t [.ref q_t_text, .ref q_t_code, .ref q_t_site, .ref q_t_condition, .ref q_t_actions, .ref q_t_kind, .ref q_t_target, .ref q_t_first, .ref q_t_second, .ref q_t_failures, .ref q_t_met, .ref q_t_there, .ref q_t_on, .ref q_t_compared, .ref q_t_globals, .ref q_t_own, .ref q_t_records, .ref q_t_pile, .ref q_t_handed, .ref q_t_keys, .ref q_t_key, .ref q_t_count, .ref q_t_bins, .ref q_t_operator, .ref q_t_starts, .ref q_t_sum, .ref q_t_least, .ref q_t_greatest, .int t_newSite, .int t_newCondition, .int t_newActions, .int t_size, .int t_place, .int t_pos, .int t_at, .int t_operators, .int t_recorded, .int t_lost, .int t_dropped, .int t_firings, .int t_time, .int t_thread, .int t_thrown, .int (1 : Int32)], zaI K q_t_keys 3 t_keys, zaI K q_t_key 12 t_key, zaD K q_t_sum 12 t_sum, zaD K q_t_least 12 t_least, zaD K q_t_greatest 12 t_greatest, zaI K q_t_count 12 t_count, zaI K q_t_bins 96 t_bins]) C ty_Mo to_Mo nm_Mo 0 rfl rfl in_Mo 43 (by decide) rfl wf_Mo_173 rfl rfl rfl rfl (Nat.le_of_ble_eq_true rfl) rfl d_Mo_gather_105 ?_
          exact z_vret C hr hlk (t_dropped, (1 : Int32), t_keys, t_key, t_sum, t_least, t_greatest, t_count, t_bins) rfl hS76 d_Mo_gather_108
    · have hS67 := hS65.2 c66
      refine z_aload_n C d_Mo_gather_23 rfl 1 rfl ?_
      refine z_dup C d_Mo_gather_24 rfl ?_
      refine z_get C 0 rfl rfl in_Mo 38 (by decide) rfl wf_Mo_195 rfl d_Mo_gather_25 ?_
      refine z_iconst (v := (1 : Int32)) C d_Mo_gather_28 (by decide) ?_
      refine z_iadd C d_Mo_gather_29 ?_
      refine z_put (ty := .int) (ws' := [zo 6 q_t [.ref q_t_text, .ref q_t_code, .ref q_t_site, .ref q_t_condition, .ref q_t_actions, .ref q_t_kind, .ref q_t_target, .ref q_t_first, .ref q_t_second, .ref q_t_failures, .ref q_t_met, .ref q_t_there, .ref q_t_on, .ref q_t_compared, .ref q_t_globals, .ref q_t_own, .ref q_t_records, .ref q_t_pile, .ref q_t_handed, .ref q_t_keys, .ref q_t_key, .ref q_t_count, .ref q_t_bins, .ref q_t_operator, .ref q_t_starts, .ref q_t_sum, .ref q_t_least, .ref q_t_greatest, .int t_newSite, .int t_newCondition, .int t_newActions, .int t_size, .int t_place, .int t_pos, .int t_at, .int t_operators, .int t_recorded, .int t_lost, .int (t_dropped + (1 : Int32)), .int t_firings, .int t_time, .int t_thread, .int t_thrown, .int t_failed], zaI K q_t_keys 3 t_keys, zaI K q_t_key 12 t_key, zaD K q_t_sum 12 t_sum, zaD K q_t_least 12 t_least, zaD K q_t_greatest 12 t_greatest, zaI K q_t_count 12 t_count, zaI K q_t_bins 96 t_bins]) C ty_Mo to_Mo nm_Mo 0 rfl rfl in_Mo 38 (by decide) rfl wf_Mo_195 rfl rfl rfl rfl (Nat.le_of_ble_eq_true rfl) rfl d_Mo_gather_30 ?_
      exact z_vret C hr hlk (t_dropped + (1 : Int32), t_failed, t_keys, t_key, t_sum, t_least, t_greatest, t_count, t_bins) rfl hS67 d_Mo_gather_33
def s_Mo_gather (t_dropped : Int32) (t_failed : Int32) (t_keys : Nat → Int32) (t_key : Nat → Int32) (t_sum : Nat → UInt64) (t_least : Nat → UInt64) (t_greatest : Nat → UInt64) (t_count : Nat → Int32) (t_bins : Nat → Int32) (x1 : Int32) (x2 : Int32) (x3 : UInt64) : Int32 × Int32 × (Nat → Int32) × (Nat → Int32) × (Nat → UInt64) × (Nat → UInt64) × (Nat → UInt64) × (Nat → Int32) × (Nat → Int32) := (zl1 (s_Mo_find t_keys t_key x1 x2) fun r1 => (if 0 ≤ r1 then (if 0 < (Op.cmpValue (FP.dcmp (FP.dadd (t_sum r1.toNatClampNeg) x3) (4741671816366391296 : UInt64)) .l) then (t_dropped, (1 : Int32), t_keys, t_key, t_sum, t_least, t_greatest, t_count, t_bins) else (if 0 ≤ (Op.cmpValue (FP.dcmp (FP.dadd (t_sum r1.toNatClampNeg) x3) (13965043853221167104 : UInt64)) .g) then (if 0 ≤ (Op.cmpValue (FP.dcmp x3 (t_least r1.toNatClampNeg)) .g) then (if (Op.cmpValue (FP.dcmp x3 (t_greatest r1.toNatClampNeg)) .l) ≤ 0 then (zl1 (s_Mo_binOf x3) fun r28 => (t_dropped, t_failed, t_keys, t_key, vf_upd t_sum r1.toNatClampNeg (FP.dadd (t_sum r1.toNatClampNeg) x3), t_least, t_greatest, upd t_count r1.toNatClampNeg ((t_count r1.toNatClampNeg) + (1 : Int32)), upd t_bins ((r1 * (8 : Int32)) + r28).toNatClampNeg ((t_bins ((r1 * (8 : Int32)) + r28).toNatClampNeg) + (1 : Int32)))) else (zl1 (s_Mo_binOf x3) fun r37 => (t_dropped, t_failed, t_keys, t_key, vf_upd t_sum r1.toNatClampNeg (FP.dadd (t_sum r1.toNatClampNeg) x3), t_least, vf_upd t_greatest r1.toNatClampNeg x3, upd t_count r1.toNatClampNeg ((t_count r1.toNatClampNeg) + (1 : Int32)), upd t_bins ((r1 * (8 : Int32)) + r37).toNatClampNeg ((t_bins ((r1 * (8 : Int32)) + r37).toNatClampNeg) + (1 : Int32))))) else (if (Op.cmpValue (FP.dcmp x3 (t_greatest r1.toNatClampNeg)) .l) ≤ 0 then (zl1 (s_Mo_binOf x3) fun r50 => (t_dropped, t_failed, t_keys, t_key, vf_upd t_sum r1.toNatClampNeg (FP.dadd (t_sum r1.toNatClampNeg) x3), vf_upd t_least r1.toNatClampNeg x3, t_greatest, upd t_count r1.toNatClampNeg ((t_count r1.toNatClampNeg) + (1 : Int32)), upd t_bins ((r1 * (8 : Int32)) + r50).toNatClampNeg ((t_bins ((r1 * (8 : Int32)) + r50).toNatClampNeg) + (1 : Int32)))) else (zl1 (s_Mo_binOf x3) fun r59 => (t_dropped, t_failed, t_keys, t_key, vf_upd t_sum r1.toNatClampNeg (FP.dadd (t_sum r1.toNatClampNeg) x3), vf_upd t_least r1.toNatClampNeg x3, vf_upd t_greatest r1.toNatClampNeg x3, upd t_count r1.toNatClampNeg ((t_count r1.toNatClampNeg) + (1 : Int32)), upd t_bins ((r1 * (8 : Int32)) + r59).toNatClampNeg ((t_bins ((r1 * (8 : Int32)) + r59).toNatClampNeg) + (1 : Int32)))))) else (t_dropped, (1 : Int32), t_keys, t_key, t_sum, t_least, t_greatest, t_count, t_bins))) else (if (t_keys x1.toNatClampNeg) = (4 : Int32) then (t_dropped + (1 : Int32), t_failed, t_keys, t_key, t_sum, t_least, t_greatest, t_count, t_bins) else (if 0 < (Op.cmpValue (FP.dcmp (FP.dadd FP.dconst0 x3) (4741671816366391296 : UInt64)) .l) then (t_dropped, (1 : Int32), t_keys, t_key, t_sum, t_least, t_greatest, t_count, t_bins) else (if 0 ≤ (Op.cmpValue (FP.dcmp (FP.dadd FP.dconst0 x3) (13965043853221167104 : UInt64)) .g) then (zl1 (s_Mo_binOf x3) fun r88 => (t_dropped, t_failed, upd t_keys x1.toNatClampNeg ((t_keys x1.toNatClampNeg) + (1 : Int32)), upd t_key ((x1 * (4 : Int32)) + (t_keys x1.toNatClampNeg)).toNatClampNeg x2, vf_upd t_sum ((x1 * (4 : Int32)) + (t_keys x1.toNatClampNeg)).toNatClampNeg (FP.dadd FP.dconst0 x3), vf_upd t_least ((x1 * (4 : Int32)) + (t_keys x1.toNatClampNeg)).toNatClampNeg x3, vf_upd t_greatest ((x1 * (4 : Int32)) + (t_keys x1.toNatClampNeg)).toNatClampNeg x3, upd t_count ((x1 * (4 : Int32)) + (t_keys x1.toNatClampNeg)).toNatClampNeg ((t_count ((x1 * (4 : Int32)) + (t_keys x1.toNatClampNeg)).toNatClampNeg) + (1 : Int32)), upd t_bins ((((x1 * (4 : Int32)) + (t_keys x1.toNatClampNeg)) * (8 : Int32)) + r88).toNatClampNeg ((t_bins ((((x1 * (4 : Int32)) + (t_keys x1.toNatClampNeg)) * (8 : Int32)) + r88).toNatClampNeg) + (1 : Int32)))) else (t_dropped, (1 : Int32), t_keys, t_key, t_sum, t_least, t_greatest, t_count, t_bins))))))
def p_Mo_gather (t_dropped : Int32) (t_failed : Int32) (t_keys : Nat → Int32) (t_key : Nat → Int32) (t_sum : Nat → UInt64) (t_least : Nat → UInt64) (t_greatest : Nat → UInt64) (t_count : Nat → Int32) (t_bins : Nat → Int32) (x1 : Int32) (x2 : Int32) (x3 : UInt64) : Prop := WP_Mo_gather t_dropped t_failed t_keys t_key t_sum t_least t_greatest t_count t_bins x1 x2 x3 (fun _ => True)
set_option maxRecDepth 100000 in
theorem v_Mo_gather (t_dropped : Int32) (t_failed : Int32) (t_keys : Nat → Int32) (t_key : Nat → Int32) (t_sum : Nat → UInt64) (t_least : Nat → UInt64) (t_greatest : Nat → UInt64) (t_count : Nat → Int32) (t_bins : Nat → Int32) (x1 : Int32) (x2 : Int32) (x3 : UInt64) (hp : p_Mo_gather t_dropped t_failed t_keys t_key t_sum t_least t_greatest t_count t_bins x1 x2 x3) : WP_Mo_gather t_dropped t_failed t_keys t_key t_sum t_least t_greatest t_count t_bins x1 x2 x3 (fun u => s_Mo_gather t_dropped t_failed t_keys t_key t_sum t_least t_greatest t_count t_bins x1 x2 x3 = u) := by
  unfold p_Mo_gather WP_Mo_gather at hp
  obtain ⟨tgt, f0⟩ : ∃ tgt, s_Mo_gather t_dropped t_failed t_keys t_key t_sum t_least t_greatest t_count t_bins x1 x2 x3 = tgt := ⟨_, rfl⟩
  rw [f0]
  unfold s_Mo_gather at f0
  unfold WP_Mo_gather
  refine ⟨hp.1, ?_⟩
  have g2 := hp.2
  intro r1 e3
  have g1 := g2 r1 e3
  have f1 := Eq.trans (Eq.symm (zl1_eq e3)) f0
  refine ⟨fun c5 => ?_, fun c5 => ?_⟩
  · have f3 := Eq.trans (Eq.symm (if_pos c5)) f1
    have g3 := g1.1 c5
    refine ⟨g3.1, ?_⟩
    have g4 := g3.2
    refine ⟨g4.1, ?_⟩
    have g5 := g4.2
    refine ⟨fun c12 => ?_, fun c12 => ?_⟩
    · have f6 := Eq.trans (Eq.symm (if_pos c12)) f3
      have g6 := g5.1 c12
      exact f6.symm
    · have f6 := Eq.trans (Eq.symm (if_neg c12)) f3
      have g6 := g5.2 c12
      refine ⟨fun c14 => ?_, fun c14 => ?_⟩
      · have f7 := Eq.trans (Eq.symm (if_pos c14)) f6
        have g7 := g6.1 c14
        refine ⟨g7.1, ?_⟩
        have g8 := g7.2
        refine ⟨g8.1, ?_⟩
        have g9 := g8.2
        refine ⟨fun c20 => ?_, fun c20 => ?_⟩
        · have f10 := Eq.trans (Eq.symm (if_pos c20)) f7
          have g10 := g9.1 c20
          refine ⟨g10.1, ?_⟩
          have g11 := g10.2
          refine ⟨fun c24 => ?_, fun c24 => ?_⟩
          · have f12 := Eq.trans (Eq.symm (if_pos c24)) f10
            have g12 := g11.1 c24
            refine ⟨g12.1, ?_⟩
            have g13 := g12.2
            refine ⟨g13.1, ?_⟩
            have g14 := g13.2
            refine ⟨g14.1, ?_⟩
            have g16 := g14.2
            intro r28 e30
            have g15 := g16 r28 e30
            have f15 := Eq.trans (Eq.symm (zl1_eq e30)) f12
            refine ⟨g15.1, ?_⟩
            have g17 := g15.2
            refine ⟨g17.1, ?_⟩
            have g18 := g17.2
            exact f15.symm
          · have f12 := Eq.trans (Eq.symm (if_neg c24)) f10
            have g12 := g11.2 c24
            refine ⟨g12.1, ?_⟩
            have g19 := g12.2
            refine ⟨g19.1, ?_⟩
            have g20 := g19.2
            refine ⟨g20.1, ?_⟩
            have g21 := g20.2
            refine ⟨g21.1, ?_⟩
            have g23 := g21.2
            intro r37 e39
            have g22 := g23 r37 e39
            have f22 := Eq.trans (Eq.symm (zl1_eq e39)) f12
            refine ⟨g22.1, ?_⟩
            have g24 := g22.2
            refine ⟨g24.1, ?_⟩
            have g25 := g24.2
            exact f22.symm
        · have f10 := Eq.trans (Eq.symm (if_neg c20)) f7
          have g10 := g9.2 c20
          refine ⟨g10.1, ?_⟩
          have g26 := g10.2
          refine ⟨g26.1, ?_⟩
          have g27 := g26.2
          refine ⟨fun c46 => ?_, fun c46 => ?_⟩
          · have f28 := Eq.trans (Eq.symm (if_pos c46)) f10
            have g28 := g27.1 c46
            refine ⟨g28.1, ?_⟩
            have g29 := g28.2
            refine ⟨g29.1, ?_⟩
            have g30 := g29.2
            refine ⟨g30.1, ?_⟩
            have g32 := g30.2
            intro r50 e52
            have g31 := g32 r50 e52
            have f31 := Eq.trans (Eq.symm (zl1_eq e52)) f28
            refine ⟨g31.1, ?_⟩
            have g33 := g31.2
            refine ⟨g33.1, ?_⟩
            have g34 := g33.2
            exact f31.symm
          · have f28 := Eq.trans (Eq.symm (if_neg c46)) f10
            have g28 := g27.2 c46
            refine ⟨g28.1, ?_⟩
            have g35 := g28.2
            refine ⟨g35.1, ?_⟩
            have g36 := g35.2
            refine ⟨g36.1, ?_⟩
            have g37 := g36.2
            refine ⟨g37.1, ?_⟩
            have g39 := g37.2
            intro r59 e61
            have g38 := g39 r59 e61
            have f38 := Eq.trans (Eq.symm (zl1_eq e61)) f28
            refine ⟨g38.1, ?_⟩
            have g40 := g38.2
            refine ⟨g40.1, ?_⟩
            have g41 := g40.2
            exact f38.symm
      · have f7 := Eq.trans (Eq.symm (if_neg c14)) f6
        have g7 := g6.2 c14
        exact f7.symm
  · have f3 := Eq.trans (Eq.symm (if_neg c5)) f1
    have g3 := g1.2 c5
    refine ⟨g3.1, ?_⟩
    have g42 := g3.2
    refine ⟨fun c66 => ?_, fun c66 => ?_⟩
    · have f43 := Eq.trans (Eq.symm (if_neg c66)) f3
      have g43 := g42.1 c66
      refine ⟨g43.1, ?_⟩
      have g44 := g43.2
      refine ⟨g44.1, ?_⟩
      have g45 := g44.2
      refine ⟨fun c73 => ?_, fun c73 => ?_⟩
      · have f46 := Eq.trans (Eq.symm (if_pos c73)) f43
        have g46 := g45.1 c73
        exact f46.symm
      · have f46 := Eq.trans (Eq.symm (if_neg c73)) f43
        have g46 := g45.2 c73
        refine ⟨fun c75 => ?_, fun c75 => ?_⟩
        · have f47 := Eq.trans (Eq.symm (if_pos c75)) f46
          have g47 := g46.1 c75
          refine ⟨g47.1, ?_⟩
          have g48 := g47.2
          refine ⟨g48.1, ?_⟩
          have g49 := g48.2
          refine ⟨g49.1, ?_⟩
          have g50 := g49.2
          refine ⟨g50.1, ?_⟩
          have g51 := g50.2
          refine ⟨g51.1, ?_⟩
          have g52 := g51.2
          refine ⟨g52.1, ?_⟩
          have g53 := g52.2
          refine ⟨g53.1, ?_⟩
          have g54 := g53.2
          refine ⟨g54.1, ?_⟩
          have g55 := g54.2
          refine ⟨g55.1, ?_⟩
          have g57 := g55.2
          intro r88 e90
          have g56 := g57 r88 e90
          have f56 := Eq.trans (Eq.symm (zl1_eq e90)) f47
          refine ⟨g56.1, ?_⟩
          have g58 := g56.2
          refine ⟨g58.1, ?_⟩
          have g59 := g58.2
          exact f56.symm
        · have f47 := Eq.trans (Eq.symm (if_neg c75)) f46
          have g47 := g46.2 c75
          exact f47.symm
    · have f43 := Eq.trans (Eq.symm (if_pos c66)) f3
      have g43 := g42.2 c66
      exact f43.symm
theorem c_Mo_gather (l : Launch) (D : va_G) (K : Nat → ClassId) (q_t : Nat) (q_t_text : Nat) (q_t_code : Nat) (q_t_site : Nat) (q_t_condition : Nat) (q_t_actions : Nat) (q_t_kind : Nat) (q_t_target : Nat) (q_t_first : Nat) (q_t_second : Nat) (q_t_failures : Nat) (q_t_met : Nat) (q_t_there : Nat) (q_t_on : Nat) (q_t_compared : Nat) (q_t_globals : Nat) (q_t_own : Nat) (q_t_records : Nat) (q_t_pile : Nat) (q_t_handed : Nat) (q_t_keys : Nat) (q_t_key : Nat) (q_t_count : Nat) (q_t_bins : Nat) (q_t_operator : Nat) (q_t_starts : Nat) (q_t_sum : Nat) (q_t_least : Nat) (q_t_greatest : Nat) (t_newSite : Int32) (t_newCondition : Int32) (t_newActions : Int32) (t_size : Int32) (t_place : Int32) (t_pos : Int32) (t_at : Int32) (t_operators : Int32) (t_recorded : Int32) (t_lost : Int32) (t_dropped : Int32) (t_firings : Int32) (t_time : Int32) (t_thread : Int32) (t_thrown : Int32) (t_failed : Int32) (t_keys : Nat → Int32) (t_key : Nat → Int32) (t_sum : Nat → UInt64) (t_least : Nat → UInt64) (t_greatest : Nat → UInt64) (t_count : Nat → Int32) (t_bins : Nat → Int32) (x1 : Int32) (x2 : Int32) (x3 : UInt64) (hp : p_Mo_gather t_dropped t_failed t_keys t_key t_sum t_least t_greatest t_count t_bins x1 x2 x3) : zCv l y_Mo_gather wy_Mo_gather rm_Mo_gather D zcl (zT K) [.ref q_t, .int x1, .int x2, .double x3] (w_Mo_gather K q_t q_t_text q_t_code q_t_site q_t_condition q_t_actions q_t_kind q_t_target q_t_first q_t_second q_t_failures q_t_met q_t_there q_t_on q_t_compared q_t_globals q_t_own q_t_records q_t_pile q_t_handed q_t_keys q_t_key q_t_count q_t_bins q_t_operator q_t_starts q_t_sum q_t_least q_t_greatest t_newSite t_newCondition t_newActions t_size t_place t_pos t_at t_operators t_recorded t_lost t_firings t_time t_thread t_thrown (t_dropped, t_failed, t_keys, t_key, t_sum, t_least, t_greatest, t_count, t_bins)) (w_Mo_gather K q_t q_t_text q_t_code q_t_site q_t_condition q_t_actions q_t_kind q_t_target q_t_first q_t_second q_t_failures q_t_met q_t_there q_t_on q_t_compared q_t_globals q_t_own q_t_records q_t_pile q_t_handed q_t_keys q_t_key q_t_count q_t_bins q_t_operator q_t_starts q_t_sum q_t_least q_t_greatest t_newSite t_newCondition t_newActions t_size t_place t_pos t_at t_operators t_recorded t_lost t_firings t_time t_thread t_thrown) (fun u => s_Mo_gather t_dropped t_failed t_keys t_key t_sum t_least t_greatest t_count t_bins x1 x2 x3 = u) 0 0 := cw_Mo_gather l D K q_t q_t_text q_t_code q_t_site q_t_condition q_t_actions q_t_kind q_t_target q_t_first q_t_second q_t_failures q_t_met q_t_there q_t_on q_t_compared q_t_globals q_t_own q_t_records q_t_pile q_t_handed q_t_keys q_t_key q_t_count q_t_bins q_t_operator q_t_starts q_t_sum q_t_least q_t_greatest t_newSite t_newCondition t_newActions t_size t_place t_pos t_at t_operators t_recorded t_lost t_dropped t_firings t_time t_thread t_thrown t_failed t_keys t_key t_sum t_least t_greatest t_count t_bins x1 x2 x3 (v_Mo_gather t_dropped t_failed t_keys t_key t_sum t_least t_greatest t_count t_bins x1 x2 x3 hp)
-- RuleTracerModel.put(D)V: reads ['t.recorded', 't.lost', 't.records'], changes ['t.recorded', 't.lost', 't.records']
abbrev w_Mo_put (K : Nat → ClassId) (q_t : Nat) (q_t_text : Nat) (q_t_code : Nat) (q_t_site : Nat) (q_t_condition : Nat) (q_t_actions : Nat) (q_t_kind : Nat) (q_t_target : Nat) (q_t_first : Nat) (q_t_second : Nat) (q_t_failures : Nat) (q_t_met : Nat) (q_t_there : Nat) (q_t_on : Nat) (q_t_compared : Nat) (q_t_globals : Nat) (q_t_own : Nat) (q_t_records : Nat) (q_t_pile : Nat) (q_t_handed : Nat) (q_t_keys : Nat) (q_t_key : Nat) (q_t_count : Nat) (q_t_bins : Nat) (q_t_operator : Nat) (q_t_starts : Nat) (q_t_sum : Nat) (q_t_least : Nat) (q_t_greatest : Nat) (t_newSite : Int32) (t_newCondition : Int32) (t_newActions : Int32) (t_size : Int32) (t_place : Int32) (t_pos : Int32) (t_at : Int32) (t_operators : Int32) (t_dropped : Int32) (t_firings : Int32) (t_time : Int32) (t_thread : Int32) (t_thrown : Int32) (t_failed : Int32) (u : Int32 × Int32 × (Nat → UInt64)) : va_W := [zo 6 q_t [.ref q_t_text, .ref q_t_code, .ref q_t_site, .ref q_t_condition, .ref q_t_actions, .ref q_t_kind, .ref q_t_target, .ref q_t_first, .ref q_t_second, .ref q_t_failures, .ref q_t_met, .ref q_t_there, .ref q_t_on, .ref q_t_compared, .ref q_t_globals, .ref q_t_own, .ref q_t_records, .ref q_t_pile, .ref q_t_handed, .ref q_t_keys, .ref q_t_key, .ref q_t_count, .ref q_t_bins, .ref q_t_operator, .ref q_t_starts, .ref q_t_sum, .ref q_t_least, .ref q_t_greatest, .int t_newSite, .int t_newCondition, .int t_newActions, .int t_size, .int t_place, .int t_pos, .int t_at, .int t_operators, .int u.1, .int u.2.1, .int t_dropped, .int t_firings, .int t_time, .int t_thread, .int t_thrown, .int t_failed], zaD K q_t_records 6 u.2.2]
abbrev rm_Mo_put : Room := { frames := 0, cells := 0, slots := 0, locals := 0 }
abbrev wy_Mo_put : List Cond := .code y_Mo_put b_Mo_put 4 none :: zWT
def WP_Mo_put_L11 : Nat → UInt64 → Int32 → Int32 → Int32 → (Nat → UInt64) → ((Int32 × Int32 × (Nat → UInt64)) → Prop) → Prop
  | 0, _, _, _, _, _, _ => False
  | n + 1, y1, y3, t_recorded, t_lost, t_records, Q => (((5 : Int32) ≤ y3) → Q ((5 : Int32) + (1 : Int32), t_lost + (1 : Int32), vf_upd t_records 5 y1)) ∧ ((¬ (5 : Int32) ≤ y3) → vp_in (y3 + (1 : Int32)) 6 ∧ vp_in y3 6 ∧ WP_Mo_put_L11 n y1 (y3 + (1 : Int32)) t_recorded t_lost (vf_upd t_records y3.toNatClampNeg (t_records (y3 + (1 : Int32)).toNatClampNeg)) Q)
def WP_Mo_put (t_recorded : Int32) (t_lost : Int32) (t_records : Nat → UInt64) (x1 : UInt64) (Q : (Int32 × Int32 × (Nat → UInt64)) → Prop) : Prop := ((¬ t_recorded = (6 : Int32)) → vp_in t_recorded 6 ∧ Q (t_recorded + (1 : Int32), t_lost, vf_upd t_records t_recorded.toNatClampNeg x1)) ∧ ((t_recorded = (6 : Int32)) → WP_Mo_put_L11 600 x1 (0 : Int32) t_recorded t_lost t_records Q)
set_option maxHeartbeats 4000000 in
set_option maxRecDepth 100000 in
theorem lw_Mo_put_L11 {p : Program} {e : Env} {s : State} {m : MethodId} {args : Array Value} {below : List Frame} {meth : Method} {c : Code} {A : Nat → Prop} (l : Launch) (D : va_G) (K : Nat → ClassId) (q_t : Nat) (q_t_text : Nat) (q_t_code : Nat) (q_t_site : Nat) (q_t_condition : Nat) (q_t_actions : Nat) (q_t_kind : Nat) (q_t_target : Nat) (q_t_first : Nat) (q_t_second : Nat) (q_t_failures : Nat) (q_t_met : Nat) (q_t_there : Nat) (q_t_on : Nat) (q_t_compared : Nat) (q_t_globals : Nat) (q_t_own : Nat) (q_t_records : Nat) (q_t_pile : Nat) (q_t_handed : Nat) (q_t_keys : Nat) (q_t_key : Nat) (q_t_count : Nat) (q_t_bins : Nat) (q_t_operator : Nat) (q_t_starts : Nat) (q_t_sum : Nat) (q_t_least : Nat) (q_t_greatest : Nat) (t_newSite : Int32) (t_newCondition : Int32) (t_newActions : Int32) (t_size : Int32) (t_place : Int32) (t_pos : Int32) (t_at : Int32) (t_operators : Int32) (t_dropped : Int32) (t_firings : Int32) (t_time : Int32) (t_thread : Int32) (t_thrown : Int32) (t_failed : Int32) {Q : (Int32 × Int32 × (Nat → UInt64)) → Prop} (C : zCx p s m args c b_Mo_put 4 R_Mo zWT D zcl (zT K) A) (hr : meth.sig.returnType = none) (hlk : meth.locks = false) : ∀ (n : Nat) (y1 : UInt64) (y3 : Int32) (t_recorded : Int32) (t_lost : Int32) (t_records : Nat → UInt64), WP_Mo_put_L11 n y1 y3 t_recorded t_lost t_records Q → zW p l e (headSpec wy_Mo_put rm_Mo_put).room s m args below meth c D zcl A 4 0 0 (MQ below (va_Qv Q (zB D zcl (zT K) (w_Mo_put K q_t q_t_text q_t_code q_t_site q_t_condition q_t_actions q_t_kind q_t_target q_t_first q_t_second q_t_failures q_t_met q_t_there q_t_on q_t_compared q_t_globals q_t_own q_t_records q_t_pile q_t_handed q_t_keys q_t_key q_t_count q_t_bins q_t_operator q_t_starts q_t_sum q_t_least q_t_greatest t_newSite t_newCondition t_newActions t_size t_place t_pos t_at t_operators t_dropped t_firings t_time t_thread t_thrown t_failed) A) A) args s 0 0 A) [(0, .ref q_t), (1, .double y1), (3, .int y3)] [zo 6 q_t [.ref q_t_text, .ref q_t_code, .ref q_t_site, .ref q_t_condition, .ref q_t_actions, .ref q_t_kind, .ref q_t_target, .ref q_t_first, .ref q_t_second, .ref q_t_failures, .ref q_t_met, .ref q_t_there, .ref q_t_on, .ref q_t_compared, .ref q_t_globals, .ref q_t_own, .ref q_t_records, .ref q_t_pile, .ref q_t_handed, .ref q_t_keys, .ref q_t_key, .ref q_t_count, .ref q_t_bins, .ref q_t_operator, .ref q_t_starts, .ref q_t_sum, .ref q_t_least, .ref q_t_greatest, .int t_newSite, .int t_newCondition, .int t_newActions, .int t_size, .int t_place, .int t_pos, .int t_at, .int t_operators, .int t_recorded, .int t_lost, .int t_dropped, .int t_firings, .int t_time, .int t_thread, .int t_thrown, .int t_failed], zaD K q_t_records 6 t_records] 11 [] := by
  intro n
  induction n with
  | zero => intros; contradiction
  | succ n ih =>
    intro y1 y3 t_recorded t_lost t_records hS0
    refine z_iload_n C d_Mo_put_11 rfl 2 rfl ?_
    refine z_iconst (v := (5 : Int32)) C d_Mo_put_12 (by decide) ?_
    refine z_icmp_ge (tgt := 36) C d_Mo_put_13 (by decide) (fun c4 => ?_) (fun c4 => ?_)
    · have hS5 := hS0.1 c4
      refine z_aload_n C d_Mo_put_36 rfl 0 rfl ?_
      refine z_iconst (v := (5 : Int32)) C d_Mo_put_37 (by decide) ?_
      refine z_put (ty := .int) (ws' := [zo 6 q_t [.ref q_t_text, .ref q_t_code, .ref q_t_site, .ref q_t_condition, .ref q_t_actions, .ref q_t_kind, .ref q_t_target, .ref q_t_first, .ref q_t_second, .ref q_t_failures, .ref q_t_met, .ref q_t_there, .ref q_t_on, .ref q_t_compared, .ref q_t_globals, .ref q_t_own, .ref q_t_records, .ref q_t_pile, .ref q_t_handed, .ref q_t_keys, .ref q_t_key, .ref q_t_count, .ref q_t_bins, .ref q_t_operator, .ref q_t_starts, .ref q_t_sum, .ref q_t_least, .ref q_t_greatest, .int t_newSite, .int t_newCondition, .int t_newActions, .int t_size, .int t_place, .int t_pos, .int t_at, .int t_operators, .int (5 : Int32), .int t_lost, .int t_dropped, .int t_firings, .int t_time, .int t_thread, .int t_thrown, .int t_failed], zaD K q_t_records 6 t_records]) C ty_Mo to_Mo nm_Mo 0 rfl rfl in_Mo 36 (by decide) rfl wf_Mo_202 rfl rfl rfl rfl (Nat.le_of_ble_eq_true rfl) rfl d_Mo_put_38 ?_
      refine z_aload_n C d_Mo_put_41 rfl 0 rfl ?_
      refine z_dup C d_Mo_put_42 rfl ?_
      refine z_get C 0 rfl rfl in_Mo 37 (by decide) rfl wf_Mo_205 rfl d_Mo_put_43 ?_
      refine z_iconst (v := (1 : Int32)) C d_Mo_put_46 (by decide) ?_
      refine z_iadd C d_Mo_put_47 ?_
      refine z_put (ty := .int) (ws' := [zo 6 q_t [.ref q_t_text, .ref q_t_code, .ref q_t_site, .ref q_t_condition, .ref q_t_actions, .ref q_t_kind, .ref q_t_target, .ref q_t_first, .ref q_t_second, .ref q_t_failures, .ref q_t_met, .ref q_t_there, .ref q_t_on, .ref q_t_compared, .ref q_t_globals, .ref q_t_own, .ref q_t_records, .ref q_t_pile, .ref q_t_handed, .ref q_t_keys, .ref q_t_key, .ref q_t_count, .ref q_t_bins, .ref q_t_operator, .ref q_t_starts, .ref q_t_sum, .ref q_t_least, .ref q_t_greatest, .int t_newSite, .int t_newCondition, .int t_newActions, .int t_size, .int t_place, .int t_pos, .int t_at, .int t_operators, .int (5 : Int32), .int (t_lost + (1 : Int32)), .int t_dropped, .int t_firings, .int t_time, .int t_thread, .int t_thrown, .int t_failed], zaD K q_t_records 6 t_records]) C ty_Mo to_Mo nm_Mo 0 rfl rfl in_Mo 37 (by decide) rfl wf_Mo_205 rfl rfl rfl rfl (Nat.le_of_ble_eq_true rfl) rfl d_Mo_put_48 ?_
      refine z_aload_n C d_Mo_put_51 rfl 0 rfl ?_
      refine z_get C 0 rfl rfl in_Mo 16 (by decide) rfl wf_Mo_60 rfl d_Mo_put_52 ?_
      refine z_aload_n C d_Mo_put_55 rfl 0 rfl ?_
      refine z_get C 0 rfl rfl in_Mo 36 (by decide) rfl wf_Mo_202 rfl d_Mo_put_56 ?_
      refine z_dload_n C d_Mo_put_59 rfl 1 rfl ?_
      refine z_dast (ws' := [zo 6 q_t [.ref q_t_text, .ref q_t_code, .ref q_t_site, .ref q_t_condition, .ref q_t_actions, .ref q_t_kind, .ref q_t_target, .ref q_t_first, .ref q_t_second, .ref q_t_failures, .ref q_t_met, .ref q_t_there, .ref q_t_on, .ref q_t_compared, .ref q_t_globals, .ref q_t_own, .ref q_t_records, .ref q_t_pile, .ref q_t_handed, .ref q_t_keys, .ref q_t_key, .ref q_t_count, .ref q_t_bins, .ref q_t_operator, .ref q_t_starts, .ref q_t_sum, .ref q_t_least, .ref q_t_greatest, .int t_newSite, .int t_newCondition, .int t_newActions, .int t_size, .int t_place, .int t_pos, .int t_at, .int t_operators, .int (5 : Int32), .int (t_lost + (1 : Int32)), .int t_dropped, .int t_firings, .int t_time, .int t_thread, .int t_thrown, .int t_failed], zaD K q_t_records 6 (vf_upd t_records 5 y1)]) C 1 1 rfl rfl (zin_c (by decide)) rfl d_Mo_put_60 ?_
      refine z_aload_n C d_Mo_put_61 rfl 0 rfl ?_
      refine z_dup C d_Mo_put_62 rfl ?_
      refine z_get C 0 rfl rfl in_Mo 36 (by decide) rfl wf_Mo_202 rfl d_Mo_put_63 ?_
      refine z_iconst (v := (1 : Int32)) C d_Mo_put_66 (by decide) ?_
      refine z_iadd C d_Mo_put_67 ?_
      refine z_put (ty := .int) (ws' := [zo 6 q_t [.ref q_t_text, .ref q_t_code, .ref q_t_site, .ref q_t_condition, .ref q_t_actions, .ref q_t_kind, .ref q_t_target, .ref q_t_first, .ref q_t_second, .ref q_t_failures, .ref q_t_met, .ref q_t_there, .ref q_t_on, .ref q_t_compared, .ref q_t_globals, .ref q_t_own, .ref q_t_records, .ref q_t_pile, .ref q_t_handed, .ref q_t_keys, .ref q_t_key, .ref q_t_count, .ref q_t_bins, .ref q_t_operator, .ref q_t_starts, .ref q_t_sum, .ref q_t_least, .ref q_t_greatest, .int t_newSite, .int t_newCondition, .int t_newActions, .int t_size, .int t_place, .int t_pos, .int t_at, .int t_operators, .int ((5 : Int32) + (1 : Int32)), .int (t_lost + (1 : Int32)), .int t_dropped, .int t_firings, .int t_time, .int t_thread, .int t_thrown, .int t_failed], zaD K q_t_records 6 (vf_upd t_records 5 y1)]) C ty_Mo to_Mo nm_Mo 0 rfl rfl in_Mo 36 (by decide) rfl wf_Mo_202 rfl rfl rfl rfl (Nat.le_of_ble_eq_true rfl) rfl d_Mo_put_68 ?_
      exact z_vret C hr hlk ((5 : Int32) + (1 : Int32), t_lost + (1 : Int32), vf_upd t_records 5 y1) rfl hS5 d_Mo_put_71
    · have hS5 := hS0.2 c4
      refine z_aload_n C d_Mo_put_16 rfl 0 rfl ?_
      refine z_get C 0 rfl rfl in_Mo 16 (by decide) rfl wf_Mo_60 rfl d_Mo_put_17 ?_
      refine z_iload_n C d_Mo_put_20 rfl 2 rfl ?_
      refine z_aload_n C d_Mo_put_21 rfl 0 rfl ?_
      refine z_get C 0 rfl rfl in_Mo 16 (by decide) rfl wf_Mo_60 rfl d_Mo_put_22 ?_
      refine z_iload_n C d_Mo_put_25 rfl 2 rfl ?_
      refine z_iconst (v := (1 : Int32)) C d_Mo_put_26 (by decide) ?_
      refine z_iadd C d_Mo_put_27 ?_
      refine z_dald C 1 1 rfl rfl hS5.1 d_Mo_put_28 ?_
      have hS6 := hS5.2
      refine z_dast (ws' := [zo 6 q_t [.ref q_t_text, .ref q_t_code, .ref q_t_site, .ref q_t_condition, .ref q_t_actions, .ref q_t_kind, .ref q_t_target, .ref q_t_first, .ref q_t_second, .ref q_t_failures, .ref q_t_met, .ref q_t_there, .ref q_t_on, .ref q_t_compared, .ref q_t_globals, .ref q_t_own, .ref q_t_records, .ref q_t_pile, .ref q_t_handed, .ref q_t_keys, .ref q_t_key, .ref q_t_count, .ref q_t_bins, .ref q_t_operator, .ref q_t_starts, .ref q_t_sum, .ref q_t_least, .ref q_t_greatest, .int t_newSite, .int t_newCondition, .int t_newActions, .int t_size, .int t_place, .int t_pos, .int t_at, .int t_operators, .int t_recorded, .int t_lost, .int t_dropped, .int t_firings, .int t_time, .int t_thread, .int t_thrown, .int t_failed], zaD K q_t_records 6 (vf_upd t_records y3.toNatClampNeg (t_records (y3 + (1 : Int32)).toNatClampNeg))]) C 1 1 rfl rfl hS6.1 rfl d_Mo_put_29 ?_
      have hS7 := hS6.2
      refine z_iinc (j := 2) (v := y3 + (1 : Int32)) (lv' := [(3, .int (y3 + (1 : Int32))), (0, .ref q_t), (1, .double y1)]) C d_Mo_put_30 rfl rfl (by decide) rfl ?_
      refine z_goto (tgt := 11) C d_Mo_put_33 (by decide) ?_
      refine z_lpick (lv' := [(0, .ref q_t), (1, .double y1), (3, .int (y3 + (1 : Int32)))]) [1, 2, 0] rfl ?_
      exact ih y1 (y3 + (1 : Int32)) t_recorded t_lost (vf_upd t_records y3.toNatClampNeg (t_records (y3 + (1 : Int32)).toNatClampNeg)) hS7
set_option maxHeartbeats 4000000 in
set_option maxRecDepth 100000 in
theorem cw_Mo_put (l : Launch) (D : va_G) (K : Nat → ClassId) (q_t : Nat) (q_t_text : Nat) (q_t_code : Nat) (q_t_site : Nat) (q_t_condition : Nat) (q_t_actions : Nat) (q_t_kind : Nat) (q_t_target : Nat) (q_t_first : Nat) (q_t_second : Nat) (q_t_failures : Nat) (q_t_met : Nat) (q_t_there : Nat) (q_t_on : Nat) (q_t_compared : Nat) (q_t_globals : Nat) (q_t_own : Nat) (q_t_records : Nat) (q_t_pile : Nat) (q_t_handed : Nat) (q_t_keys : Nat) (q_t_key : Nat) (q_t_count : Nat) (q_t_bins : Nat) (q_t_operator : Nat) (q_t_starts : Nat) (q_t_sum : Nat) (q_t_least : Nat) (q_t_greatest : Nat) (t_newSite : Int32) (t_newCondition : Int32) (t_newActions : Int32) (t_size : Int32) (t_place : Int32) (t_pos : Int32) (t_at : Int32) (t_operators : Int32) (t_recorded : Int32) (t_lost : Int32) (t_dropped : Int32) (t_firings : Int32) (t_time : Int32) (t_thread : Int32) (t_thrown : Int32) (t_failed : Int32) (t_records : Nat → UInt64) (x1 : UInt64) {Q : (Int32 × Int32 × (Nat → UInt64)) → Prop} (hS0 : WP_Mo_put t_recorded t_lost t_records x1 Q) : zCv l y_Mo_put wy_Mo_put rm_Mo_put D zcl (zT K) [.ref q_t, .double x1] (w_Mo_put K q_t q_t_text q_t_code q_t_site q_t_condition q_t_actions q_t_kind q_t_target q_t_first q_t_second q_t_failures q_t_met q_t_there q_t_on q_t_compared q_t_globals q_t_own q_t_records q_t_pile q_t_handed q_t_keys q_t_key q_t_count q_t_bins q_t_operator q_t_starts q_t_sum q_t_least q_t_greatest t_newSite t_newCondition t_newActions t_size t_place t_pos t_at t_operators t_dropped t_firings t_time t_thread t_thrown t_failed (t_recorded, t_lost, t_records)) (w_Mo_put K q_t q_t_text q_t_code q_t_site q_t_condition q_t_actions q_t_kind q_t_target q_t_first q_t_second q_t_failures q_t_met q_t_there q_t_on q_t_compared q_t_globals q_t_own q_t_records q_t_pile q_t_handed q_t_keys q_t_key q_t_count q_t_bins q_t_operator q_t_starts q_t_sum q_t_least q_t_greatest t_newSite t_newCondition t_newActions t_size t_place t_pos t_at t_operators t_dropped t_firings t_time t_thread t_thrown t_failed) Q 0 0 := by
  refine z_metv (cc := b_Mo_put) (maxL := 4) (ret := none) (by decide) rfl (Nat.le_of_ble_eq_true rfl) ?_
  intro p e s m args below meth c A C hr hlk hnm
  refine z_lpick (lv' := [(0, .ref q_t), (1, .double x1)]) [0, 1] rfl ?_
  refine z_weq (ws' := [zo 6 q_t [.ref q_t_text, .ref q_t_code, .ref q_t_site, .ref q_t_condition, .ref q_t_actions, .ref q_t_kind, .ref q_t_target, .ref q_t_first, .ref q_t_second, .ref q_t_failures, .ref q_t_met, .ref q_t_there, .ref q_t_on, .ref q_t_compared, .ref q_t_globals, .ref q_t_own, .ref q_t_records, .ref q_t_pile, .ref q_t_handed, .ref q_t_keys, .ref q_t_key, .ref q_t_count, .ref q_t_bins, .ref q_t_operator, .ref q_t_starts, .ref q_t_sum, .ref q_t_least, .ref q_t_greatest, .int t_newSite, .int t_newCondition, .int t_newActions, .int t_size, .int t_place, .int t_pos, .int t_at, .int t_operators, .int t_recorded, .int t_lost, .int t_dropped, .int t_firings, .int t_time, .int t_thread, .int t_thrown, .int t_failed], zaD K q_t_records 6 t_records]) rfl ?_
  refine z_aload_n C d_Mo_put_0 rfl 0 rfl ?_
  refine z_get C 0 rfl rfl in_Mo 36 (by decide) rfl wf_Mo_202 rfl d_Mo_put_1 ?_
  refine z_bipush (v := (6 : Int32)) C d_Mo_put_4 (by decide) ?_
  refine z_icmp_ne (tgt := 51) C d_Mo_put_6 (by decide) (fun c1 => ?_) (fun c1 => ?_)
  · have hS2 := hS0.1 c1
    refine z_aload_n C d_Mo_put_51 rfl 0 rfl ?_
    refine z_get C 0 rfl rfl in_Mo 16 (by decide) rfl wf_Mo_60 rfl d_Mo_put_52 ?_
    refine z_aload_n C d_Mo_put_55 rfl 0 rfl ?_
    refine z_get C 0 rfl rfl in_Mo 36 (by decide) rfl wf_Mo_202 rfl d_Mo_put_56 ?_
    refine z_dload_n C d_Mo_put_59 rfl 1 rfl ?_
    refine z_dast (ws' := [zo 6 q_t [.ref q_t_text, .ref q_t_code, .ref q_t_site, .ref q_t_condition, .ref q_t_actions, .ref q_t_kind, .ref q_t_target, .ref q_t_first, .ref q_t_second, .ref q_t_failures, .ref q_t_met, .ref q_t_there, .ref q_t_on, .ref q_t_compared, .ref q_t_globals, .ref q_t_own, .ref q_t_records, .ref q_t_pile, .ref q_t_handed, .ref q_t_keys, .ref q_t_key, .ref q_t_count, .ref q_t_bins, .ref q_t_operator, .ref q_t_starts, .ref q_t_sum, .ref q_t_least, .ref q_t_greatest, .int t_newSite, .int t_newCondition, .int t_newActions, .int t_size, .int t_place, .int t_pos, .int t_at, .int t_operators, .int t_recorded, .int t_lost, .int t_dropped, .int t_firings, .int t_time, .int t_thread, .int t_thrown, .int t_failed], zaD K q_t_records 6 (vf_upd t_records t_recorded.toNatClampNeg x1)]) C 1 1 rfl rfl hS2.1 rfl d_Mo_put_60 ?_
    have hS3 := hS2.2
    refine z_aload_n C d_Mo_put_61 rfl 0 rfl ?_
    refine z_dup C d_Mo_put_62 rfl ?_
    refine z_get C 0 rfl rfl in_Mo 36 (by decide) rfl wf_Mo_202 rfl d_Mo_put_63 ?_
    refine z_iconst (v := (1 : Int32)) C d_Mo_put_66 (by decide) ?_
    refine z_iadd C d_Mo_put_67 ?_
    refine z_put (ty := .int) (ws' := [zo 6 q_t [.ref q_t_text, .ref q_t_code, .ref q_t_site, .ref q_t_condition, .ref q_t_actions, .ref q_t_kind, .ref q_t_target, .ref q_t_first, .ref q_t_second, .ref q_t_failures, .ref q_t_met, .ref q_t_there, .ref q_t_on, .ref q_t_compared, .ref q_t_globals, .ref q_t_own, .ref q_t_records, .ref q_t_pile, .ref q_t_handed, .ref q_t_keys, .ref q_t_key, .ref q_t_count, .ref q_t_bins, .ref q_t_operator, .ref q_t_starts, .ref q_t_sum, .ref q_t_least, .ref q_t_greatest, .int t_newSite, .int t_newCondition, .int t_newActions, .int t_size, .int t_place, .int t_pos, .int t_at, .int t_operators, .int (t_recorded + (1 : Int32)), .int t_lost, .int t_dropped, .int t_firings, .int t_time, .int t_thread, .int t_thrown, .int t_failed], zaD K q_t_records 6 (vf_upd t_records t_recorded.toNatClampNeg x1)]) C ty_Mo to_Mo nm_Mo 0 rfl rfl in_Mo 36 (by decide) rfl wf_Mo_202 rfl rfl rfl rfl (Nat.le_of_ble_eq_true rfl) rfl d_Mo_put_68 ?_
    exact z_vret C hr hlk (t_recorded + (1 : Int32), t_lost, vf_upd t_records t_recorded.toNatClampNeg x1) rfl hS3 d_Mo_put_71
  · have hS2 := hS0.2 c1
    refine z_iconst (v := (0 : Int32)) C d_Mo_put_9 (by decide) ?_
    refine z_istore_n (lv' := [(3, .int (0 : Int32)), (0, .ref q_t), (1, .double x1)]) C d_Mo_put_10 rfl (by decide) rfl ?_
    refine z_lpick (lv' := [(0, .ref q_t), (1, .double x1), (3, .int (0 : Int32))]) [1, 2, 0] rfl ?_
    exact lw_Mo_put_L11 l D K q_t q_t_text q_t_code q_t_site q_t_condition q_t_actions q_t_kind q_t_target q_t_first q_t_second q_t_failures q_t_met q_t_there q_t_on q_t_compared q_t_globals q_t_own q_t_records q_t_pile q_t_handed q_t_keys q_t_key q_t_count q_t_bins q_t_operator q_t_starts q_t_sum q_t_least q_t_greatest t_newSite t_newCondition t_newActions t_size t_place t_pos t_at t_operators t_dropped t_firings t_time t_thread t_thrown t_failed C hr hlk 600 x1 (0 : Int32) t_recorded t_lost t_records hS2
def s_Mo_put_L11 : Nat → UInt64 → Int32 → Int32 → Int32 → (Nat → UInt64) → Int32 × Int32 × (Nat → UInt64)
  | 0, _, _, t_recorded, t_lost, t_records => (t_recorded, t_lost, t_records)
  | n + 1, y1, y3, t_recorded, t_lost, t_records => (if (5 : Int32) ≤ y3 then ((5 : Int32) + (1 : Int32), t_lost + (1 : Int32), vf_upd t_records 5 y1) else s_Mo_put_L11 n y1 (y3 + (1 : Int32)) t_recorded t_lost (vf_upd t_records y3.toNatClampNeg (t_records (y3 + (1 : Int32)).toNatClampNeg)))
def s_Mo_put (t_recorded : Int32) (t_lost : Int32) (t_records : Nat → UInt64) (x1 : UInt64) : Int32 × Int32 × (Nat → UInt64) := (if t_recorded = (6 : Int32) then s_Mo_put_L11 600 x1 (0 : Int32) t_recorded t_lost t_records else (t_recorded + (1 : Int32), t_lost, vf_upd t_records t_recorded.toNatClampNeg x1))
def p_Mo_put (t_recorded : Int32) (t_lost : Int32) (t_records : Nat → UInt64) (x1 : UInt64) : Prop := WP_Mo_put t_recorded t_lost t_records x1 (fun _ => True)
set_option maxRecDepth 100000 in
theorem v_Mo_put_L11 : ∀ (n : Nat) (y1 : UInt64) (y3 : Int32) (t_recorded : Int32) (t_lost : Int32) (t_records : Nat → UInt64) (tgt : Int32 × Int32 × (Nat → UInt64)), s_Mo_put_L11 n y1 y3 t_recorded t_lost t_records = tgt → WP_Mo_put_L11 n y1 y3 t_recorded t_lost t_records (fun _ => True) → WP_Mo_put_L11 n y1 y3 t_recorded t_lost t_records (fun u => tgt = u) := by
  intro n
  induction n with
  | zero => intros; contradiction
  | succ n ih =>
    intro y1 y3 t_recorded t_lost t_records tgt f0 hp
    unfold s_Mo_put_L11 at f0
    unfold WP_Mo_put_L11 at hp ⊢
    refine ⟨fun c4 => ?_, fun c4 => ?_⟩
    · have f1 := Eq.trans (Eq.symm (if_pos c4)) f0
      have g1 := hp.1 c4
      exact f1.symm
    · have f1 := Eq.trans (Eq.symm (if_neg c4)) f0
      have g1 := hp.2 c4
      refine ⟨g1.1, ?_⟩
      have g2 := g1.2
      refine ⟨g2.1, ?_⟩
      have g3 := g2.2
      exact ih y1 (y3 + (1 : Int32)) t_recorded t_lost (vf_upd t_records y3.toNatClampNeg (t_records (y3 + (1 : Int32)).toNatClampNeg)) _ f1 g3
set_option maxRecDepth 100000 in
theorem v_Mo_put (t_recorded : Int32) (t_lost : Int32) (t_records : Nat → UInt64) (x1 : UInt64) (hp : p_Mo_put t_recorded t_lost t_records x1) : WP_Mo_put t_recorded t_lost t_records x1 (fun u => s_Mo_put t_recorded t_lost t_records x1 = u) := by
  unfold p_Mo_put WP_Mo_put at hp
  obtain ⟨tgt, f0⟩ : ∃ tgt, s_Mo_put t_recorded t_lost t_records x1 = tgt := ⟨_, rfl⟩
  rw [f0]
  unfold s_Mo_put at f0
  unfold WP_Mo_put
  refine ⟨fun c1 => ?_, fun c1 => ?_⟩
  · have f1 := Eq.trans (Eq.symm (if_neg c1)) f0
    have g1 := hp.1 c1
    refine ⟨g1.1, ?_⟩
    have g2 := g1.2
    exact f1.symm
  · have f1 := Eq.trans (Eq.symm (if_pos c1)) f0
    have g1 := hp.2 c1
    exact v_Mo_put_L11 600 x1 (0 : Int32) t_recorded t_lost t_records _ f1 g1
theorem c_Mo_put (l : Launch) (D : va_G) (K : Nat → ClassId) (q_t : Nat) (q_t_text : Nat) (q_t_code : Nat) (q_t_site : Nat) (q_t_condition : Nat) (q_t_actions : Nat) (q_t_kind : Nat) (q_t_target : Nat) (q_t_first : Nat) (q_t_second : Nat) (q_t_failures : Nat) (q_t_met : Nat) (q_t_there : Nat) (q_t_on : Nat) (q_t_compared : Nat) (q_t_globals : Nat) (q_t_own : Nat) (q_t_records : Nat) (q_t_pile : Nat) (q_t_handed : Nat) (q_t_keys : Nat) (q_t_key : Nat) (q_t_count : Nat) (q_t_bins : Nat) (q_t_operator : Nat) (q_t_starts : Nat) (q_t_sum : Nat) (q_t_least : Nat) (q_t_greatest : Nat) (t_newSite : Int32) (t_newCondition : Int32) (t_newActions : Int32) (t_size : Int32) (t_place : Int32) (t_pos : Int32) (t_at : Int32) (t_operators : Int32) (t_recorded : Int32) (t_lost : Int32) (t_dropped : Int32) (t_firings : Int32) (t_time : Int32) (t_thread : Int32) (t_thrown : Int32) (t_failed : Int32) (t_records : Nat → UInt64) (x1 : UInt64) (hp : p_Mo_put t_recorded t_lost t_records x1) : zCv l y_Mo_put wy_Mo_put rm_Mo_put D zcl (zT K) [.ref q_t, .double x1] (w_Mo_put K q_t q_t_text q_t_code q_t_site q_t_condition q_t_actions q_t_kind q_t_target q_t_first q_t_second q_t_failures q_t_met q_t_there q_t_on q_t_compared q_t_globals q_t_own q_t_records q_t_pile q_t_handed q_t_keys q_t_key q_t_count q_t_bins q_t_operator q_t_starts q_t_sum q_t_least q_t_greatest t_newSite t_newCondition t_newActions t_size t_place t_pos t_at t_operators t_dropped t_firings t_time t_thread t_thrown t_failed (t_recorded, t_lost, t_records)) (w_Mo_put K q_t q_t_text q_t_code q_t_site q_t_condition q_t_actions q_t_kind q_t_target q_t_first q_t_second q_t_failures q_t_met q_t_there q_t_on q_t_compared q_t_globals q_t_own q_t_records q_t_pile q_t_handed q_t_keys q_t_key q_t_count q_t_bins q_t_operator q_t_starts q_t_sum q_t_least q_t_greatest t_newSite t_newCondition t_newActions t_size t_place t_pos t_at t_operators t_dropped t_firings t_time t_thread t_thrown t_failed) (fun u => s_Mo_put t_recorded t_lost t_records x1 = u) 0 0 := cw_Mo_put l D K q_t q_t_text q_t_code q_t_site q_t_condition q_t_actions q_t_kind q_t_target q_t_first q_t_second q_t_failures q_t_met q_t_there q_t_on q_t_compared q_t_globals q_t_own q_t_records q_t_pile q_t_handed q_t_keys q_t_key q_t_count q_t_bins q_t_operator q_t_starts q_t_sum q_t_least q_t_greatest t_newSite t_newCondition t_newActions t_size t_place t_pos t_at t_operators t_recorded t_lost t_dropped t_firings t_time t_thread t_thrown t_failed t_records x1 (v_Mo_put t_recorded t_lost t_records x1 hp)
-- RuleTracerModel.perform(I)Z: reads ['t.recorded', 't.lost', 't.dropped', 't.time', 't.thread', 't.failed', 't.kind', 't.second', 't.code', 't.pile', 't.handed', 't.globals', 't.own', 't.records', 't.target', 't.keys', 't.key', 't.sum', 't.least', 't.greatest', 't.count', 't.bins', 't.first'], changes ['t.recorded', 't.lost', 't.dropped', 't.failed', 't.pile', 't.globals', 't.own', 't.records', 't.keys', 't.key', 't.sum', 't.least', 't.greatest', 't.count', 't.bins']
abbrev w_Mo_perform (K : Nat → ClassId) (q_t : Nat) (q_t_text : Nat) (q_t_code : Nat) (q_t_site : Nat) (q_t_condition : Nat) (q_t_actions : Nat) (q_t_kind : Nat) (q_t_target : Nat) (q_t_first : Nat) (q_t_second : Nat) (q_t_failures : Nat) (q_t_met : Nat) (q_t_there : Nat) (q_t_on : Nat) (q_t_compared : Nat) (q_t_globals : Nat) (q_t_own : Nat) (q_t_records : Nat) (q_t_pile : Nat) (q_t_handed : Nat) (q_t_keys : Nat) (q_t_key : Nat) (q_t_count : Nat) (q_t_bins : Nat) (q_t_operator : Nat) (q_t_starts : Nat) (q_t_sum : Nat) (q_t_least : Nat) (q_t_greatest : Nat) (t_newSite : Int32) (t_newCondition : Int32) (t_newActions : Int32) (t_size : Int32) (t_place : Int32) (t_pos : Int32) (t_at : Int32) (t_operators : Int32) (t_firings : Int32) (t_time : Int32) (t_thread : Int32) (t_thrown : Int32) (t_kind : Nat → Int32) (t_second : Nat → Int32) (t_code : Nat → Int32) (t_handed : Nat → UInt64) (t_target : Nat → Int32) (t_first : Nat → Int32) (u : Int32 × Int32 × Int32 × Int32 × (Nat → UInt64) × (Nat → UInt64) × (Nat → UInt64) × (Nat → UInt64) × (Nat → Int32) × (Nat → Int32) × (Nat → UInt64) × (Nat → UInt64) × (Nat → UInt64) × (Nat → Int32) × (Nat → Int32)) : va_W := [zo 6 q_t [.ref q_t_text, .ref q_t_code, .ref q_t_site, .ref q_t_condition, .ref q_t_actions, .ref q_t_kind, .ref q_t_target, .ref q_t_first, .ref q_t_second, .ref q_t_failures, .ref q_t_met, .ref q_t_there, .ref q_t_on, .ref q_t_compared, .ref q_t_globals, .ref q_t_own, .ref q_t_records, .ref q_t_pile, .ref q_t_handed, .ref q_t_keys, .ref q_t_key, .ref q_t_count, .ref q_t_bins, .ref q_t_operator, .ref q_t_starts, .ref q_t_sum, .ref q_t_least, .ref q_t_greatest, .int t_newSite, .int t_newCondition, .int t_newActions, .int t_size, .int t_place, .int t_pos, .int t_at, .int t_operators, .int u.1, .int u.2.1, .int u.2.2.1, .int t_firings, .int t_time, .int t_thread, .int t_thrown, .int u.2.2.2.1], zaI K q_t_kind 340 t_kind, zaI K q_t_second 340 t_second, zaI K q_t_code 1400 t_code, zaD K q_t_pile 60 u.2.2.2.2.1, zaD K q_t_handed 3 t_handed, zaD K q_t_globals 3 u.2.2.2.2.2.1, zaD K q_t_own 12 u.2.2.2.2.2.2.1, zaD K q_t_records 6 u.2.2.2.2.2.2.2.1, zaI K q_t_target 340 t_target, zaI K q_t_keys 3 u.2.2.2.2.2.2.2.2.1, zaI K q_t_key 12 u.2.2.2.2.2.2.2.2.2.1, zaD K q_t_sum 12 u.2.2.2.2.2.2.2.2.2.2.1, zaD K q_t_least 12 u.2.2.2.2.2.2.2.2.2.2.2.1, zaD K q_t_greatest 12 u.2.2.2.2.2.2.2.2.2.2.2.2.1, zaI K q_t_count 12 u.2.2.2.2.2.2.2.2.2.2.2.2.2.1, zaI K q_t_bins 96 u.2.2.2.2.2.2.2.2.2.2.2.2.2.2, zaI K q_t_first 340 t_first]
abbrev rm_Mo_perform : Room := { frames := 3, cells := 0, slots := 0, locals := 68 }
abbrev wy_Mo_perform : List Cond := .code y_Mo_perform b_Mo_perform 5 (some .boolean) :: zWT
def WP_Mo_perform (t_recorded : Int32) (t_lost : Int32) (t_dropped : Int32) (t_time : Int32) (t_thread : Int32) (t_failed : Int32) (t_kind : Nat → Int32) (t_second : Nat → Int32) (t_code : Nat → Int32) (t_pile : Nat → UInt64) (t_handed : Nat → UInt64) (t_globals : Nat → UInt64) (t_own : Nat → UInt64) (t_records : Nat → UInt64) (t_target : Nat → Int32) (t_keys : Nat → Int32) (t_key : Nat → Int32) (t_sum : Nat → UInt64) (t_least : Nat → UInt64) (t_greatest : Nat → UInt64) (t_count : Nat → Int32) (t_bins : Nat → Int32) (t_first : Nat → Int32) (x1 : Int32) (Q : Int32 → (Int32 × Int32 × Int32 × Int32 × (Nat → UInt64) × (Nat → UInt64) × (Nat → UInt64) × (Nat → UInt64) × (Nat → Int32) × (Nat → Int32) × (Nat → UInt64) × (Nat → UInt64) × (Nat → UInt64) × (Nat → Int32) × (Nat → Int32)) → Prop) : Prop := vp_in x1 340 ∧ ((¬ (t_kind x1.toNatClampNeg) = (64 : Int32)) → ((t_failed = 0) → vp_in x1 340 ∧ p_Mo_value t_time t_thread t_failed t_code t_pile t_handed t_globals t_own (t_first x1.toNatClampNeg) ∧ (∀ (r7 : UInt64) (m10 : Int32) (m11 : Nat → UInt64), s_Mo_value t_time t_thread t_failed t_code t_pile t_handed t_globals t_own (t_first x1.toNatClampNeg) = (r7, m10, m11) → ((m10 = 0) → vp_in x1 340 ∧ ((¬ (t_kind x1.toNatClampNeg) = (63 : Int32)) → vp_in x1 340 ∧ ((¬ (t_kind x1.toNatClampNeg) = (33 : Int32)) → vp_in x1 340 ∧ vp_in x1 340 ∧ (((3 : Int32) ≤ (t_target x1.toNatClampNeg)) → vp_in x1 340 ∧ vp_in (((t_thread * (3 : Int32)) + (t_target x1.toNatClampNeg)) - (3 : Int32)) 12 ∧ Q (1 : Int32) (t_recorded, t_lost, t_dropped, m10, m11, t_globals, vf_upd t_own (((t_thread * (3 : Int32)) + (t_target x1.toNatClampNeg)) - (3 : Int32)).toNatClampNeg r7, t_records, t_keys, t_key, t_sum, t_least, t_greatest, t_count, t_bins)) ∧ ((¬ (3 : Int32) ≤ (t_target x1.toNatClampNeg)) → vp_in x1 340 ∧ vp_in (t_target x1.toNatClampNeg) 3 ∧ Q (1 : Int32) (t_recorded, t_lost, t_dropped, m10, m11, vf_upd t_globals (t_target x1.toNatClampNeg).toNatClampNeg r7, t_own, t_records, t_keys, t_key, t_sum, t_least, t_greatest, t_count, t_bins))) ∧ (((t_kind x1.toNatClampNeg) = (33 : Int32)) → p_Mo_put t_recorded t_lost t_records r7 ∧ (∀ (m35 : Int32) (m36 : Int32) (m37 : Nat → UInt64), s_Mo_put t_recorded t_lost t_records r7 = (m35, m36, m37) → Q (1 : Int32) (m35, m36, t_dropped, m10, m11, t_globals, t_own, m37, t_keys, t_key, t_sum, t_least, t_greatest, t_count, t_bins)))) ∧ (((t_kind x1.toNatClampNeg) = (63 : Int32)) → (((Op.cmpValue (FP.dcmp r7 FP.dconst0) .l) = 0) → Q (0 : Int32) (t_recorded, t_lost, t_dropped, m10, m11, t_globals, t_own, t_records, t_keys, t_key, t_sum, t_least, t_greatest, t_count, t_bins)) ∧ ((¬ (Op.cmpValue (FP.dcmp r7 FP.dconst0) .l) = 0) → Q (1 : Int32) (t_recorded, t_lost, t_dropped, m10, m11, t_globals, t_own, t_records, t_keys, t_key, t_sum, t_least, t_greatest, t_count, t_bins)))) ∧ ((¬ m10 = 0) → Q (0 : Int32) (t_recorded, t_lost, t_dropped, m10, m11, t_globals, t_own, t_records, t_keys, t_key, t_sum, t_least, t_greatest, t_count, t_bins)))) ∧ ((¬ t_failed = 0) → Q (0 : Int32) (t_recorded, t_lost, t_dropped, t_failed, t_pile, t_globals, t_own, t_records, t_keys, t_key, t_sum, t_least, t_greatest, t_count, t_bins))) ∧ (((t_kind x1.toNatClampNeg) = (64 : Int32)) → vp_in x1 340 ∧ p_Mo_value t_time t_thread t_failed t_code t_pile t_handed t_globals t_own (t_second x1.toNatClampNeg) ∧ (∀ (r44 : UInt64) (m47 : Int32) (m48 : Nat → UInt64), s_Mo_value t_time t_thread t_failed t_code t_pile t_handed t_globals t_own (t_second x1.toNatClampNeg) = (r44, m47, m48) → ((m47 = 0) → vp_in x1 340 ∧ p_Mo_value t_time t_thread m47 t_code m48 t_handed t_globals t_own (t_first x1.toNatClampNeg) ∧ (∀ (r53 : UInt64) (m56 : Int32) (m57 : Nat → UInt64), s_Mo_value t_time t_thread m47 t_code m48 t_handed t_globals t_own (t_first x1.toNatClampNeg) = (r53, m56, m57) → ((m56 = 0) → vp_in x1 340 ∧ ((¬ (t_kind x1.toNatClampNeg) = (63 : Int32)) → vp_in x1 340 ∧ ((¬ (t_kind x1.toNatClampNeg) = (33 : Int32)) → vp_in x1 340 ∧ vp_in x1 340 ∧ p_Mo_gather t_dropped m56 t_keys t_key t_sum t_least t_greatest t_count t_bins (t_target x1.toNatClampNeg) (FP.d2i r44) r53 ∧ (∀ (m73 : Int32) (m74 : Int32) (m75 : Nat → Int32) (m76 : Nat → Int32) (m77 : Nat → UInt64) (m78 : Nat → UInt64) (m79 : Nat → UInt64) (m80 : Nat → Int32) (m81 : Nat → Int32), s_Mo_gather t_dropped m56 t_keys t_key t_sum t_least t_greatest t_count t_bins (t_target x1.toNatClampNeg) (FP.d2i r44) r53 = (m73, m74, m75, m76, m77, m78, m79, m80, m81) → ((¬ m74 = 0) → Q (0 : Int32) (t_recorded, t_lost, m73, m74, m57, t_globals, t_own, t_records, m75, m76, m77, m78, m79, m80, m81)) ∧ ((m74 = 0) → Q (1 : Int32) (t_recorded, t_lost, m73, m74, m57, t_globals, t_own, t_records, m75, m76, m77, m78, m79, m80, m81)))) ∧ (((t_kind x1.toNatClampNeg) = (33 : Int32)) → p_Mo_put t_recorded t_lost t_records r53 ∧ (∀ (m88 : Int32) (m89 : Int32) (m90 : Nat → UInt64), s_Mo_put t_recorded t_lost t_records r53 = (m88, m89, m90) → Q (1 : Int32) (m88, m89, t_dropped, m56, m57, t_globals, t_own, m90, t_keys, t_key, t_sum, t_least, t_greatest, t_count, t_bins)))) ∧ (((t_kind x1.toNatClampNeg) = (63 : Int32)) → (((Op.cmpValue (FP.dcmp r53 FP.dconst0) .l) = 0) → Q (0 : Int32) (t_recorded, t_lost, t_dropped, m56, m57, t_globals, t_own, t_records, t_keys, t_key, t_sum, t_least, t_greatest, t_count, t_bins)) ∧ ((¬ (Op.cmpValue (FP.dcmp r53 FP.dconst0) .l) = 0) → Q (1 : Int32) (t_recorded, t_lost, t_dropped, m56, m57, t_globals, t_own, t_records, t_keys, t_key, t_sum, t_least, t_greatest, t_count, t_bins)))) ∧ ((¬ m56 = 0) → Q (0 : Int32) (t_recorded, t_lost, t_dropped, m56, m57, t_globals, t_own, t_records, t_keys, t_key, t_sum, t_least, t_greatest, t_count, t_bins)))) ∧ ((¬ m47 = 0) → Q (0 : Int32) (t_recorded, t_lost, t_dropped, m47, m48, t_globals, t_own, t_records, t_keys, t_key, t_sum, t_least, t_greatest, t_count, t_bins))))
set_option maxHeartbeats 4000000 in
set_option maxRecDepth 100000 in
theorem cw_Mo_perform (l : Launch) (D : va_G) (K : Nat → ClassId) (q_t : Nat) (q_t_text : Nat) (q_t_code : Nat) (q_t_site : Nat) (q_t_condition : Nat) (q_t_actions : Nat) (q_t_kind : Nat) (q_t_target : Nat) (q_t_first : Nat) (q_t_second : Nat) (q_t_failures : Nat) (q_t_met : Nat) (q_t_there : Nat) (q_t_on : Nat) (q_t_compared : Nat) (q_t_globals : Nat) (q_t_own : Nat) (q_t_records : Nat) (q_t_pile : Nat) (q_t_handed : Nat) (q_t_keys : Nat) (q_t_key : Nat) (q_t_count : Nat) (q_t_bins : Nat) (q_t_operator : Nat) (q_t_starts : Nat) (q_t_sum : Nat) (q_t_least : Nat) (q_t_greatest : Nat) (t_newSite : Int32) (t_newCondition : Int32) (t_newActions : Int32) (t_size : Int32) (t_place : Int32) (t_pos : Int32) (t_at : Int32) (t_operators : Int32) (t_recorded : Int32) (t_lost : Int32) (t_dropped : Int32) (t_firings : Int32) (t_time : Int32) (t_thread : Int32) (t_thrown : Int32) (t_failed : Int32) (t_kind : Nat → Int32) (t_second : Nat → Int32) (t_code : Nat → Int32) (t_pile : Nat → UInt64) (t_handed : Nat → UInt64) (t_globals : Nat → UInt64) (t_own : Nat → UInt64) (t_records : Nat → UInt64) (t_target : Nat → Int32) (t_keys : Nat → Int32) (t_key : Nat → Int32) (t_sum : Nat → UInt64) (t_least : Nat → UInt64) (t_greatest : Nat → UInt64) (t_count : Nat → Int32) (t_bins : Nat → Int32) (t_first : Nat → Int32) (x1 : Int32) {Q : Int32 → (Int32 × Int32 × Int32 × Int32 × (Nat → UInt64) × (Nat → UInt64) × (Nat → UInt64) × (Nat → UInt64) × (Nat → Int32) × (Nat → Int32) × (Nat → UInt64) × (Nat → UInt64) × (Nat → UInt64) × (Nat → Int32) × (Nat → Int32)) → Prop} (hS0 : WP_Mo_perform t_recorded t_lost t_dropped t_time t_thread t_failed t_kind t_second t_code t_pile t_handed t_globals t_own t_records t_target t_keys t_key t_sum t_least t_greatest t_count t_bins t_first x1 Q) : zCi l y_Mo_perform wy_Mo_perform rm_Mo_perform D zcl (zT K) [.ref q_t, .int x1] (w_Mo_perform K q_t q_t_text q_t_code q_t_site q_t_condition q_t_actions q_t_kind q_t_target q_t_first q_t_second q_t_failures q_t_met q_t_there q_t_on q_t_compared q_t_globals q_t_own q_t_records q_t_pile q_t_handed q_t_keys q_t_key q_t_count q_t_bins q_t_operator q_t_starts q_t_sum q_t_least q_t_greatest t_newSite t_newCondition t_newActions t_size t_place t_pos t_at t_operators t_firings t_time t_thread t_thrown t_kind t_second t_code t_handed t_target t_first (t_recorded, t_lost, t_dropped, t_failed, t_pile, t_globals, t_own, t_records, t_keys, t_key, t_sum, t_least, t_greatest, t_count, t_bins)) (w_Mo_perform K q_t q_t_text q_t_code q_t_site q_t_condition q_t_actions q_t_kind q_t_target q_t_first q_t_second q_t_failures q_t_met q_t_there q_t_on q_t_compared q_t_globals q_t_own q_t_records q_t_pile q_t_handed q_t_keys q_t_key q_t_count q_t_bins q_t_operator q_t_starts q_t_sum q_t_least q_t_greatest t_newSite t_newCondition t_newActions t_size t_place t_pos t_at t_operators t_firings t_time t_thread t_thrown t_kind t_second t_code t_handed t_target t_first) Q 0 0 := by
  refine z_meti (cc := b_Mo_perform) (maxL := 5) (ret := (some .boolean)) (by decide) rfl (Nat.le_of_ble_eq_true rfl) ?_
  intro p e s m args below meth c A C hr hlk hnm
  refine z_lpick (lv' := [(0, .ref q_t), (1, .int x1)]) [0, 1] rfl ?_
  refine z_weq (ws' := [zo 6 q_t [.ref q_t_text, .ref q_t_code, .ref q_t_site, .ref q_t_condition, .ref q_t_actions, .ref q_t_kind, .ref q_t_target, .ref q_t_first, .ref q_t_second, .ref q_t_failures, .ref q_t_met, .ref q_t_there, .ref q_t_on, .ref q_t_compared, .ref q_t_globals, .ref q_t_own, .ref q_t_records, .ref q_t_pile, .ref q_t_handed, .ref q_t_keys, .ref q_t_key, .ref q_t_count, .ref q_t_bins, .ref q_t_operator, .ref q_t_starts, .ref q_t_sum, .ref q_t_least, .ref q_t_greatest, .int t_newSite, .int t_newCondition, .int t_newActions, .int t_size, .int t_place, .int t_pos, .int t_at, .int t_operators, .int t_recorded, .int t_lost, .int t_dropped, .int t_firings, .int t_time, .int t_thread, .int t_thrown, .int t_failed], zaI K q_t_kind 340 t_kind, zaI K q_t_second 340 t_second, zaI K q_t_code 1400 t_code, zaD K q_t_pile 60 t_pile, zaD K q_t_handed 3 t_handed, zaD K q_t_globals 3 t_globals, zaD K q_t_own 12 t_own, zaD K q_t_records 6 t_records, zaI K q_t_target 340 t_target, zaI K q_t_keys 3 t_keys, zaI K q_t_key 12 t_key, zaD K q_t_sum 12 t_sum, zaD K q_t_least 12 t_least, zaD K q_t_greatest 12 t_greatest, zaI K q_t_count 12 t_count, zaI K q_t_bins 96 t_bins, zaI K q_t_first 340 t_first]) rfl ?_
  refine z_aload_n C d_Mo_perform_0 rfl 0 rfl ?_
  refine z_get C 0 rfl rfl in_Mo 5 (by decide) rfl wf_Mo_25 rfl d_Mo_perform_1 ?_
  refine z_iload_n C d_Mo_perform_4 rfl 1 rfl ?_
  refine z_iald C 1 0 rfl rfl hS0.1 d_Mo_perform_5 ?_
  have hS1 := hS0.2
  refine z_bipush (v := (64 : Int32)) C d_Mo_perform_6 (by decide) ?_
  refine z_icmp_ne (tgt := 25) C d_Mo_perform_8 (by decide) (fun c2 => ?_) (fun c2 => ?_)
  · have hS3 := hS1.1 c2
    refine z_iconst (v := (0 : Int32)) C d_Mo_perform_25 (by decide) ?_
    refine z_istore_n (lv' := [(2, .int (0 : Int32)), (0, .ref q_t), (1, .int x1)]) C d_Mo_perform_26 rfl (by decide) rfl ?_
    refine z_aload_n C d_Mo_perform_27 rfl 1 rfl ?_
    refine z_get C 0 rfl rfl in_Mo 43 (by decide) rfl wf_Mo_173 rfl d_Mo_perform_28 ?_
    refine z_if_eq (tgt := 38) C d_Mo_perform_31 (by decide) (fun c4 => ?_) (fun c4 => ?_)
    · have hS5 := hS3.1 c4
      refine z_aload_n C d_Mo_perform_38 rfl 1 rfl ?_
      refine z_aload_n C d_Mo_perform_39 rfl 1 rfl ?_
      refine z_get C 0 rfl rfl in_Mo 7 (by decide) rfl wf_Mo_31 rfl d_Mo_perform_40 ?_
      refine z_iload_n C d_Mo_perform_43 rfl 2 rfl ?_
      refine z_iald C 17 0 rfl rfl hS5.1 d_Mo_perform_44 ?_
      have hS6 := hS5.2
      refine z_callVd (As := [.int (t_first x1.toNatClampNeg)]) (b := q_t) (st := []) (wr := [zaI K q_t_kind 340 t_kind, zaI K q_t_second 340 t_second, zaD K q_t_records 6 t_records, zaI K q_t_target 340 t_target, zaI K q_t_keys 3 t_keys, zaI K q_t_key 12 t_key, zaD K q_t_sum 12 t_sum, zaD K q_t_least 12 t_least, zaD K q_t_greatest 12 t_greatest, zaI K q_t_count 12 t_count, zaI K q_t_bins 96 t_bins, zaI K q_t_first 340 t_first]) (wj := fun u => [zo 6 q_t [.ref q_t_text, .ref q_t_code, .ref q_t_site, .ref q_t_condition, .ref q_t_actions, .ref q_t_kind, .ref q_t_target, .ref q_t_first, .ref q_t_second, .ref q_t_failures, .ref q_t_met, .ref q_t_there, .ref q_t_on, .ref q_t_compared, .ref q_t_globals, .ref q_t_own, .ref q_t_records, .ref q_t_pile, .ref q_t_handed, .ref q_t_keys, .ref q_t_key, .ref q_t_count, .ref q_t_bins, .ref q_t_operator, .ref q_t_starts, .ref q_t_sum, .ref q_t_least, .ref q_t_greatest, .int t_newSite, .int t_newCondition, .int t_newActions, .int t_size, .int t_place, .int t_pos, .int t_at, .int t_operators, .int t_recorded, .int t_lost, .int t_dropped, .int t_firings, .int t_time, .int t_thread, .int t_thrown, .int u.1], zaI K q_t_kind 340 t_kind, zaI K q_t_second 340 t_second, zaI K q_t_code 1400 t_code, zaD K q_t_pile 60 u.2, zaD K q_t_handed 3 t_handed, zaD K q_t_globals 3 t_globals, zaD K q_t_own 12 t_own, zaD K q_t_records 6 t_records, zaI K q_t_target 340 t_target, zaI K q_t_keys 3 t_keys, zaI K q_t_key 12 t_key, zaD K q_t_sum 12 t_sum, zaD K q_t_least 12 t_least, zaD K q_t_greatest 12 t_greatest, zaI K q_t_count 12 t_count, zaI K q_t_bins 96 t_bins, zaI K q_t_first 340 t_first]) C 0 rfl rfl (c_Mo_value l D K q_t q_t_text q_t_code q_t_site q_t_condition q_t_actions q_t_kind q_t_target q_t_first q_t_second q_t_failures q_t_met q_t_there q_t_on q_t_compared q_t_globals q_t_own q_t_records q_t_pile q_t_handed q_t_keys q_t_key q_t_count q_t_bins q_t_operator q_t_starts q_t_sum q_t_least q_t_greatest t_newSite t_newCondition t_newActions t_size t_place t_pos t_at t_operators t_recorded t_lost t_dropped t_firings t_time t_thread t_thrown t_failed t_code t_pile t_handed t_globals t_own (t_first x1.toNatClampNeg) hS6.1) (cwV 1 C.2.2.2.2.1 (z_gV wl_Mo_208 wi_Mo_value wv_Mo_value wz_Mo wk_Mo_value) rfl rfl rfl (by decide +kernel) ⟨Nat.le_of_ble_eq_true rfl, Nat.le_of_ble_eq_true rfl⟩) [0, 3, 4, 5, 6, 7] [1, 2, 8, 9, 10, 11, 12, 13, 14, 15, 16, 17] [12, 0, 1, 13, 14, 15, 16, 17, 2, 3, 4, 5, 6, 7, 8, 9, 10, 11] rfl rfl rfl rfl (by decide) (fun _ => rfl) rfl rfl rfl (Nat.le_of_ble_eq_true rfl) d_Mo_perform_45 ⟨Nat.le_of_ble_eq_true rfl, Nat.le_of_ble_eq_true rfl⟩ (fun r7 u8 e9 => ?_)
      obtain ⟨m10, m11⟩ := u8
      refine z_weq (ws' := [zo 6 q_t [.ref q_t_text, .ref q_t_code, .ref q_t_site, .ref q_t_condition, .ref q_t_actions, .ref q_t_kind, .ref q_t_target, .ref q_t_first, .ref q_t_second, .ref q_t_failures, .ref q_t_met, .ref q_t_there, .ref q_t_on, .ref q_t_compared, .ref q_t_globals, .ref q_t_own, .ref q_t_records, .ref q_t_pile, .ref q_t_handed, .ref q_t_keys, .ref q_t_key, .ref q_t_count, .ref q_t_bins, .ref q_t_operator, .ref q_t_starts, .ref q_t_sum, .ref q_t_least, .ref q_t_greatest, .int t_newSite, .int t_newCondition, .int t_newActions, .int t_size, .int t_place, .int t_pos, .int t_at, .int t_operators, .int t_recorded, .int t_lost, .int t_dropped, .int t_firings, .int t_time, .int t_thread, .int t_thrown, .int m10], zaI K q_t_kind 340 t_kind, zaI K q_t_second 340 t_second, zaI K q_t_code 1400 t_code, zaD K q_t_pile 60 m11, zaD K q_t_handed 3 t_handed, zaD K q_t_globals 3 t_globals, zaD K q_t_own 12 t_own, zaD K q_t_records 6 t_records, zaI K q_t_target 340 t_target, zaI K q_t_keys 3 t_keys, zaI K q_t_key 12 t_key, zaD K q_t_sum 12 t_sum, zaD K q_t_least 12 t_least, zaD K q_t_greatest 12 t_greatest, zaI K q_t_count 12 t_count, zaI K q_t_bins 96 t_bins, zaI K q_t_first 340 t_first]) rfl ?_
      have hS12 := hS6.2 r7 m10 m11 e9
      refine z_dstore_n (lv' := [(3, .double r7), (2, .int (0 : Int32)), (0, .ref q_t), (1, .int x1)]) C d_Mo_perform_48 rfl (by decide) rfl ?_
      refine z_aload_n C d_Mo_perform_49 rfl 2 rfl ?_
      refine z_get C 0 rfl rfl in_Mo 43 (by decide) rfl wf_Mo_173 rfl d_Mo_perform_50 ?_
      refine z_if_eq (tgt := 58) C d_Mo_perform_53 (by decide) (fun c13 => ?_) (fun c13 => ?_)
      · have hS14 := hS12.1 c13
        refine z_aload_n C d_Mo_perform_58 rfl 2 rfl ?_
        refine z_get C 0 rfl rfl in_Mo 5 (by decide) rfl wf_Mo_25 rfl d_Mo_perform_59 ?_
        refine z_iload_n C d_Mo_perform_62 rfl 3 rfl ?_
        refine z_iald C 1 0 rfl rfl hS14.1 d_Mo_perform_63 ?_
        have hS15 := hS14.2
        refine z_bipush (v := (63 : Int32)) C d_Mo_perform_64 (by decide) ?_
        refine z_icmp_ne (tgt := 81) C d_Mo_perform_66 (by decide) (fun c16 => ?_) (fun c16 => ?_)
        · have hS17 := hS15.1 c16
          refine z_aload_n C d_Mo_perform_81 rfl 2 rfl ?_
          refine z_get C 0 rfl rfl in_Mo 5 (by decide) rfl wf_Mo_25 rfl d_Mo_perform_82 ?_
          refine z_iload_n C d_Mo_perform_85 rfl 3 rfl ?_
          refine z_iald C 1 0 rfl rfl hS17.1 d_Mo_perform_86 ?_
          have hS18 := hS17.2
          refine z_bipush (v := (33 : Int32)) C d_Mo_perform_87 (by decide) ?_
          refine z_icmp_ne (tgt := 100) C d_Mo_perform_89 (by decide) (fun c19 => ?_) (fun c19 => ?_)
          · have hS20 := hS18.1 c19
            refine z_aload_n C d_Mo_perform_100 rfl 2 rfl ?_
            refine z_get C 0 rfl rfl in_Mo 5 (by decide) rfl wf_Mo_25 rfl d_Mo_perform_101 ?_
            refine z_iload_n C d_Mo_perform_104 rfl 3 rfl ?_
            refine z_iald C 1 0 rfl rfl hS20.1 d_Mo_perform_105 ?_
            have hS21 := hS20.2
            refine z_bipush (v := (64 : Int32)) C d_Mo_perform_106 (by decide) ?_
            refine z_icmp_ne (tgt := 126) C d_Mo_perform_108 (by decide) (fun c22 => ?_) (fun c22 => absurd c22 c2)
            refine z_aload_n C d_Mo_perform_126 rfl 2 rfl ?_
            refine z_get C 0 rfl rfl in_Mo 6 (by decide) rfl wf_Mo_28 rfl d_Mo_perform_127 ?_
            refine z_iload_n C d_Mo_perform_130 rfl 3 rfl ?_
            refine z_iald C 9 0 rfl rfl hS21.1 d_Mo_perform_131 ?_
            have hS23 := hS21.2
            refine z_iconst (v := (3 : Int32)) C d_Mo_perform_132 (by decide) ?_
            refine z_icmp_ge (tgt := 151) C d_Mo_perform_133 (by decide) (fun c24 => ?_) (fun c24 => ?_)
            · have hS25 := hS23.1 c24
              refine z_aload_n C d_Mo_perform_151 rfl 2 rfl ?_
              refine z_get C 0 rfl rfl in_Mo 15 (by decide) rfl wf_Mo_57 rfl d_Mo_perform_152 ?_
              refine z_aload_n C d_Mo_perform_155 rfl 2 rfl ?_
              refine z_get C 0 rfl rfl in_Mo 41 (by decide) rfl wf_Mo_170 rfl d_Mo_perform_156 ?_
              refine z_iconst (v := (3 : Int32)) C d_Mo_perform_159 (by decide) ?_
              refine z_imul C d_Mo_perform_160 ?_
              refine z_aload_n C d_Mo_perform_161 rfl 2 rfl ?_
              refine z_get C 0 rfl rfl in_Mo 6 (by decide) rfl wf_Mo_28 rfl d_Mo_perform_162 ?_
              refine z_iload_n C d_Mo_perform_165 rfl 3 rfl ?_
              refine z_iald C 9 0 rfl rfl hS25.1 d_Mo_perform_166 ?_
              have hS26 := hS25.2
              refine z_iadd C d_Mo_perform_167 ?_
              refine z_iconst (v := (3 : Int32)) C d_Mo_perform_168 (by decide) ?_
              refine z_isub C d_Mo_perform_169 ?_
              refine z_dload_n C d_Mo_perform_170 rfl 0 rfl ?_
              refine z_dast (ws' := [zo 6 q_t [.ref q_t_text, .ref q_t_code, .ref q_t_site, .ref q_t_condition, .ref q_t_actions, .ref q_t_kind, .ref q_t_target, .ref q_t_first, .ref q_t_second, .ref q_t_failures, .ref q_t_met, .ref q_t_there, .ref q_t_on, .ref q_t_compared, .ref q_t_globals, .ref q_t_own, .ref q_t_records, .ref q_t_pile, .ref q_t_handed, .ref q_t_keys, .ref q_t_key, .ref q_t_count, .ref q_t_bins, .ref q_t_operator, .ref q_t_starts, .ref q_t_sum, .ref q_t_least, .ref q_t_greatest, .int t_newSite, .int t_newCondition, .int t_newActions, .int t_size, .int t_place, .int t_pos, .int t_at, .int t_operators, .int t_recorded, .int t_lost, .int t_dropped, .int t_firings, .int t_time, .int t_thread, .int t_thrown, .int m10], zaI K q_t_kind 340 t_kind, zaI K q_t_second 340 t_second, zaI K q_t_code 1400 t_code, zaD K q_t_pile 60 m11, zaD K q_t_handed 3 t_handed, zaD K q_t_globals 3 t_globals, zaD K q_t_own 12 (vf_upd t_own (((t_thread * (3 : Int32)) + (t_target x1.toNatClampNeg)) - (3 : Int32)).toNatClampNeg r7), zaD K q_t_records 6 t_records, zaI K q_t_target 340 t_target, zaI K q_t_keys 3 t_keys, zaI K q_t_key 12 t_key, zaD K q_t_sum 12 t_sum, zaD K q_t_least 12 t_least, zaD K q_t_greatest 12 t_greatest, zaI K q_t_count 12 t_count, zaI K q_t_bins 96 t_bins, zaI K q_t_first 340 t_first]) C 7 1 rfl rfl hS26.1 rfl d_Mo_perform_171 ?_
              have hS27 := hS26.2
              refine z_aload_n C d_Mo_perform_172 rfl 2 rfl ?_
              refine z_get C 0 rfl rfl in_Mo 43 (by decide) rfl wf_Mo_173 rfl d_Mo_perform_173 ?_
              refine z_if_ne (tgt := 183) C d_Mo_perform_176 (by decide) (fun c28 => absurd c13 c28) (fun c28 => ?_)
              refine z_iconst (v := (1 : Int32)) C d_Mo_perform_179 (by decide) ?_
              refine z_goto (tgt := 184) C d_Mo_perform_180 (by decide) ?_
              exact z_zret C hr rfl hlk (t_recorded, t_lost, t_dropped, m10, m11, t_globals, vf_upd t_own (((t_thread * (3 : Int32)) + (t_target x1.toNatClampNeg)) - (3 : Int32)).toNatClampNeg r7, t_records, t_keys, t_key, t_sum, t_least, t_greatest, t_count, t_bins) rfl hS27 d_Mo_perform_184
            · have hS25 := hS23.2 c24
              refine z_aload_n C d_Mo_perform_136 rfl 2 rfl ?_
              refine z_get C 0 rfl rfl in_Mo 14 (by decide) rfl wf_Mo_53 rfl d_Mo_perform_137 ?_
              refine z_aload_n C d_Mo_perform_140 rfl 2 rfl ?_
              refine z_get C 0 rfl rfl in_Mo 6 (by decide) rfl wf_Mo_28 rfl d_Mo_perform_141 ?_
              refine z_iload_n C d_Mo_perform_144 rfl 3 rfl ?_
              refine z_iald C 9 0 rfl rfl hS25.1 d_Mo_perform_145 ?_
              have hS29 := hS25.2
              refine z_dload_n C d_Mo_perform_146 rfl 0 rfl ?_
              refine z_dast (ws' := [zo 6 q_t [.ref q_t_text, .ref q_t_code, .ref q_t_site, .ref q_t_condition, .ref q_t_actions, .ref q_t_kind, .ref q_t_target, .ref q_t_first, .ref q_t_second, .ref q_t_failures, .ref q_t_met, .ref q_t_there, .ref q_t_on, .ref q_t_compared, .ref q_t_globals, .ref q_t_own, .ref q_t_records, .ref q_t_pile, .ref q_t_handed, .ref q_t_keys, .ref q_t_key, .ref q_t_count, .ref q_t_bins, .ref q_t_operator, .ref q_t_starts, .ref q_t_sum, .ref q_t_least, .ref q_t_greatest, .int t_newSite, .int t_newCondition, .int t_newActions, .int t_size, .int t_place, .int t_pos, .int t_at, .int t_operators, .int t_recorded, .int t_lost, .int t_dropped, .int t_firings, .int t_time, .int t_thread, .int t_thrown, .int m10], zaI K q_t_kind 340 t_kind, zaI K q_t_second 340 t_second, zaI K q_t_code 1400 t_code, zaD K q_t_pile 60 m11, zaD K q_t_handed 3 t_handed, zaD K q_t_globals 3 (vf_upd t_globals (t_target x1.toNatClampNeg).toNatClampNeg r7), zaD K q_t_own 12 t_own, zaD K q_t_records 6 t_records, zaI K q_t_target 340 t_target, zaI K q_t_keys 3 t_keys, zaI K q_t_key 12 t_key, zaD K q_t_sum 12 t_sum, zaD K q_t_least 12 t_least, zaD K q_t_greatest 12 t_greatest, zaI K q_t_count 12 t_count, zaI K q_t_bins 96 t_bins, zaI K q_t_first 340 t_first]) C 6 1 rfl rfl hS29.1 rfl d_Mo_perform_147 ?_
              have hS30 := hS29.2
              refine z_goto (tgt := 172) C d_Mo_perform_148 (by decide) ?_
              refine z_aload_n C d_Mo_perform_172 rfl 2 rfl ?_
              refine z_get C 0 rfl rfl in_Mo 43 (by decide) rfl wf_Mo_173 rfl d_Mo_perform_173 ?_
              refine z_if_ne (tgt := 183) C d_Mo_perform_176 (by decide) (fun c31 => absurd c13 c31) (fun c31 => ?_)
              refine z_iconst (v := (1 : Int32)) C d_Mo_perform_179 (by decide) ?_
              refine z_goto (tgt := 184) C d_Mo_perform_180 (by decide) ?_
              exact z_zret C hr rfl hlk (t_recorded, t_lost, t_dropped, m10, m11, vf_upd t_globals (t_target x1.toNatClampNeg).toNatClampNeg r7, t_own, t_records, t_keys, t_key, t_sum, t_least, t_greatest, t_count, t_bins) rfl hS30 d_Mo_perform_184
          · have hS20 := hS18.2 c19
            refine z_aload_n C d_Mo_perform_92 rfl 2 rfl ?_
            refine z_dload_n C d_Mo_perform_93 rfl 0 rfl ?_
            refine z_callVv (As := [.double r7]) (b := q_t) (st := []) (wr := [zaI K q_t_kind 340 t_kind, zaI K q_t_second 340 t_second, zaI K q_t_code 1400 t_code, zaD K q_t_pile 60 m11, zaD K q_t_handed 3 t_handed, zaD K q_t_globals 3 t_globals, zaD K q_t_own 12 t_own, zaI K q_t_target 340 t_target, zaI K q_t_keys 3 t_keys, zaI K q_t_key 12 t_key, zaD K q_t_sum 12 t_sum, zaD K q_t_least 12 t_least, zaD K q_t_greatest 12 t_greatest, zaI K q_t_count 12 t_count, zaI K q_t_bins 96 t_bins, zaI K q_t_first 340 t_first]) (wj := fun u => [zo 6 q_t [.ref q_t_text, .ref q_t_code, .ref q_t_site, .ref q_t_condition, .ref q_t_actions, .ref q_t_kind, .ref q_t_target, .ref q_t_first, .ref q_t_second, .ref q_t_failures, .ref q_t_met, .ref q_t_there, .ref q_t_on, .ref q_t_compared, .ref q_t_globals, .ref q_t_own, .ref q_t_records, .ref q_t_pile, .ref q_t_handed, .ref q_t_keys, .ref q_t_key, .ref q_t_count, .ref q_t_bins, .ref q_t_operator, .ref q_t_starts, .ref q_t_sum, .ref q_t_least, .ref q_t_greatest, .int t_newSite, .int t_newCondition, .int t_newActions, .int t_size, .int t_place, .int t_pos, .int t_at, .int t_operators, .int u.1, .int u.2.1, .int t_dropped, .int t_firings, .int t_time, .int t_thread, .int t_thrown, .int m10], zaI K q_t_kind 340 t_kind, zaI K q_t_second 340 t_second, zaI K q_t_code 1400 t_code, zaD K q_t_pile 60 m11, zaD K q_t_handed 3 t_handed, zaD K q_t_globals 3 t_globals, zaD K q_t_own 12 t_own, zaD K q_t_records 6 u.2.2, zaI K q_t_target 340 t_target, zaI K q_t_keys 3 t_keys, zaI K q_t_key 12 t_key, zaD K q_t_sum 12 t_sum, zaD K q_t_least 12 t_least, zaD K q_t_greatest 12 t_greatest, zaI K q_t_count 12 t_count, zaI K q_t_bins 96 t_bins, zaI K q_t_first 340 t_first]) C 0 rfl rfl (c_Mo_put l D K q_t q_t_text q_t_code q_t_site q_t_condition q_t_actions q_t_kind q_t_target q_t_first q_t_second q_t_failures q_t_met q_t_there q_t_on q_t_compared q_t_globals q_t_own q_t_records q_t_pile q_t_handed q_t_keys q_t_key q_t_count q_t_bins q_t_operator q_t_starts q_t_sum q_t_least q_t_greatest t_newSite t_newCondition t_newActions t_size t_place t_pos t_at t_operators t_recorded t_lost t_dropped t_firings t_time t_thread t_thrown m10 t_records r7 hS20.1) (cwV 1 C.2.2.2.2.1 (z_gV wl_Mo_211 wi_Mo_put wv_Mo_put wz_Mo wk_Mo_put) rfl rfl rfl (by decide +kernel) ⟨Nat.le_of_ble_eq_true rfl, Nat.le_of_ble_eq_true rfl⟩) [0, 8] [1, 2, 3, 4, 5, 6, 7, 9, 10, 11, 12, 13, 14, 15, 16, 17] [16, 0, 1, 2, 3, 4, 5, 6, 17, 7, 8, 9, 10, 11, 12, 13, 14, 15] rfl rfl rfl rfl (by decide) (fun _ => rfl) rfl rfl rfl (Nat.le_of_ble_eq_true rfl) d_Mo_perform_94 ⟨Nat.le_of_ble_eq_true rfl, Nat.le_of_ble_eq_true rfl⟩ (fun u33 e34 => ?_)
            obtain ⟨m35, m36, m37⟩ := u33
            refine z_weq (ws' := [zo 6 q_t [.ref q_t_text, .ref q_t_code, .ref q_t_site, .ref q_t_condition, .ref q_t_actions, .ref q_t_kind, .ref q_t_target, .ref q_t_first, .ref q_t_second, .ref q_t_failures, .ref q_t_met, .ref q_t_there, .ref q_t_on, .ref q_t_compared, .ref q_t_globals, .ref q_t_own, .ref q_t_records, .ref q_t_pile, .ref q_t_handed, .ref q_t_keys, .ref q_t_key, .ref q_t_count, .ref q_t_bins, .ref q_t_operator, .ref q_t_starts, .ref q_t_sum, .ref q_t_least, .ref q_t_greatest, .int t_newSite, .int t_newCondition, .int t_newActions, .int t_size, .int t_place, .int t_pos, .int t_at, .int t_operators, .int m35, .int m36, .int t_dropped, .int t_firings, .int t_time, .int t_thread, .int t_thrown, .int m10], zaI K q_t_kind 340 t_kind, zaI K q_t_second 340 t_second, zaI K q_t_code 1400 t_code, zaD K q_t_pile 60 m11, zaD K q_t_handed 3 t_handed, zaD K q_t_globals 3 t_globals, zaD K q_t_own 12 t_own, zaD K q_t_records 6 m37, zaI K q_t_target 340 t_target, zaI K q_t_keys 3 t_keys, zaI K q_t_key 12 t_key, zaD K q_t_sum 12 t_sum, zaD K q_t_least 12 t_least, zaD K q_t_greatest 12 t_greatest, zaI K q_t_count 12 t_count, zaI K q_t_bins 96 t_bins, zaI K q_t_first 340 t_first]) rfl ?_
            have hS38 := hS20.2 m35 m36 m37 e34
            refine z_goto (tgt := 172) C d_Mo_perform_97 (by decide) ?_
            refine z_aload_n C d_Mo_perform_172 rfl 2 rfl ?_
            refine z_get C 0 rfl rfl in_Mo 43 (by decide) rfl wf_Mo_173 rfl d_Mo_perform_173 ?_
            refine z_if_ne (tgt := 183) C d_Mo_perform_176 (by decide) (fun c39 => absurd c13 c39) (fun c39 => ?_)
            refine z_iconst (v := (1 : Int32)) C d_Mo_perform_179 (by decide) ?_
            refine z_goto (tgt := 184) C d_Mo_perform_180 (by decide) ?_
            exact z_zret C hr rfl hlk (m35, m36, t_dropped, m10, m11, t_globals, t_own, m37, t_keys, t_key, t_sum, t_least, t_greatest, t_count, t_bins) rfl hS38 d_Mo_perform_184
        · have hS17 := hS15.2 c16
          refine z_dload_n C d_Mo_perform_69 rfl 0 rfl ?_
          refine z_dconst0 C d_Mo_perform_70 ?_
          refine z_dcmp C d_Mo_perform_71 ?_
          refine z_if_eq (tgt := 79) C d_Mo_perform_72 (by decide) (fun c40 => ?_) (fun c40 => ?_)
          · have hS41 := hS17.1 c40
            refine z_iconst (v := (0 : Int32)) C d_Mo_perform_79 (by decide) ?_
            exact z_zret C hr rfl hlk (t_recorded, t_lost, t_dropped, m10, m11, t_globals, t_own, t_records, t_keys, t_key, t_sum, t_least, t_greatest, t_count, t_bins) rfl hS41 d_Mo_perform_80
          · have hS41 := hS17.2 c40
            refine z_iconst (v := (1 : Int32)) C d_Mo_perform_75 (by decide) ?_
            refine z_goto (tgt := 80) C d_Mo_perform_76 (by decide) ?_
            exact z_zret C hr rfl hlk (t_recorded, t_lost, t_dropped, m10, m11, t_globals, t_own, t_records, t_keys, t_key, t_sum, t_least, t_greatest, t_count, t_bins) rfl hS41 d_Mo_perform_80
      · have hS14 := hS12.2 c13
        refine z_iconst (v := (0 : Int32)) C d_Mo_perform_56 (by decide) ?_
        exact z_zret C hr rfl hlk (t_recorded, t_lost, t_dropped, m10, m11, t_globals, t_own, t_records, t_keys, t_key, t_sum, t_least, t_greatest, t_count, t_bins) rfl hS14 d_Mo_perform_57
    · have hS5 := hS3.2 c4
      refine z_dconst0 C d_Mo_perform_34 ?_
      refine z_goto (tgt := 48) C d_Mo_perform_35 (by decide) ?_
      refine z_dstore_n (lv' := [(3, .double FP.dconst0), (2, .int (0 : Int32)), (0, .ref q_t), (1, .int x1)]) C d_Mo_perform_48 rfl (by decide) rfl ?_
      refine z_aload_n C d_Mo_perform_49 rfl 2 rfl ?_
      refine z_get C 0 rfl rfl in_Mo 43 (by decide) rfl wf_Mo_173 rfl d_Mo_perform_50 ?_
      refine z_if_eq (tgt := 58) C d_Mo_perform_53 (by decide) (fun c42 => absurd c42 c4) (fun c42 => ?_)
      refine z_iconst (v := (0 : Int32)) C d_Mo_perform_56 (by decide) ?_
      exact z_zret C hr rfl hlk (t_recorded, t_lost, t_dropped, t_failed, t_pile, t_globals, t_own, t_records, t_keys, t_key, t_sum, t_least, t_greatest, t_count, t_bins) rfl hS5 d_Mo_perform_57
  · have hS3 := hS1.2 c2
    refine z_aload_n C d_Mo_perform_11 rfl 0 rfl ?_
    refine z_aload_n C d_Mo_perform_12 rfl 0 rfl ?_
    refine z_get C 0 rfl rfl in_Mo 8 (by decide) rfl wf_Mo_34 rfl d_Mo_perform_13 ?_
    refine z_iload_n C d_Mo_perform_16 rfl 1 rfl ?_
    refine z_iald C 2 0 rfl rfl hS3.1 d_Mo_perform_17 ?_
    have hS43 := hS3.2
    refine z_callVd (As := [.int (t_second x1.toNatClampNeg)]) (b := q_t) (st := []) (wr := [zaI K q_t_kind 340 t_kind, zaI K q_t_second 340 t_second, zaD K q_t_records 6 t_records, zaI K q_t_target 340 t_target, zaI K q_t_keys 3 t_keys, zaI K q_t_key 12 t_key, zaD K q_t_sum 12 t_sum, zaD K q_t_least 12 t_least, zaD K q_t_greatest 12 t_greatest, zaI K q_t_count 12 t_count, zaI K q_t_bins 96 t_bins, zaI K q_t_first 340 t_first]) (wj := fun u => [zo 6 q_t [.ref q_t_text, .ref q_t_code, .ref q_t_site, .ref q_t_condition, .ref q_t_actions, .ref q_t_kind, .ref q_t_target, .ref q_t_first, .ref q_t_second, .ref q_t_failures, .ref q_t_met, .ref q_t_there, .ref q_t_on, .ref q_t_compared, .ref q_t_globals, .ref q_t_own, .ref q_t_records, .ref q_t_pile, .ref q_t_handed, .ref q_t_keys, .ref q_t_key, .ref q_t_count, .ref q_t_bins, .ref q_t_operator, .ref q_t_starts, .ref q_t_sum, .ref q_t_least, .ref q_t_greatest, .int t_newSite, .int t_newCondition, .int t_newActions, .int t_size, .int t_place, .int t_pos, .int t_at, .int t_operators, .int t_recorded, .int t_lost, .int t_dropped, .int t_firings, .int t_time, .int t_thread, .int t_thrown, .int u.1], zaI K q_t_kind 340 t_kind, zaI K q_t_second 340 t_second, zaI K q_t_code 1400 t_code, zaD K q_t_pile 60 u.2, zaD K q_t_handed 3 t_handed, zaD K q_t_globals 3 t_globals, zaD K q_t_own 12 t_own, zaD K q_t_records 6 t_records, zaI K q_t_target 340 t_target, zaI K q_t_keys 3 t_keys, zaI K q_t_key 12 t_key, zaD K q_t_sum 12 t_sum, zaD K q_t_least 12 t_least, zaD K q_t_greatest 12 t_greatest, zaI K q_t_count 12 t_count, zaI K q_t_bins 96 t_bins, zaI K q_t_first 340 t_first]) C 0 rfl rfl (c_Mo_value l D K q_t q_t_text q_t_code q_t_site q_t_condition q_t_actions q_t_kind q_t_target q_t_first q_t_second q_t_failures q_t_met q_t_there q_t_on q_t_compared q_t_globals q_t_own q_t_records q_t_pile q_t_handed q_t_keys q_t_key q_t_count q_t_bins q_t_operator q_t_starts q_t_sum q_t_least q_t_greatest t_newSite t_newCondition t_newActions t_size t_place t_pos t_at t_operators t_recorded t_lost t_dropped t_firings t_time t_thread t_thrown t_failed t_code t_pile t_handed t_globals t_own (t_second x1.toNatClampNeg) hS43.1) (cwV 1 C.2.2.2.2.1 (z_gV wl_Mo_208 wi_Mo_value wv_Mo_value wz_Mo wk_Mo_value) rfl rfl rfl (by decide +kernel) ⟨Nat.le_of_ble_eq_true rfl, Nat.le_of_ble_eq_true rfl⟩) [0, 3, 4, 5, 6, 7] [1, 2, 8, 9, 10, 11, 12, 13, 14, 15, 16, 17] [12, 0, 1, 13, 14, 15, 16, 17, 2, 3, 4, 5, 6, 7, 8, 9, 10, 11] rfl rfl rfl rfl (by decide) (fun _ => rfl) rfl rfl rfl (Nat.le_of_ble_eq_true rfl) d_Mo_perform_18 ⟨Nat.le_of_ble_eq_true rfl, Nat.le_of_ble_eq_true rfl⟩ (fun r44 u45 e46 => ?_)
    obtain ⟨m47, m48⟩ := u45
    refine z_weq (ws' := [zo 6 q_t [.ref q_t_text, .ref q_t_code, .ref q_t_site, .ref q_t_condition, .ref q_t_actions, .ref q_t_kind, .ref q_t_target, .ref q_t_first, .ref q_t_second, .ref q_t_failures, .ref q_t_met, .ref q_t_there, .ref q_t_on, .ref q_t_compared, .ref q_t_globals, .ref q_t_own, .ref q_t_records, .ref q_t_pile, .ref q_t_handed, .ref q_t_keys, .ref q_t_key, .ref q_t_count, .ref q_t_bins, .ref q_t_operator, .ref q_t_starts, .ref q_t_sum, .ref q_t_least, .ref q_t_greatest, .int t_newSite, .int t_newCondition, .int t_newActions, .int t_size, .int t_place, .int t_pos, .int t_at, .int t_operators, .int t_recorded, .int t_lost, .int t_dropped, .int t_firings, .int t_time, .int t_thread, .int t_thrown, .int m47], zaI K q_t_kind 340 t_kind, zaI K q_t_second 340 t_second, zaI K q_t_code 1400 t_code, zaD K q_t_pile 60 m48, zaD K q_t_handed 3 t_handed, zaD K q_t_globals 3 t_globals, zaD K q_t_own 12 t_own, zaD K q_t_records 6 t_records, zaI K q_t_target 340 t_target, zaI K q_t_keys 3 t_keys, zaI K q_t_key 12 t_key, zaD K q_t_sum 12 t_sum, zaD K q_t_least 12 t_least, zaD K q_t_greatest 12 t_greatest, zaI K q_t_count 12 t_count, zaI K q_t_bins 96 t_bins, zaI K q_t_first 340 t_first]) rfl ?_
    have hS49 := hS43.2 r44 m47 m48 e46
    refine z_d2i C d_Mo_perform_21 ?_
    refine z_goto (tgt := 26) C d_Mo_perform_22 (by decide) ?_
    refine z_istore_n (lv' := [(2, .int (FP.d2i r44)), (0, .ref q_t), (1, .int x1)]) C d_Mo_perform_26 rfl (by decide) rfl ?_
    refine z_aload_n C d_Mo_perform_27 rfl 1 rfl ?_
    refine z_get C 0 rfl rfl in_Mo 43 (by decide) rfl wf_Mo_173 rfl d_Mo_perform_28 ?_
    refine z_if_eq (tgt := 38) C d_Mo_perform_31 (by decide) (fun c50 => ?_) (fun c50 => ?_)
    · have hS51 := hS49.1 c50
      refine z_aload_n C d_Mo_perform_38 rfl 1 rfl ?_
      refine z_aload_n C d_Mo_perform_39 rfl 1 rfl ?_
      refine z_get C 0 rfl rfl in_Mo 7 (by decide) rfl wf_Mo_31 rfl d_Mo_perform_40 ?_
      refine z_iload_n C d_Mo_perform_43 rfl 2 rfl ?_
      refine z_iald C 17 0 rfl rfl hS51.1 d_Mo_perform_44 ?_
      have hS52 := hS51.2
      refine z_callVd (As := [.int (t_first x1.toNatClampNeg)]) (b := q_t) (st := []) (wr := [zaI K q_t_kind 340 t_kind, zaI K q_t_second 340 t_second, zaD K q_t_records 6 t_records, zaI K q_t_target 340 t_target, zaI K q_t_keys 3 t_keys, zaI K q_t_key 12 t_key, zaD K q_t_sum 12 t_sum, zaD K q_t_least 12 t_least, zaD K q_t_greatest 12 t_greatest, zaI K q_t_count 12 t_count, zaI K q_t_bins 96 t_bins, zaI K q_t_first 340 t_first]) (wj := fun u => [zo 6 q_t [.ref q_t_text, .ref q_t_code, .ref q_t_site, .ref q_t_condition, .ref q_t_actions, .ref q_t_kind, .ref q_t_target, .ref q_t_first, .ref q_t_second, .ref q_t_failures, .ref q_t_met, .ref q_t_there, .ref q_t_on, .ref q_t_compared, .ref q_t_globals, .ref q_t_own, .ref q_t_records, .ref q_t_pile, .ref q_t_handed, .ref q_t_keys, .ref q_t_key, .ref q_t_count, .ref q_t_bins, .ref q_t_operator, .ref q_t_starts, .ref q_t_sum, .ref q_t_least, .ref q_t_greatest, .int t_newSite, .int t_newCondition, .int t_newActions, .int t_size, .int t_place, .int t_pos, .int t_at, .int t_operators, .int t_recorded, .int t_lost, .int t_dropped, .int t_firings, .int t_time, .int t_thread, .int t_thrown, .int u.1], zaI K q_t_kind 340 t_kind, zaI K q_t_second 340 t_second, zaI K q_t_code 1400 t_code, zaD K q_t_pile 60 u.2, zaD K q_t_handed 3 t_handed, zaD K q_t_globals 3 t_globals, zaD K q_t_own 12 t_own, zaD K q_t_records 6 t_records, zaI K q_t_target 340 t_target, zaI K q_t_keys 3 t_keys, zaI K q_t_key 12 t_key, zaD K q_t_sum 12 t_sum, zaD K q_t_least 12 t_least, zaD K q_t_greatest 12 t_greatest, zaI K q_t_count 12 t_count, zaI K q_t_bins 96 t_bins, zaI K q_t_first 340 t_first]) C 0 rfl rfl (c_Mo_value l D K q_t q_t_text q_t_code q_t_site q_t_condition q_t_actions q_t_kind q_t_target q_t_first q_t_second q_t_failures q_t_met q_t_there q_t_on q_t_compared q_t_globals q_t_own q_t_records q_t_pile q_t_handed q_t_keys q_t_key q_t_count q_t_bins q_t_operator q_t_starts q_t_sum q_t_least q_t_greatest t_newSite t_newCondition t_newActions t_size t_place t_pos t_at t_operators t_recorded t_lost t_dropped t_firings t_time t_thread t_thrown m47 t_code m48 t_handed t_globals t_own (t_first x1.toNatClampNeg) hS52.1) (cwV 1 C.2.2.2.2.1 (z_gV wl_Mo_208 wi_Mo_value wv_Mo_value wz_Mo wk_Mo_value) rfl rfl rfl (by decide +kernel) ⟨Nat.le_of_ble_eq_true rfl, Nat.le_of_ble_eq_true rfl⟩) [0, 3, 4, 5, 6, 7] [1, 2, 8, 9, 10, 11, 12, 13, 14, 15, 16, 17] [12, 0, 1, 13, 14, 15, 16, 17, 2, 3, 4, 5, 6, 7, 8, 9, 10, 11] rfl rfl rfl rfl (by decide) (fun _ => rfl) rfl rfl rfl (Nat.le_of_ble_eq_true rfl) d_Mo_perform_45 ⟨Nat.le_of_ble_eq_true rfl, Nat.le_of_ble_eq_true rfl⟩ (fun r53 u54 e55 => ?_)
      obtain ⟨m56, m57⟩ := u54
      refine z_weq (ws' := [zo 6 q_t [.ref q_t_text, .ref q_t_code, .ref q_t_site, .ref q_t_condition, .ref q_t_actions, .ref q_t_kind, .ref q_t_target, .ref q_t_first, .ref q_t_second, .ref q_t_failures, .ref q_t_met, .ref q_t_there, .ref q_t_on, .ref q_t_compared, .ref q_t_globals, .ref q_t_own, .ref q_t_records, .ref q_t_pile, .ref q_t_handed, .ref q_t_keys, .ref q_t_key, .ref q_t_count, .ref q_t_bins, .ref q_t_operator, .ref q_t_starts, .ref q_t_sum, .ref q_t_least, .ref q_t_greatest, .int t_newSite, .int t_newCondition, .int t_newActions, .int t_size, .int t_place, .int t_pos, .int t_at, .int t_operators, .int t_recorded, .int t_lost, .int t_dropped, .int t_firings, .int t_time, .int t_thread, .int t_thrown, .int m56], zaI K q_t_kind 340 t_kind, zaI K q_t_second 340 t_second, zaI K q_t_code 1400 t_code, zaD K q_t_pile 60 m57, zaD K q_t_handed 3 t_handed, zaD K q_t_globals 3 t_globals, zaD K q_t_own 12 t_own, zaD K q_t_records 6 t_records, zaI K q_t_target 340 t_target, zaI K q_t_keys 3 t_keys, zaI K q_t_key 12 t_key, zaD K q_t_sum 12 t_sum, zaD K q_t_least 12 t_least, zaD K q_t_greatest 12 t_greatest, zaI K q_t_count 12 t_count, zaI K q_t_bins 96 t_bins, zaI K q_t_first 340 t_first]) rfl ?_
      have hS58 := hS52.2 r53 m56 m57 e55
      refine z_dstore_n (lv' := [(3, .double r53), (2, .int (FP.d2i r44)), (0, .ref q_t), (1, .int x1)]) C d_Mo_perform_48 rfl (by decide) rfl ?_
      refine z_aload_n C d_Mo_perform_49 rfl 2 rfl ?_
      refine z_get C 0 rfl rfl in_Mo 43 (by decide) rfl wf_Mo_173 rfl d_Mo_perform_50 ?_
      refine z_if_eq (tgt := 58) C d_Mo_perform_53 (by decide) (fun c59 => ?_) (fun c59 => ?_)
      · have hS60 := hS58.1 c59
        refine z_aload_n C d_Mo_perform_58 rfl 2 rfl ?_
        refine z_get C 0 rfl rfl in_Mo 5 (by decide) rfl wf_Mo_25 rfl d_Mo_perform_59 ?_
        refine z_iload_n C d_Mo_perform_62 rfl 3 rfl ?_
        refine z_iald C 1 0 rfl rfl hS60.1 d_Mo_perform_63 ?_
        have hS61 := hS60.2
        refine z_bipush (v := (63 : Int32)) C d_Mo_perform_64 (by decide) ?_
        refine z_icmp_ne (tgt := 81) C d_Mo_perform_66 (by decide) (fun c62 => ?_) (fun c62 => ?_)
        · have hS63 := hS61.1 c62
          refine z_aload_n C d_Mo_perform_81 rfl 2 rfl ?_
          refine z_get C 0 rfl rfl in_Mo 5 (by decide) rfl wf_Mo_25 rfl d_Mo_perform_82 ?_
          refine z_iload_n C d_Mo_perform_85 rfl 3 rfl ?_
          refine z_iald C 1 0 rfl rfl hS63.1 d_Mo_perform_86 ?_
          have hS64 := hS63.2
          refine z_bipush (v := (33 : Int32)) C d_Mo_perform_87 (by decide) ?_
          refine z_icmp_ne (tgt := 100) C d_Mo_perform_89 (by decide) (fun c65 => ?_) (fun c65 => ?_)
          · have hS66 := hS64.1 c65
            refine z_aload_n C d_Mo_perform_100 rfl 2 rfl ?_
            refine z_get C 0 rfl rfl in_Mo 5 (by decide) rfl wf_Mo_25 rfl d_Mo_perform_101 ?_
            refine z_iload_n C d_Mo_perform_104 rfl 3 rfl ?_
            refine z_iald C 1 0 rfl rfl hS66.1 d_Mo_perform_105 ?_
            have hS67 := hS66.2
            refine z_bipush (v := (64 : Int32)) C d_Mo_perform_106 (by decide) ?_
            refine z_icmp_ne (tgt := 126) C d_Mo_perform_108 (by decide) (fun c68 => absurd c2 c68) (fun c68 => ?_)
            refine z_aload_n C d_Mo_perform_111 rfl 2 rfl ?_
            refine z_aload_n C d_Mo_perform_112 rfl 2 rfl ?_
            refine z_get C 0 rfl rfl in_Mo 6 (by decide) rfl wf_Mo_28 rfl d_Mo_perform_113 ?_
            refine z_iload_n C d_Mo_perform_116 rfl 3 rfl ?_
            refine z_iald C 9 0 rfl rfl hS67.1 d_Mo_perform_117 ?_
            have hS69 := hS67.2
            refine z_iload_n C d_Mo_perform_118 rfl 1 rfl ?_
            refine z_dload_n C d_Mo_perform_119 rfl 0 rfl ?_
            refine z_callVv (As := [.int (t_target x1.toNatClampNeg), .int (FP.d2i r44), .double r53]) (b := q_t) (st := []) (wr := [zaI K q_t_kind 340 t_kind, zaI K q_t_second 340 t_second, zaI K q_t_code 1400 t_code, zaD K q_t_pile 60 m57, zaD K q_t_handed 3 t_handed, zaD K q_t_globals 3 t_globals, zaD K q_t_own 12 t_own, zaD K q_t_records 6 t_records, zaI K q_t_target 340 t_target, zaI K q_t_first 340 t_first]) (wj := fun u => [zo 6 q_t [.ref q_t_text, .ref q_t_code, .ref q_t_site, .ref q_t_condition, .ref q_t_actions, .ref q_t_kind, .ref q_t_target, .ref q_t_first, .ref q_t_second, .ref q_t_failures, .ref q_t_met, .ref q_t_there, .ref q_t_on, .ref q_t_compared, .ref q_t_globals, .ref q_t_own, .ref q_t_records, .ref q_t_pile, .ref q_t_handed, .ref q_t_keys, .ref q_t_key, .ref q_t_count, .ref q_t_bins, .ref q_t_operator, .ref q_t_starts, .ref q_t_sum, .ref q_t_least, .ref q_t_greatest, .int t_newSite, .int t_newCondition, .int t_newActions, .int t_size, .int t_place, .int t_pos, .int t_at, .int t_operators, .int t_recorded, .int t_lost, .int u.1, .int t_firings, .int t_time, .int t_thread, .int t_thrown, .int u.2.1], zaI K q_t_kind 340 t_kind, zaI K q_t_second 340 t_second, zaI K q_t_code 1400 t_code, zaD K q_t_pile 60 m57, zaD K q_t_handed 3 t_handed, zaD K q_t_globals 3 t_globals, zaD K q_t_own 12 t_own, zaD K q_t_records 6 t_records, zaI K q_t_target 340 t_target, zaI K q_t_keys 3 u.2.2.1, zaI K q_t_key 12 u.2.2.2.1, zaD K q_t_sum 12 u.2.2.2.2.1, zaD K q_t_least 12 u.2.2.2.2.2.1, zaD K q_t_greatest 12 u.2.2.2.2.2.2.1, zaI K q_t_count 12 u.2.2.2.2.2.2.2.1, zaI K q_t_bins 96 u.2.2.2.2.2.2.2.2, zaI K q_t_first 340 t_first]) C 0 rfl rfl (c_Mo_gather l D K q_t q_t_text q_t_code q_t_site q_t_condition q_t_actions q_t_kind q_t_target q_t_first q_t_second q_t_failures q_t_met q_t_there q_t_on q_t_compared q_t_globals q_t_own q_t_records q_t_pile q_t_handed q_t_keys q_t_key q_t_count q_t_bins q_t_operator q_t_starts q_t_sum q_t_least q_t_greatest t_newSite t_newCondition t_newActions t_size t_place t_pos t_at t_operators t_recorded t_lost t_dropped t_firings t_time t_thread t_thrown m56 t_keys t_key t_sum t_least t_greatest t_count t_bins (t_target x1.toNatClampNeg) (FP.d2i r44) r53 hS69.1) (cwV 3 C.2.2.2.2.1 (z_gV wl_Mo_215 wi_Mo_gather wv_Mo_gather wz_Mo wk_Mo_gather) rfl rfl rfl (by decide +kernel) ⟨Nat.le_of_ble_eq_true rfl, Nat.le_of_ble_eq_true rfl⟩) [0, 10, 11, 12, 13, 14, 15, 16] [1, 2, 3, 4, 5, 6, 7, 8, 9, 17] [10, 0, 1, 2, 3, 4, 5, 6, 7, 8, 11, 12, 13, 14, 15, 16, 17, 9] rfl rfl rfl rfl (by decide) (fun _ => rfl) rfl rfl rfl (Nat.le_of_ble_eq_true rfl) d_Mo_perform_120 ⟨Nat.le_of_ble_eq_true rfl, Nat.le_of_ble_eq_true rfl⟩ (fun u71 e72 => ?_)
            obtain ⟨m73, m74, m75, m76, m77, m78, m79, m80, m81⟩ := u71
            refine z_weq (ws' := [zo 6 q_t [.ref q_t_text, .ref q_t_code, .ref q_t_site, .ref q_t_condition, .ref q_t_actions, .ref q_t_kind, .ref q_t_target, .ref q_t_first, .ref q_t_second, .ref q_t_failures, .ref q_t_met, .ref q_t_there, .ref q_t_on, .ref q_t_compared, .ref q_t_globals, .ref q_t_own, .ref q_t_records, .ref q_t_pile, .ref q_t_handed, .ref q_t_keys, .ref q_t_key, .ref q_t_count, .ref q_t_bins, .ref q_t_operator, .ref q_t_starts, .ref q_t_sum, .ref q_t_least, .ref q_t_greatest, .int t_newSite, .int t_newCondition, .int t_newActions, .int t_size, .int t_place, .int t_pos, .int t_at, .int t_operators, .int t_recorded, .int t_lost, .int m73, .int t_firings, .int t_time, .int t_thread, .int t_thrown, .int m74], zaI K q_t_kind 340 t_kind, zaI K q_t_second 340 t_second, zaI K q_t_code 1400 t_code, zaD K q_t_pile 60 m57, zaD K q_t_handed 3 t_handed, zaD K q_t_globals 3 t_globals, zaD K q_t_own 12 t_own, zaD K q_t_records 6 t_records, zaI K q_t_target 340 t_target, zaI K q_t_keys 3 m75, zaI K q_t_key 12 m76, zaD K q_t_sum 12 m77, zaD K q_t_least 12 m78, zaD K q_t_greatest 12 m79, zaI K q_t_count 12 m80, zaI K q_t_bins 96 m81, zaI K q_t_first 340 t_first]) rfl ?_
            have hS82 := hS69.2 m73 m74 m75 m76 m77 m78 m79 m80 m81 e72
            refine z_goto (tgt := 172) C d_Mo_perform_123 (by decide) ?_
            refine z_aload_n C d_Mo_perform_172 rfl 2 rfl ?_
            refine z_get C 0 rfl rfl in_Mo 43 (by decide) rfl wf_Mo_173 rfl d_Mo_perform_173 ?_
            refine z_if_ne (tgt := 183) C d_Mo_perform_176 (by decide) (fun c83 => ?_) (fun c83 => ?_)
            · have hS84 := hS82.1 c83
              refine z_iconst (v := (0 : Int32)) C d_Mo_perform_183 (by decide) ?_
              exact z_zret C hr rfl hlk (t_recorded, t_lost, m73, m74, m57, t_globals, t_own, t_records, m75, m76, m77, m78, m79, m80, m81) rfl hS84 d_Mo_perform_184
            · have hS84 := hS82.2 c83
              refine z_iconst (v := (1 : Int32)) C d_Mo_perform_179 (by decide) ?_
              refine z_goto (tgt := 184) C d_Mo_perform_180 (by decide) ?_
              exact z_zret C hr rfl hlk (t_recorded, t_lost, m73, m74, m57, t_globals, t_own, t_records, m75, m76, m77, m78, m79, m80, m81) rfl hS84 d_Mo_perform_184
          · have hS66 := hS64.2 c65
            refine z_aload_n C d_Mo_perform_92 rfl 2 rfl ?_
            refine z_dload_n C d_Mo_perform_93 rfl 0 rfl ?_
            refine z_callVv (As := [.double r53]) (b := q_t) (st := []) (wr := [zaI K q_t_kind 340 t_kind, zaI K q_t_second 340 t_second, zaI K q_t_code 1400 t_code, zaD K q_t_pile 60 m57, zaD K q_t_handed 3 t_handed, zaD K q_t_globals 3 t_globals, zaD K q_t_own 12 t_own, zaI K q_t_target 340 t_target, zaI K q_t_keys 3 t_keys, zaI K q_t_key 12 t_key, zaD K q_t_sum 12 t_sum, zaD K q_t_least 12 t_least, zaD K q_t_greatest 12 t_greatest, zaI K q_t_count 12 t_count, zaI K q_t_bins 96 t_bins, zaI K q_t_first 340 t_first]) (wj := fun u => [zo 6 q_t [.ref q_t_text, .ref q_t_code, .ref q_t_site, .ref q_t_condition, .ref q_t_actions, .ref q_t_kind, .ref q_t_target, .ref q_t_first, .ref q_t_second, .ref q_t_failures, .ref q_t_met, .ref q_t_there, .ref q_t_on, .ref q_t_compared, .ref q_t_globals, .ref q_t_own, .ref q_t_records, .ref q_t_pile, .ref q_t_handed, .ref q_t_keys, .ref q_t_key, .ref q_t_count, .ref q_t_bins, .ref q_t_operator, .ref q_t_starts, .ref q_t_sum, .ref q_t_least, .ref q_t_greatest, .int t_newSite, .int t_newCondition, .int t_newActions, .int t_size, .int t_place, .int t_pos, .int t_at, .int t_operators, .int u.1, .int u.2.1, .int t_dropped, .int t_firings, .int t_time, .int t_thread, .int t_thrown, .int m56], zaI K q_t_kind 340 t_kind, zaI K q_t_second 340 t_second, zaI K q_t_code 1400 t_code, zaD K q_t_pile 60 m57, zaD K q_t_handed 3 t_handed, zaD K q_t_globals 3 t_globals, zaD K q_t_own 12 t_own, zaD K q_t_records 6 u.2.2, zaI K q_t_target 340 t_target, zaI K q_t_keys 3 t_keys, zaI K q_t_key 12 t_key, zaD K q_t_sum 12 t_sum, zaD K q_t_least 12 t_least, zaD K q_t_greatest 12 t_greatest, zaI K q_t_count 12 t_count, zaI K q_t_bins 96 t_bins, zaI K q_t_first 340 t_first]) C 0 rfl rfl (c_Mo_put l D K q_t q_t_text q_t_code q_t_site q_t_condition q_t_actions q_t_kind q_t_target q_t_first q_t_second q_t_failures q_t_met q_t_there q_t_on q_t_compared q_t_globals q_t_own q_t_records q_t_pile q_t_handed q_t_keys q_t_key q_t_count q_t_bins q_t_operator q_t_starts q_t_sum q_t_least q_t_greatest t_newSite t_newCondition t_newActions t_size t_place t_pos t_at t_operators t_recorded t_lost t_dropped t_firings t_time t_thread t_thrown m56 t_records r53 hS66.1) (cwV 1 C.2.2.2.2.1 (z_gV wl_Mo_211 wi_Mo_put wv_Mo_put wz_Mo wk_Mo_put) rfl rfl rfl (by decide +kernel) ⟨Nat.le_of_ble_eq_true rfl, Nat.le_of_ble_eq_true rfl⟩) [0, 8] [1, 2, 3, 4, 5, 6, 7, 9, 10, 11, 12, 13, 14, 15, 16, 17] [16, 0, 1, 2, 3, 4, 5, 6, 17, 7, 8, 9, 10, 11, 12, 13, 14, 15] rfl rfl rfl rfl (by decide) (fun _ => rfl) rfl rfl rfl (Nat.le_of_ble_eq_true rfl) d_Mo_perform_94 ⟨Nat.le_of_ble_eq_true rfl, Nat.le_of_ble_eq_true rfl⟩ (fun u86 e87 => ?_)
            obtain ⟨m88, m89, m90⟩ := u86
            refine z_weq (ws' := [zo 6 q_t [.ref q_t_text, .ref q_t_code, .ref q_t_site, .ref q_t_condition, .ref q_t_actions, .ref q_t_kind, .ref q_t_target, .ref q_t_first, .ref q_t_second, .ref q_t_failures, .ref q_t_met, .ref q_t_there, .ref q_t_on, .ref q_t_compared, .ref q_t_globals, .ref q_t_own, .ref q_t_records, .ref q_t_pile, .ref q_t_handed, .ref q_t_keys, .ref q_t_key, .ref q_t_count, .ref q_t_bins, .ref q_t_operator, .ref q_t_starts, .ref q_t_sum, .ref q_t_least, .ref q_t_greatest, .int t_newSite, .int t_newCondition, .int t_newActions, .int t_size, .int t_place, .int t_pos, .int t_at, .int t_operators, .int m88, .int m89, .int t_dropped, .int t_firings, .int t_time, .int t_thread, .int t_thrown, .int m56], zaI K q_t_kind 340 t_kind, zaI K q_t_second 340 t_second, zaI K q_t_code 1400 t_code, zaD K q_t_pile 60 m57, zaD K q_t_handed 3 t_handed, zaD K q_t_globals 3 t_globals, zaD K q_t_own 12 t_own, zaD K q_t_records 6 m90, zaI K q_t_target 340 t_target, zaI K q_t_keys 3 t_keys, zaI K q_t_key 12 t_key, zaD K q_t_sum 12 t_sum, zaD K q_t_least 12 t_least, zaD K q_t_greatest 12 t_greatest, zaI K q_t_count 12 t_count, zaI K q_t_bins 96 t_bins, zaI K q_t_first 340 t_first]) rfl ?_
            have hS91 := hS66.2 m88 m89 m90 e87
            refine z_goto (tgt := 172) C d_Mo_perform_97 (by decide) ?_
            refine z_aload_n C d_Mo_perform_172 rfl 2 rfl ?_
            refine z_get C 0 rfl rfl in_Mo 43 (by decide) rfl wf_Mo_173 rfl d_Mo_perform_173 ?_
            refine z_if_ne (tgt := 183) C d_Mo_perform_176 (by decide) (fun c92 => absurd c59 c92) (fun c92 => ?_)
            refine z_iconst (v := (1 : Int32)) C d_Mo_perform_179 (by decide) ?_
            refine z_goto (tgt := 184) C d_Mo_perform_180 (by decide) ?_
            exact z_zret C hr rfl hlk (m88, m89, t_dropped, m56, m57, t_globals, t_own, m90, t_keys, t_key, t_sum, t_least, t_greatest, t_count, t_bins) rfl hS91 d_Mo_perform_184
        · have hS63 := hS61.2 c62
          refine z_dload_n C d_Mo_perform_69 rfl 0 rfl ?_
          refine z_dconst0 C d_Mo_perform_70 ?_
          refine z_dcmp C d_Mo_perform_71 ?_
          refine z_if_eq (tgt := 79) C d_Mo_perform_72 (by decide) (fun c93 => ?_) (fun c93 => ?_)
          · have hS94 := hS63.1 c93
            refine z_iconst (v := (0 : Int32)) C d_Mo_perform_79 (by decide) ?_
            exact z_zret C hr rfl hlk (t_recorded, t_lost, t_dropped, m56, m57, t_globals, t_own, t_records, t_keys, t_key, t_sum, t_least, t_greatest, t_count, t_bins) rfl hS94 d_Mo_perform_80
          · have hS94 := hS63.2 c93
            refine z_iconst (v := (1 : Int32)) C d_Mo_perform_75 (by decide) ?_
            refine z_goto (tgt := 80) C d_Mo_perform_76 (by decide) ?_
            exact z_zret C hr rfl hlk (t_recorded, t_lost, t_dropped, m56, m57, t_globals, t_own, t_records, t_keys, t_key, t_sum, t_least, t_greatest, t_count, t_bins) rfl hS94 d_Mo_perform_80
      · have hS60 := hS58.2 c59
        refine z_iconst (v := (0 : Int32)) C d_Mo_perform_56 (by decide) ?_
        exact z_zret C hr rfl hlk (t_recorded, t_lost, t_dropped, m56, m57, t_globals, t_own, t_records, t_keys, t_key, t_sum, t_least, t_greatest, t_count, t_bins) rfl hS60 d_Mo_perform_57
    · have hS51 := hS49.2 c50
      refine z_dconst0 C d_Mo_perform_34 ?_
      refine z_goto (tgt := 48) C d_Mo_perform_35 (by decide) ?_
      refine z_dstore_n (lv' := [(3, .double FP.dconst0), (2, .int (FP.d2i r44)), (0, .ref q_t), (1, .int x1)]) C d_Mo_perform_48 rfl (by decide) rfl ?_
      refine z_aload_n C d_Mo_perform_49 rfl 2 rfl ?_
      refine z_get C 0 rfl rfl in_Mo 43 (by decide) rfl wf_Mo_173 rfl d_Mo_perform_50 ?_
      refine z_if_eq (tgt := 58) C d_Mo_perform_53 (by decide) (fun c95 => absurd c95 c50) (fun c95 => ?_)
      refine z_iconst (v := (0 : Int32)) C d_Mo_perform_56 (by decide) ?_
      exact z_zret C hr rfl hlk (t_recorded, t_lost, t_dropped, m47, m48, t_globals, t_own, t_records, t_keys, t_key, t_sum, t_least, t_greatest, t_count, t_bins) rfl hS51 d_Mo_perform_57
def s_Mo_perform (t_recorded : Int32) (t_lost : Int32) (t_dropped : Int32) (t_time : Int32) (t_thread : Int32) (t_failed : Int32) (t_kind : Nat → Int32) (t_second : Nat → Int32) (t_code : Nat → Int32) (t_pile : Nat → UInt64) (t_handed : Nat → UInt64) (t_globals : Nat → UInt64) (t_own : Nat → UInt64) (t_records : Nat → UInt64) (t_target : Nat → Int32) (t_keys : Nat → Int32) (t_key : Nat → Int32) (t_sum : Nat → UInt64) (t_least : Nat → UInt64) (t_greatest : Nat → UInt64) (t_count : Nat → Int32) (t_bins : Nat → Int32) (t_first : Nat → Int32) (x1 : Int32) : Int32 × Int32 × Int32 × Int32 × Int32 × (Nat → UInt64) × (Nat → UInt64) × (Nat → UInt64) × (Nat → UInt64) × (Nat → Int32) × (Nat → Int32) × (Nat → UInt64) × (Nat → UInt64) × (Nat → UInt64) × (Nat → Int32) × (Nat → Int32) := (if (t_kind x1.toNatClampNeg) = (64 : Int32) then (zl2 (s_Mo_value t_time t_thread t_failed t_code t_pile t_handed t_globals t_own (t_second x1.toNatClampNeg)) (fun r44 z_r44 => zl2 z_r44 (fun m47 m48 => (if m47 = 0 then (zl2 (s_Mo_value t_time t_thread m47 t_code m48 t_handed t_globals t_own (t_first x1.toNatClampNeg)) (fun r53 z_r53 => zl2 z_r53 (fun m56 m57 => (if m56 = 0 then (if (t_kind x1.toNatClampNeg) = (63 : Int32) then (if (Op.cmpValue (FP.dcmp r53 FP.dconst0) .l) = 0 then ((0 : Int32), t_recorded, t_lost, t_dropped, m56, m57, t_globals, t_own, t_records, t_keys, t_key, t_sum, t_least, t_greatest, t_count, t_bins) else ((1 : Int32), t_recorded, t_lost, t_dropped, m56, m57, t_globals, t_own, t_records, t_keys, t_key, t_sum, t_least, t_greatest, t_count, t_bins)) else (if (t_kind x1.toNatClampNeg) = (33 : Int32) then (zl2 (s_Mo_put t_recorded t_lost t_records r53) (fun m88 z_m88 => zl2 z_m88 (fun m89 m90 => ((1 : Int32), m88, m89, t_dropped, m56, m57, t_globals, t_own, m90, t_keys, t_key, t_sum, t_least, t_greatest, t_count, t_bins)))) else (zl2 (s_Mo_gather t_dropped m56 t_keys t_key t_sum t_least t_greatest t_count t_bins (t_target x1.toNatClampNeg) (FP.d2i r44) r53) (fun m73 z_m73 => zl2 z_m73 (fun m74 z_m74 => zl2 z_m74 (fun m75 z_m75 => zl2 z_m75 (fun m76 z_m76 => zl2 z_m76 (fun m77 z_m77 => zl2 z_m77 (fun m78 z_m78 => zl2 z_m78 (fun m79 z_m79 => zl2 z_m79 (fun m80 m81 => (if m74 = 0 then ((1 : Int32), t_recorded, t_lost, m73, m74, m57, t_globals, t_own, t_records, m75, m76, m77, m78, m79, m80, m81) else ((0 : Int32), t_recorded, t_lost, m73, m74, m57, t_globals, t_own, t_records, m75, m76, m77, m78, m79, m80, m81))))))))))))) else ((0 : Int32), t_recorded, t_lost, t_dropped, m56, m57, t_globals, t_own, t_records, t_keys, t_key, t_sum, t_least, t_greatest, t_count, t_bins))))) else ((0 : Int32), t_recorded, t_lost, t_dropped, m47, m48, t_globals, t_own, t_records, t_keys, t_key, t_sum, t_least, t_greatest, t_count, t_bins))))) else (if t_failed = 0 then (zl2 (s_Mo_value t_time t_thread t_failed t_code t_pile t_handed t_globals t_own (t_first x1.toNatClampNeg)) (fun r7 z_r7 => zl2 z_r7 (fun m10 m11 => (if m10 = 0 then (if (t_kind x1.toNatClampNeg) = (63 : Int32) then (if (Op.cmpValue (FP.dcmp r7 FP.dconst0) .l) = 0 then ((0 : Int32), t_recorded, t_lost, t_dropped, m10, m11, t_globals, t_own, t_records, t_keys, t_key, t_sum, t_least, t_greatest, t_count, t_bins) else ((1 : Int32), t_recorded, t_lost, t_dropped, m10, m11, t_globals, t_own, t_records, t_keys, t_key, t_sum, t_least, t_greatest, t_count, t_bins)) else (if (t_kind x1.toNatClampNeg) = (33 : Int32) then (zl2 (s_Mo_put t_recorded t_lost t_records r7) (fun m35 z_m35 => zl2 z_m35 (fun m36 m37 => ((1 : Int32), m35, m36, t_dropped, m10, m11, t_globals, t_own, m37, t_keys, t_key, t_sum, t_least, t_greatest, t_count, t_bins)))) else (if (3 : Int32) ≤ (t_target x1.toNatClampNeg) then ((1 : Int32), t_recorded, t_lost, t_dropped, m10, m11, t_globals, vf_upd t_own (((t_thread * (3 : Int32)) + (t_target x1.toNatClampNeg)) - (3 : Int32)).toNatClampNeg r7, t_records, t_keys, t_key, t_sum, t_least, t_greatest, t_count, t_bins) else ((1 : Int32), t_recorded, t_lost, t_dropped, m10, m11, vf_upd t_globals (t_target x1.toNatClampNeg).toNatClampNeg r7, t_own, t_records, t_keys, t_key, t_sum, t_least, t_greatest, t_count, t_bins)))) else ((0 : Int32), t_recorded, t_lost, t_dropped, m10, m11, t_globals, t_own, t_records, t_keys, t_key, t_sum, t_least, t_greatest, t_count, t_bins))))) else ((0 : Int32), t_recorded, t_lost, t_dropped, t_failed, t_pile, t_globals, t_own, t_records, t_keys, t_key, t_sum, t_least, t_greatest, t_count, t_bins)))
def p_Mo_perform (t_recorded : Int32) (t_lost : Int32) (t_dropped : Int32) (t_time : Int32) (t_thread : Int32) (t_failed : Int32) (t_kind : Nat → Int32) (t_second : Nat → Int32) (t_code : Nat → Int32) (t_pile : Nat → UInt64) (t_handed : Nat → UInt64) (t_globals : Nat → UInt64) (t_own : Nat → UInt64) (t_records : Nat → UInt64) (t_target : Nat → Int32) (t_keys : Nat → Int32) (t_key : Nat → Int32) (t_sum : Nat → UInt64) (t_least : Nat → UInt64) (t_greatest : Nat → UInt64) (t_count : Nat → Int32) (t_bins : Nat → Int32) (t_first : Nat → Int32) (x1 : Int32) : Prop := WP_Mo_perform t_recorded t_lost t_dropped t_time t_thread t_failed t_kind t_second t_code t_pile t_handed t_globals t_own t_records t_target t_keys t_key t_sum t_least t_greatest t_count t_bins t_first x1 (fun _ _ => True)
set_option maxRecDepth 100000 in
theorem v_Mo_perform (t_recorded : Int32) (t_lost : Int32) (t_dropped : Int32) (t_time : Int32) (t_thread : Int32) (t_failed : Int32) (t_kind : Nat → Int32) (t_second : Nat → Int32) (t_code : Nat → Int32) (t_pile : Nat → UInt64) (t_handed : Nat → UInt64) (t_globals : Nat → UInt64) (t_own : Nat → UInt64) (t_records : Nat → UInt64) (t_target : Nat → Int32) (t_keys : Nat → Int32) (t_key : Nat → Int32) (t_sum : Nat → UInt64) (t_least : Nat → UInt64) (t_greatest : Nat → UInt64) (t_count : Nat → Int32) (t_bins : Nat → Int32) (t_first : Nat → Int32) (x1 : Int32) (hp : p_Mo_perform t_recorded t_lost t_dropped t_time t_thread t_failed t_kind t_second t_code t_pile t_handed t_globals t_own t_records t_target t_keys t_key t_sum t_least t_greatest t_count t_bins t_first x1) : WP_Mo_perform t_recorded t_lost t_dropped t_time t_thread t_failed t_kind t_second t_code t_pile t_handed t_globals t_own t_records t_target t_keys t_key t_sum t_least t_greatest t_count t_bins t_first x1 (fun r u => s_Mo_perform t_recorded t_lost t_dropped t_time t_thread t_failed t_kind t_second t_code t_pile t_handed t_globals t_own t_records t_target t_keys t_key t_sum t_least t_greatest t_count t_bins t_first x1 = (r, u.1, u.2.1, u.2.2.1, u.2.2.2.1, u.2.2.2.2.1, u.2.2.2.2.2.1, u.2.2.2.2.2.2.1, u.2.2.2.2.2.2.2.1, u.2.2.2.2.2.2.2.2.1, u.2.2.2.2.2.2.2.2.2.1, u.2.2.2.2.2.2.2.2.2.2.1, u.2.2.2.2.2.2.2.2.2.2.2.1, u.2.2.2.2.2.2.2.2.2.2.2.2.1, u.2.2.2.2.2.2.2.2.2.2.2.2.2.1, u.2.2.2.2.2.2.2.2.2.2.2.2.2.2)) := by
  unfold p_Mo_perform WP_Mo_perform at hp
  obtain ⟨tgt, f0⟩ : ∃ tgt, s_Mo_perform t_recorded t_lost t_dropped t_time t_thread t_failed t_kind t_second t_code t_pile t_handed t_globals t_own t_records t_target t_keys t_key t_sum t_least t_greatest t_count t_bins t_first x1 = tgt := ⟨_, rfl⟩
  rw [f0]
  unfold s_Mo_perform at f0
  unfold WP_Mo_perform
  refine ⟨hp.1, ?_⟩
  have g1 := hp.2
  refine ⟨fun c2 => ?_, fun c2 => ?_⟩
  · have f2 := Eq.trans (Eq.symm (if_neg c2)) f0
    have g2 := g1.1 c2
    refine ⟨fun c4 => ?_, fun c4 => ?_⟩
    · have f3 := Eq.trans (Eq.symm (if_pos c4)) f2
      have g3 := g2.1 c4
      refine ⟨g3.1, ?_⟩
      have g4 := g3.2
      refine ⟨g4.1, ?_⟩
      have g6 := g4.2
      intro r7 m10 m11 e9
      have g5 := g6 r7 m10 m11 e9
      have f5 := Eq.trans (Eq.symm (zl2_eq e9)) f3
      have f5 := Eq.trans (Eq.symm (zl2_eq (Eq.refl (m10, m11)))) f5
      refine ⟨fun c13 => ?_, fun c13 => ?_⟩
      · have f7 := Eq.trans (Eq.symm (if_pos c13)) f5
        have g7 := g5.1 c13
        refine ⟨g7.1, ?_⟩
        have g8 := g7.2
        refine ⟨fun c16 => ?_, fun c16 => ?_⟩
        · have f9 := Eq.trans (Eq.symm (if_neg c16)) f7
          have g9 := g8.1 c16
          refine ⟨g9.1, ?_⟩
          have g10 := g9.2
          refine ⟨fun c19 => ?_, fun c19 => ?_⟩
          · have f11 := Eq.trans (Eq.symm (if_neg c19)) f9
            have g11 := g10.1 c19
            refine ⟨g11.1, ?_⟩
            have g12 := g11.2
            refine ⟨g12.1, ?_⟩
            have g13 := g12.2
            refine ⟨fun c24 => ?_, fun c24 => ?_⟩
            · have f14 := Eq.trans (Eq.symm (if_pos c24)) f11
              have g14 := g13.1 c24
              refine ⟨g14.1, ?_⟩
              have g15 := g14.2
              refine ⟨g15.1, ?_⟩
              have g16 := g15.2
              exact f14.symm
            · have f14 := Eq.trans (Eq.symm (if_neg c24)) f11
              have g14 := g13.2 c24
              refine ⟨g14.1, ?_⟩
              have g17 := g14.2
              refine ⟨g17.1, ?_⟩
              have g18 := g17.2
              exact f14.symm
          · have f11 := Eq.trans (Eq.symm (if_pos c19)) f9
            have g11 := g10.2 c19
            refine ⟨g11.1, ?_⟩
            have g20 := g11.2
            intro m35 m36 m37 e34
            have g19 := g20 m35 m36 m37 e34
            have f19 := Eq.trans (Eq.symm (zl2_eq e34)) f11
            have f19 := Eq.trans (Eq.symm (zl2_eq (Eq.refl (m36, m37)))) f19
            exact f19.symm
        · have f9 := Eq.trans (Eq.symm (if_pos c16)) f7
          have g9 := g8.2 c16
          refine ⟨fun c40 => ?_, fun c40 => ?_⟩
          · have f21 := Eq.trans (Eq.symm (if_pos c40)) f9
            have g21 := g9.1 c40
            exact f21.symm
          · have f21 := Eq.trans (Eq.symm (if_neg c40)) f9
            have g21 := g9.2 c40
            exact f21.symm
      · have f7 := Eq.trans (Eq.symm (if_neg c13)) f5
        have g7 := g5.2 c13
        exact f7.symm
    · have f3 := Eq.trans (Eq.symm (if_neg c4)) f2
      have g3 := g2.2 c4
      exact f3.symm
  · have f2 := Eq.trans (Eq.symm (if_pos c2)) f0
    have g2 := g1.2 c2
    refine ⟨g2.1, ?_⟩
    have g22 := g2.2
    refine ⟨g22.1, ?_⟩
    have g24 := g22.2
    intro r44 m47 m48 e46
    have g23 := g24 r44 m47 m48 e46
    have f23 := Eq.trans (Eq.symm (zl2_eq e46)) f2
    have f23 := Eq.trans (Eq.symm (zl2_eq (Eq.refl (m47, m48)))) f23
    refine ⟨fun c50 => ?_, fun c50 => ?_⟩
    · have f25 := Eq.trans (Eq.symm (if_pos c50)) f23
      have g25 := g23.1 c50
      refine ⟨g25.1, ?_⟩
      have g26 := g25.2
      refine ⟨g26.1, ?_⟩
      have g28 := g26.2
      intro r53 m56 m57 e55
      have g27 := g28 r53 m56 m57 e55
      have f27 := Eq.trans (Eq.symm (zl2_eq e55)) f25
      have f27 := Eq.trans (Eq.symm (zl2_eq (Eq.refl (m56, m57)))) f27
      refine ⟨fun c59 => ?_, fun c59 => ?_⟩
      · have f29 := Eq.trans (Eq.symm (if_pos c59)) f27
        have g29 := g27.1 c59
        refine ⟨g29.1, ?_⟩
        have g30 := g29.2
        refine ⟨fun c62 => ?_, fun c62 => ?_⟩
        · have f31 := Eq.trans (Eq.symm (if_neg c62)) f29
          have g31 := g30.1 c62
          refine ⟨g31.1, ?_⟩
          have g32 := g31.2
          refine ⟨fun c65 => ?_, fun c65 => ?_⟩
          · have f33 := Eq.trans (Eq.symm (if_neg c65)) f31
            have g33 := g32.1 c65
            refine ⟨g33.1, ?_⟩
            have g34 := g33.2
            refine ⟨g34.1, ?_⟩
            have g35 := g34.2
            refine ⟨g35.1, ?_⟩
            have g37 := g35.2
            intro m73 m74 m75 m76 m77 m78 m79 m80 m81 e72
            have g36 := g37 m73 m74 m75 m76 m77 m78 m79 m80 m81 e72
            have f36 := Eq.trans (Eq.symm (zl2_eq e72)) f33
            have f36 := Eq.trans (Eq.symm (zl2_eq (Eq.refl (m74, m75, m76, m77, m78, m79, m80, m81)))) f36
            have f36 := Eq.trans (Eq.symm (zl2_eq (Eq.refl (m75, m76, m77, m78, m79, m80, m81)))) f36
            have f36 := Eq.trans (Eq.symm (zl2_eq (Eq.refl (m76, m77, m78, m79, m80, m81)))) f36
            have f36 := Eq.trans (Eq.symm (zl2_eq (Eq.refl (m77, m78, m79, m80, m81)))) f36
            have f36 := Eq.trans (Eq.symm (zl2_eq (Eq.refl (m78, m79, m80, m81)))) f36
            have f36 := Eq.trans (Eq.symm (zl2_eq (Eq.refl (m79, m80, m81)))) f36
            have f36 := Eq.trans (Eq.symm (zl2_eq (Eq.refl (m80, m81)))) f36
            refine ⟨fun c83 => ?_, fun c83 => ?_⟩
            · have f38 := Eq.trans (Eq.symm (if_neg c83)) f36
              have g38 := g36.1 c83
              exact f38.symm
            · have f38 := Eq.trans (Eq.symm (if_pos c83)) f36
              have g38 := g36.2 c83
              exact f38.symm
          · have f33 := Eq.trans (Eq.symm (if_pos c65)) f31
            have g33 := g32.2 c65
            refine ⟨g33.1, ?_⟩
            have g40 := g33.2
            intro m88 m89 m90 e87
            have g39 := g40 m88 m89 m90 e87
            have f39 := Eq.trans (Eq.symm (zl2_eq e87)) f33
            have f39 := Eq.trans (Eq.symm (zl2_eq (Eq.refl (m89, m90)))) f39
            exact f39.symm
        · have f31 := Eq.trans (Eq.symm (if_pos c62)) f29
          have g31 := g30.2 c62
          refine ⟨fun c93 => ?_, fun c93 => ?_⟩
          · have f41 := Eq.trans (Eq.symm (if_pos c93)) f31
            have g41 := g31.1 c93
            exact f41.symm
          · have f41 := Eq.trans (Eq.symm (if_neg c93)) f31
            have g41 := g31.2 c93
            exact f41.symm
      · have f29 := Eq.trans (Eq.symm (if_neg c59)) f27
        have g29 := g27.2 c59
        exact f29.symm
    · have f25 := Eq.trans (Eq.symm (if_neg c50)) f23
      have g25 := g23.2 c50
      exact f25.symm
theorem c_Mo_perform (l : Launch) (D : va_G) (K : Nat → ClassId) (q_t : Nat) (q_t_text : Nat) (q_t_code : Nat) (q_t_site : Nat) (q_t_condition : Nat) (q_t_actions : Nat) (q_t_kind : Nat) (q_t_target : Nat) (q_t_first : Nat) (q_t_second : Nat) (q_t_failures : Nat) (q_t_met : Nat) (q_t_there : Nat) (q_t_on : Nat) (q_t_compared : Nat) (q_t_globals : Nat) (q_t_own : Nat) (q_t_records : Nat) (q_t_pile : Nat) (q_t_handed : Nat) (q_t_keys : Nat) (q_t_key : Nat) (q_t_count : Nat) (q_t_bins : Nat) (q_t_operator : Nat) (q_t_starts : Nat) (q_t_sum : Nat) (q_t_least : Nat) (q_t_greatest : Nat) (t_newSite : Int32) (t_newCondition : Int32) (t_newActions : Int32) (t_size : Int32) (t_place : Int32) (t_pos : Int32) (t_at : Int32) (t_operators : Int32) (t_recorded : Int32) (t_lost : Int32) (t_dropped : Int32) (t_firings : Int32) (t_time : Int32) (t_thread : Int32) (t_thrown : Int32) (t_failed : Int32) (t_kind : Nat → Int32) (t_second : Nat → Int32) (t_code : Nat → Int32) (t_pile : Nat → UInt64) (t_handed : Nat → UInt64) (t_globals : Nat → UInt64) (t_own : Nat → UInt64) (t_records : Nat → UInt64) (t_target : Nat → Int32) (t_keys : Nat → Int32) (t_key : Nat → Int32) (t_sum : Nat → UInt64) (t_least : Nat → UInt64) (t_greatest : Nat → UInt64) (t_count : Nat → Int32) (t_bins : Nat → Int32) (t_first : Nat → Int32) (x1 : Int32) (hp : p_Mo_perform t_recorded t_lost t_dropped t_time t_thread t_failed t_kind t_second t_code t_pile t_handed t_globals t_own t_records t_target t_keys t_key t_sum t_least t_greatest t_count t_bins t_first x1) : zCi l y_Mo_perform wy_Mo_perform rm_Mo_perform D zcl (zT K) [.ref q_t, .int x1] (w_Mo_perform K q_t q_t_text q_t_code q_t_site q_t_condition q_t_actions q_t_kind q_t_target q_t_first q_t_second q_t_failures q_t_met q_t_there q_t_on q_t_compared q_t_globals q_t_own q_t_records q_t_pile q_t_handed q_t_keys q_t_key q_t_count q_t_bins q_t_operator q_t_starts q_t_sum q_t_least q_t_greatest t_newSite t_newCondition t_newActions t_size t_place t_pos t_at t_operators t_firings t_time t_thread t_thrown t_kind t_second t_code t_handed t_target t_first (t_recorded, t_lost, t_dropped, t_failed, t_pile, t_globals, t_own, t_records, t_keys, t_key, t_sum, t_least, t_greatest, t_count, t_bins)) (w_Mo_perform K q_t q_t_text q_t_code q_t_site q_t_condition q_t_actions q_t_kind q_t_target q_t_first q_t_second q_t_failures q_t_met q_t_there q_t_on q_t_compared q_t_globals q_t_own q_t_records q_t_pile q_t_handed q_t_keys q_t_key q_t_count q_t_bins q_t_operator q_t_starts q_t_sum q_t_least q_t_greatest t_newSite t_newCondition t_newActions t_size t_place t_pos t_at t_operators t_firings t_time t_thread t_thrown t_kind t_second t_code t_handed t_target t_first) (fun r u => s_Mo_perform t_recorded t_lost t_dropped t_time t_thread t_failed t_kind t_second t_code t_pile t_handed t_globals t_own t_records t_target t_keys t_key t_sum t_least t_greatest t_count t_bins t_first x1 = (r, u.1, u.2.1, u.2.2.1, u.2.2.2.1, u.2.2.2.2.1, u.2.2.2.2.2.1, u.2.2.2.2.2.2.1, u.2.2.2.2.2.2.2.1, u.2.2.2.2.2.2.2.2.1, u.2.2.2.2.2.2.2.2.2.1, u.2.2.2.2.2.2.2.2.2.2.1, u.2.2.2.2.2.2.2.2.2.2.2.1, u.2.2.2.2.2.2.2.2.2.2.2.2.1, u.2.2.2.2.2.2.2.2.2.2.2.2.2.1, u.2.2.2.2.2.2.2.2.2.2.2.2.2.2)) 0 0 := cw_Mo_perform l D K q_t q_t_text q_t_code q_t_site q_t_condition q_t_actions q_t_kind q_t_target q_t_first q_t_second q_t_failures q_t_met q_t_there q_t_on q_t_compared q_t_globals q_t_own q_t_records q_t_pile q_t_handed q_t_keys q_t_key q_t_count q_t_bins q_t_operator q_t_starts q_t_sum q_t_least q_t_greatest t_newSite t_newCondition t_newActions t_size t_place t_pos t_at t_operators t_recorded t_lost t_dropped t_firings t_time t_thread t_thrown t_failed t_kind t_second t_code t_pile t_handed t_globals t_own t_records t_target t_keys t_key t_sum t_least t_greatest t_count t_bins t_first x1 (v_Mo_perform t_recorded t_lost t_dropped t_time t_thread t_failed t_kind t_second t_code t_pile t_handed t_globals t_own t_records t_target t_keys t_key t_sum t_least t_greatest t_count t_bins t_first x1 hp)
-- RuleTracerModel.doRule(I)V: reads ['t.recorded', 't.lost', 't.dropped', 't.time', 't.thread', 't.failed', 't.condition', 't.code', 't.pile', 't.handed', 't.globals', 't.own', 't.met', 't.actions', 't.kind', 't.second', 't.records', 't.target', 't.keys', 't.key', 't.sum', 't.least', 't.greatest', 't.count', 't.bins', 't.first', 't.failures'], changes ['t.recorded', 't.lost', 't.dropped', 't.failed', 't.pile', 't.globals', 't.own', 't.met', 't.records', 't.keys', 't.key', 't.sum', 't.least', 't.greatest', 't.count', 't.bins', 't.failures']
abbrev w_Mo_doRule (K : Nat → ClassId) (q_t : Nat) (q_t_text : Nat) (q_t_code : Nat) (q_t_site : Nat) (q_t_condition : Nat) (q_t_actions : Nat) (q_t_kind : Nat) (q_t_target : Nat) (q_t_first : Nat) (q_t_second : Nat) (q_t_failures : Nat) (q_t_met : Nat) (q_t_there : Nat) (q_t_on : Nat) (q_t_compared : Nat) (q_t_globals : Nat) (q_t_own : Nat) (q_t_records : Nat) (q_t_pile : Nat) (q_t_handed : Nat) (q_t_keys : Nat) (q_t_key : Nat) (q_t_count : Nat) (q_t_bins : Nat) (q_t_operator : Nat) (q_t_starts : Nat) (q_t_sum : Nat) (q_t_least : Nat) (q_t_greatest : Nat) (t_newSite : Int32) (t_newCondition : Int32) (t_newActions : Int32) (t_size : Int32) (t_place : Int32) (t_pos : Int32) (t_at : Int32) (t_operators : Int32) (t_firings : Int32) (t_time : Int32) (t_thread : Int32) (t_thrown : Int32) (t_condition : Nat → Int32) (t_code : Nat → Int32) (t_handed : Nat → UInt64) (t_actions : Nat → Int32) (t_kind : Nat → Int32) (t_second : Nat → Int32) (t_target : Nat → Int32) (t_first : Nat → Int32) (u : Int32 × Int32 × Int32 × Int32 × (Nat → UInt64) × (Nat → UInt64) × (Nat → UInt64) × (Nat → Int32) × (Nat → UInt64) × (Nat → Int32) × (Nat → Int32) × (Nat → UInt64) × (Nat → UInt64) × (Nat → UInt64) × (Nat → Int32) × (Nat → Int32) × (Nat → Int32)) : va_W := [zo 6 q_t [.ref q_t_text, .ref q_t_code, .ref q_t_site, .ref q_t_condition, .ref q_t_actions, .ref q_t_kind, .ref q_t_target, .ref q_t_first, .ref q_t_second, .ref q_t_failures, .ref q_t_met, .ref q_t_there, .ref q_t_on, .ref q_t_compared, .ref q_t_globals, .ref q_t_own, .ref q_t_records, .ref q_t_pile, .ref q_t_handed, .ref q_t_keys, .ref q_t_key, .ref q_t_count, .ref q_t_bins, .ref q_t_operator, .ref q_t_starts, .ref q_t_sum, .ref q_t_least, .ref q_t_greatest, .int t_newSite, .int t_newCondition, .int t_newActions, .int t_size, .int t_place, .int t_pos, .int t_at, .int t_operators, .int u.1, .int u.2.1, .int u.2.2.1, .int t_firings, .int t_time, .int t_thread, .int t_thrown, .int u.2.2.2.1], zaI K q_t_condition 6 t_condition, zaI K q_t_code 1400 t_code, zaD K q_t_pile 60 u.2.2.2.2.1, zaD K q_t_handed 3 t_handed, zaD K q_t_globals 3 u.2.2.2.2.2.1, zaD K q_t_own 12 u.2.2.2.2.2.2.1, zaI K q_t_met 6 u.2.2.2.2.2.2.2.1, zaI K q_t_actions 6 t_actions, zaI K q_t_kind 340 t_kind, zaI K q_t_second 340 t_second, zaD K q_t_records 6 u.2.2.2.2.2.2.2.2.1, zaI K q_t_target 340 t_target, zaI K q_t_keys 3 u.2.2.2.2.2.2.2.2.2.1, zaI K q_t_key 12 u.2.2.2.2.2.2.2.2.2.2.1, zaD K q_t_sum 12 u.2.2.2.2.2.2.2.2.2.2.2.1, zaD K q_t_least 12 u.2.2.2.2.2.2.2.2.2.2.2.2.1, zaD K q_t_greatest 12 u.2.2.2.2.2.2.2.2.2.2.2.2.2.1, zaI K q_t_count 12 u.2.2.2.2.2.2.2.2.2.2.2.2.2.2.1, zaI K q_t_bins 96 u.2.2.2.2.2.2.2.2.2.2.2.2.2.2.2.1, zaI K q_t_first 340 t_first, zaI K q_t_failures 6 u.2.2.2.2.2.2.2.2.2.2.2.2.2.2.2.2]
abbrev rm_Mo_doRule : Room := { frames := 4, cells := 0, slots := 0, locals := 92 }
abbrev wy_Mo_doRule : List Cond := .code y_Mo_doRule b_Mo_doRule 4 none :: zWT
def WP_Mo_doRule_L58 : Nat → Int32 → Int32 → Int32 → Int32 → Int32 → Int32 → Int32 → Int32 → Int32 → (Nat → Int32) → (Nat → Int32) → (Nat → UInt64) → (Nat → UInt64) → (Nat → UInt64) → (Nat → UInt64) → (Nat → Int32) → (Nat → Int32) → (Nat → Int32) → (Nat → Int32) → (Nat → UInt64) → (Nat → Int32) → (Nat → Int32) → (Nat → Int32) → (Nat → UInt64) → (Nat → UInt64) → (Nat → UInt64) → (Nat → Int32) → (Nat → Int32) → (Nat → Int32) → (Nat → Int32) → ((Int32 × Int32 × Int32 × Int32 × (Nat → UInt64) × (Nat → UInt64) × (Nat → UInt64) × (Nat → Int32) × (Nat → UInt64) × (Nat → Int32) × (Nat → Int32) × (Nat → UInt64) × (Nat → UInt64) × (Nat → UInt64) × (Nat → Int32) × (Nat → Int32) × (Nat → Int32)) → Prop) → Prop
  | 0, _, _, _, _, _, _, _, _, _, _, _, _, _, _, _, _, _, _, _, _, _, _, _, _, _, _, _, _, _, _, _ => False
  | n + 1, y1, y2, y3, t_recorded, t_lost, t_dropped, t_time, t_thread, t_failed, t_condition, t_code, t_pile, t_handed, t_globals, t_own, t_met, t_actions, t_kind, t_second, t_records, t_target, t_keys, t_key, t_sum, t_least, t_greatest, t_count, t_bins, t_first, t_failures, Q => vp_in y1 6 ∧ (((t_actions y1.toNatClampNeg) ≤ y3) → ((t_failed = 0) → Q (t_recorded, t_lost, t_dropped, t_failed, t_pile, t_globals, t_own, t_met, t_records, t_keys, t_key, t_sum, t_least, t_greatest, t_count, t_bins, t_failures)) ∧ ((¬ t_failed = 0) → vp_in y1 6 ∧ vp_in y1 6 ∧ Q (t_recorded, t_lost, t_dropped, t_failed, t_pile, t_globals, t_own, t_met, t_records, t_keys, t_key, t_sum, t_least, t_greatest, t_count, t_bins, upd t_failures y1.toNatClampNeg ((t_failures y1.toNatClampNeg) + (1 : Int32))))) ∧ ((¬ (t_actions y1.toNatClampNeg) ≤ y3) → ((y2 = 0) → ((t_failed = 0) → Q (t_recorded, t_lost, t_dropped, t_failed, t_pile, t_globals, t_own, t_met, t_records, t_keys, t_key, t_sum, t_least, t_greatest, t_count, t_bins, t_failures)) ∧ ((¬ t_failed = 0) → vp_in y1 6 ∧ vp_in y1 6 ∧ Q (t_recorded, t_lost, t_dropped, t_failed, t_pile, t_globals, t_own, t_met, t_records, t_keys, t_key, t_sum, t_least, t_greatest, t_count, t_bins, upd t_failures y1.toNatClampNeg ((t_failures y1.toNatClampNeg) + (1 : Int32))))) ∧ ((¬ y2 = 0) → p_Mo_perform t_recorded t_lost t_dropped t_time t_thread t_failed t_kind t_second t_code t_pile t_handed t_globals t_own t_records t_target t_keys t_key t_sum t_least t_greatest t_count t_bins t_first ((y1 * (48 : Int32)) + y3) ∧ (∀ (r45 : Int32) (m48 : Int32) (m49 : Int32) (m50 : Int32) (m51 : Int32) (m52 : Nat → UInt64) (m53 : Nat → UInt64) (m54 : Nat → UInt64) (m55 : Nat → UInt64) (m56 : Nat → Int32) (m57 : Nat → Int32) (m58 : Nat → UInt64) (m59 : Nat → UInt64) (m60 : Nat → UInt64) (m61 : Nat → Int32) (m62 : Nat → Int32), s_Mo_perform t_recorded t_lost t_dropped t_time t_thread t_failed t_kind t_second t_code t_pile t_handed t_globals t_own t_records t_target t_keys t_key t_sum t_least t_greatest t_count t_bins t_first ((y1 * (48 : Int32)) + y3) = (r45, m48, m49, m50, m51, m52, m53, m54, m55, m56, m57, m58, m59, m60, m61, m62) → WP_Mo_doRule_L58 n y1 r45 (y3 + (1 : Int32)) m48 m49 m50 t_time t_thread m51 t_condition t_code m52 t_handed m53 m54 t_met t_actions t_kind t_second m55 t_target m56 m57 m58 m59 m60 m61 m62 t_first t_failures Q)))
def WP_Mo_doRule (t_recorded : Int32) (t_lost : Int32) (t_dropped : Int32) (t_time : Int32) (t_thread : Int32) (t_failed : Int32) (t_condition : Nat → Int32) (t_code : Nat → Int32) (t_pile : Nat → UInt64) (t_handed : Nat → UInt64) (t_globals : Nat → UInt64) (t_own : Nat → UInt64) (t_met : Nat → Int32) (t_actions : Nat → Int32) (t_kind : Nat → Int32) (t_second : Nat → Int32) (t_records : Nat → UInt64) (t_target : Nat → Int32) (t_keys : Nat → Int32) (t_key : Nat → Int32) (t_sum : Nat → UInt64) (t_least : Nat → UInt64) (t_greatest : Nat → UInt64) (t_count : Nat → Int32) (t_bins : Nat → Int32) (t_first : Nat → Int32) (t_failures : Nat → Int32) (x1 : Int32) (Q : (Int32 × Int32 × Int32 × Int32 × (Nat → UInt64) × (Nat → UInt64) × (Nat → UInt64) × (Nat → Int32) × (Nat → UInt64) × (Nat → Int32) × (Nat → Int32) × (Nat → UInt64) × (Nat → UInt64) × (Nat → UInt64) × (Nat → Int32) × (Nat → Int32) × (Nat → Int32)) → Prop) : Prop := vp_in x1 6 ∧ (((t_condition x1.toNatClampNeg) < 0) → vp_in x1 6 ∧ vp_in x1 6 ∧ WP_Mo_doRule_L58 600 x1 (1 : Int32) (0 : Int32) t_recorded t_lost t_dropped t_time t_thread (0 : Int32) t_condition t_code t_pile t_handed t_globals t_own (upd t_met x1.toNatClampNeg ((t_met x1.toNatClampNeg) + (1 : Int32))) t_actions t_kind t_second t_records t_target t_keys t_key t_sum t_least t_greatest t_count t_bins t_first t_failures Q) ∧ ((¬ (t_condition x1.toNatClampNeg) < 0) → vp_in x1 6 ∧ p_Mo_value t_time t_thread (0 : Int32) t_code t_pile t_handed t_globals t_own (t_condition x1.toNatClampNeg) ∧ (∀ (r9 : UInt64) (m12 : Int32) (m13 : Nat → UInt64), s_Mo_value t_time t_thread (0 : Int32) t_code t_pile t_handed t_globals t_own (t_condition x1.toNatClampNeg) = (r9, m12, m13) → (((Op.cmpValue (FP.dcmp r9 FP.dconst0) .l) = 0) → ((¬ m12 = 0) → vp_in x1 6 ∧ vp_in x1 6 ∧ Q (t_recorded, t_lost, t_dropped, m12, m13, t_globals, t_own, t_met, t_records, t_keys, t_key, t_sum, t_least, t_greatest, t_count, t_bins, upd t_failures x1.toNatClampNeg ((t_failures x1.toNatClampNeg) + (1 : Int32)))) ∧ ((m12 = 0) → Q (t_recorded, t_lost, t_dropped, m12, m13, t_globals, t_own, t_met, t_records, t_keys, t_key, t_sum, t_least, t_greatest, t_count, t_bins, t_failures))) ∧ ((¬ (Op.cmpValue (FP.dcmp r9 FP.dconst0) .l) = 0) → ((¬ m12 = 0) → vp_in x1 6 ∧ vp_in x1 6 ∧ Q (t_recorded, t_lost, t_dropped, m12, m13, t_globals, t_own, t_met, t_records, t_keys, t_key, t_sum, t_least, t_greatest, t_count, t_bins, upd t_failures x1.toNatClampNeg ((t_failures x1.toNatClampNeg) + (1 : Int32)))) ∧ ((m12 = 0) → vp_in x1 6 ∧ vp_in x1 6 ∧ WP_Mo_doRule_L58 600 x1 (1 : Int32) (0 : Int32) t_recorded t_lost t_dropped t_time t_thread m12 t_condition t_code m13 t_handed t_globals t_own (upd t_met x1.toNatClampNeg ((t_met x1.toNatClampNeg) + (1 : Int32))) t_actions t_kind t_second t_records t_target t_keys t_key t_sum t_least t_greatest t_count t_bins t_first t_failures Q))))
set_option maxHeartbeats 4000000 in
set_option maxRecDepth 100000 in
theorem lw_Mo_doRule_L58 {p : Program} {e : Env} {s : State} {m : MethodId} {args : Array Value} {below : List Frame} {meth : Method} {c : Code} {A : Nat → Prop} (l : Launch) (D : va_G) (K : Nat → ClassId) (q_t : Nat) (q_t_text : Nat) (q_t_code : Nat) (q_t_site : Nat) (q_t_condition : Nat) (q_t_actions : Nat) (q_t_kind : Nat) (q_t_target : Nat) (q_t_first : Nat) (q_t_second : Nat) (q_t_failures : Nat) (q_t_met : Nat) (q_t_there : Nat) (q_t_on : Nat) (q_t_compared : Nat) (q_t_globals : Nat) (q_t_own : Nat) (q_t_records : Nat) (q_t_pile : Nat) (q_t_handed : Nat) (q_t_keys : Nat) (q_t_key : Nat) (q_t_count : Nat) (q_t_bins : Nat) (q_t_operator : Nat) (q_t_starts : Nat) (q_t_sum : Nat) (q_t_least : Nat) (q_t_greatest : Nat) (t_newSite : Int32) (t_newCondition : Int32) (t_newActions : Int32) (t_size : Int32) (t_place : Int32) (t_pos : Int32) (t_at : Int32) (t_operators : Int32) (t_firings : Int32) (t_time : Int32) (t_thread : Int32) (t_thrown : Int32) (t_condition : Nat → Int32) (t_code : Nat → Int32) (t_handed : Nat → UInt64) (t_actions : Nat → Int32) (t_kind : Nat → Int32) (t_second : Nat → Int32) (t_target : Nat → Int32) (t_first : Nat → Int32) {Q : (Int32 × Int32 × Int32 × Int32 × (Nat → UInt64) × (Nat → UInt64) × (Nat → UInt64) × (Nat → Int32) × (Nat → UInt64) × (Nat → Int32) × (Nat → Int32) × (Nat → UInt64) × (Nat → UInt64) × (Nat → UInt64) × (Nat → Int32) × (Nat → Int32) × (Nat → Int32)) → Prop} (C : zCx p s m args c b_Mo_doRule 4 R_Mo zWT D zcl (zT K) A) (hr : meth.sig.returnType = none) (hlk : meth.locks = false) : ∀ (n : Nat) (y1 : Int32) (y2 : Int32) (y3 : Int32) (t_recorded : Int32) (t_lost : Int32) (t_dropped : Int32) (t_failed : Int32) (t_pile : Nat → UInt64) (t_globals : Nat → UInt64) (t_own : Nat → UInt64) (t_met : Nat → Int32) (t_records : Nat → UInt64) (t_keys : Nat → Int32) (t_key : Nat → Int32) (t_sum : Nat → UInt64) (t_least : Nat → UInt64) (t_greatest : Nat → UInt64) (t_count : Nat → Int32) (t_bins : Nat → Int32) (t_failures : Nat → Int32), WP_Mo_doRule_L58 n y1 y2 y3 t_recorded t_lost t_dropped t_time t_thread t_failed t_condition t_code t_pile t_handed t_globals t_own t_met t_actions t_kind t_second t_records t_target t_keys t_key t_sum t_least t_greatest t_count t_bins t_first t_failures Q → zW p l e (headSpec wy_Mo_doRule rm_Mo_doRule).room s m args below meth c D zcl A 4 0 0 (MQ below (va_Qv Q (zB D zcl (zT K) (w_Mo_doRule K q_t q_t_text q_t_code q_t_site q_t_condition q_t_actions q_t_kind q_t_target q_t_first q_t_second q_t_failures q_t_met q_t_there q_t_on q_t_compared q_t_globals q_t_own q_t_records q_t_pile q_t_handed q_t_keys q_t_key q_t_count q_t_bins q_t_operator q_t_starts q_t_sum q_t_least q_t_greatest t_newSite t_newCondition t_newActions t_size t_place t_pos t_at t_operators t_firings t_time t_thread t_thrown t_condition t_code t_handed t_actions t_kind t_second t_target t_first) A) A) args s 0 0 A) [(0, .ref q_t), (1, .int y1), (2, .int y2), (3, .int y3)] [zo 6 q_t [.ref q_t_text, .ref q_t_code, .ref q_t_site, .ref q_t_condition, .ref q_t_actions, .ref q_t_kind, .ref q_t_target, .ref q_t_first, .ref q_t_second, .ref q_t_failures, .ref q_t_met, .ref q_t_there, .ref q_t_on, .ref q_t_compared, .ref q_t_globals, .ref q_t_own, .ref q_t_records, .ref q_t_pile, .ref q_t_handed, .ref q_t_keys, .ref q_t_key, .ref q_t_count, .ref q_t_bins, .ref q_t_operator, .ref q_t_starts, .ref q_t_sum, .ref q_t_least, .ref q_t_greatest, .int t_newSite, .int t_newCondition, .int t_newActions, .int t_size, .int t_place, .int t_pos, .int t_at, .int t_operators, .int t_recorded, .int t_lost, .int t_dropped, .int t_firings, .int t_time, .int t_thread, .int t_thrown, .int t_failed], zaI K q_t_condition 6 t_condition, zaI K q_t_code 1400 t_code, zaD K q_t_pile 60 t_pile, zaD K q_t_handed 3 t_handed, zaD K q_t_globals 3 t_globals, zaD K q_t_own 12 t_own, zaI K q_t_met 6 t_met, zaI K q_t_actions 6 t_actions, zaI K q_t_kind 340 t_kind, zaI K q_t_second 340 t_second, zaD K q_t_records 6 t_records, zaI K q_t_target 340 t_target, zaI K q_t_keys 3 t_keys, zaI K q_t_key 12 t_key, zaD K q_t_sum 12 t_sum, zaD K q_t_least 12 t_least, zaD K q_t_greatest 12 t_greatest, zaI K q_t_count 12 t_count, zaI K q_t_bins 96 t_bins, zaI K q_t_first 340 t_first, zaI K q_t_failures 6 t_failures] 58 [] := by
  intro n
  induction n with
  | zero => intros; contradiction
  | succ n ih =>
    intro y1 y2 y3 t_recorded t_lost t_dropped t_failed t_pile t_globals t_own t_met t_records t_keys t_key t_sum t_least t_greatest t_count t_bins t_failures hS0
    refine z_iload_n C d_Mo_doRule_58 rfl 3 rfl ?_
    refine z_aload_n C d_Mo_doRule_59 rfl 0 rfl ?_
    refine z_get C 0 rfl rfl in_Mo 4 (by decide) rfl wf_Mo_22 rfl d_Mo_doRule_60 ?_
    refine z_iload_n C d_Mo_doRule_63 rfl 1 rfl ?_
    refine z_iald C 8 0 rfl rfl hS0.1 d_Mo_doRule_64 ?_
    have hS32 := hS0.2
    refine z_icmp_ge (tgt := 89) C d_Mo_doRule_65 (by decide) (fun c33 => ?_) (fun c33 => ?_)
    · have hS34 := hS32.1 c33
      refine z_aload_n C d_Mo_doRule_89 rfl 0 rfl ?_
      refine z_get C 0 rfl rfl in_Mo 43 (by decide) rfl wf_Mo_173 rfl d_Mo_doRule_90 ?_
      refine z_if_eq (tgt := 106) C d_Mo_doRule_93 (by decide) (fun c35 => ?_) (fun c35 => ?_)
      · have hS36 := hS34.1 c35
        exact z_vret C hr hlk (t_recorded, t_lost, t_dropped, t_failed, t_pile, t_globals, t_own, t_met, t_records, t_keys, t_key, t_sum, t_least, t_greatest, t_count, t_bins, t_failures) rfl hS36 d_Mo_doRule_106
      · have hS36 := hS34.2 c35
        refine z_aload_n C d_Mo_doRule_96 rfl 0 rfl ?_
        refine z_get C 0 rfl rfl in_Mo 9 (by decide) rfl wf_Mo_37 rfl d_Mo_doRule_97 ?_
        refine z_iload_n C d_Mo_doRule_100 rfl 1 rfl ?_
        refine z_dup2_11 C d_Mo_doRule_101 rfl rfl ?_
        refine z_iald C 21 0 rfl rfl hS36.1 d_Mo_doRule_102 ?_
        have hS37 := hS36.2
        refine z_iconst (v := (1 : Int32)) C d_Mo_doRule_103 (by decide) ?_
        refine z_iadd C d_Mo_doRule_104 ?_
        refine z_iast (ws' := [zo 6 q_t [.ref q_t_text, .ref q_t_code, .ref q_t_site, .ref q_t_condition, .ref q_t_actions, .ref q_t_kind, .ref q_t_target, .ref q_t_first, .ref q_t_second, .ref q_t_failures, .ref q_t_met, .ref q_t_there, .ref q_t_on, .ref q_t_compared, .ref q_t_globals, .ref q_t_own, .ref q_t_records, .ref q_t_pile, .ref q_t_handed, .ref q_t_keys, .ref q_t_key, .ref q_t_count, .ref q_t_bins, .ref q_t_operator, .ref q_t_starts, .ref q_t_sum, .ref q_t_least, .ref q_t_greatest, .int t_newSite, .int t_newCondition, .int t_newActions, .int t_size, .int t_place, .int t_pos, .int t_at, .int t_operators, .int t_recorded, .int t_lost, .int t_dropped, .int t_firings, .int t_time, .int t_thread, .int t_thrown, .int t_failed], zaI K q_t_condition 6 t_condition, zaI K q_t_code 1400 t_code, zaD K q_t_pile 60 t_pile, zaD K q_t_handed 3 t_handed, zaD K q_t_globals 3 t_globals, zaD K q_t_own 12 t_own, zaI K q_t_met 6 t_met, zaI K q_t_actions 6 t_actions, zaI K q_t_kind 340 t_kind, zaI K q_t_second 340 t_second, zaD K q_t_records 6 t_records, zaI K q_t_target 340 t_target, zaI K q_t_keys 3 t_keys, zaI K q_t_key 12 t_key, zaD K q_t_sum 12 t_sum, zaD K q_t_least 12 t_least, zaD K q_t_greatest 12 t_greatest, zaI K q_t_count 12 t_count, zaI K q_t_bins 96 t_bins, zaI K q_t_first 340 t_first, zaI K q_t_failures 6 (upd t_failures y1.toNatClampNeg ((t_failures y1.toNatClampNeg) + (1 : Int32)))]) C 21 0 rfl rfl hS37.1 rfl d_Mo_doRule_105 ?_
        have hS38 := hS37.2
        exact z_vret C hr hlk (t_recorded, t_lost, t_dropped, t_failed, t_pile, t_globals, t_own, t_met, t_records, t_keys, t_key, t_sum, t_least, t_greatest, t_count, t_bins, upd t_failures y1.toNatClampNeg ((t_failures y1.toNatClampNeg) + (1 : Int32))) rfl hS38 d_Mo_doRule_106
    · have hS34 := hS32.2 c33
      refine z_iload_n C d_Mo_doRule_68 rfl 2 rfl ?_
      refine z_if_eq (tgt := 89) C d_Mo_doRule_69 (by decide) (fun c39 => ?_) (fun c39 => ?_)
      · have hS40 := hS34.1 c39
        refine z_aload_n C d_Mo_doRule_89 rfl 0 rfl ?_
        refine z_get C 0 rfl rfl in_Mo 43 (by decide) rfl wf_Mo_173 rfl d_Mo_doRule_90 ?_
        refine z_if_eq (tgt := 106) C d_Mo_doRule_93 (by decide) (fun c41 => ?_) (fun c41 => ?_)
        · have hS42 := hS40.1 c41
          exact z_vret C hr hlk (t_recorded, t_lost, t_dropped, t_failed, t_pile, t_globals, t_own, t_met, t_records, t_keys, t_key, t_sum, t_least, t_greatest, t_count, t_bins, t_failures) rfl hS42 d_Mo_doRule_106
        · have hS42 := hS40.2 c41
          refine z_aload_n C d_Mo_doRule_96 rfl 0 rfl ?_
          refine z_get C 0 rfl rfl in_Mo 9 (by decide) rfl wf_Mo_37 rfl d_Mo_doRule_97 ?_
          refine z_iload_n C d_Mo_doRule_100 rfl 1 rfl ?_
          refine z_dup2_11 C d_Mo_doRule_101 rfl rfl ?_
          refine z_iald C 21 0 rfl rfl hS42.1 d_Mo_doRule_102 ?_
          have hS43 := hS42.2
          refine z_iconst (v := (1 : Int32)) C d_Mo_doRule_103 (by decide) ?_
          refine z_iadd C d_Mo_doRule_104 ?_
          refine z_iast (ws' := [zo 6 q_t [.ref q_t_text, .ref q_t_code, .ref q_t_site, .ref q_t_condition, .ref q_t_actions, .ref q_t_kind, .ref q_t_target, .ref q_t_first, .ref q_t_second, .ref q_t_failures, .ref q_t_met, .ref q_t_there, .ref q_t_on, .ref q_t_compared, .ref q_t_globals, .ref q_t_own, .ref q_t_records, .ref q_t_pile, .ref q_t_handed, .ref q_t_keys, .ref q_t_key, .ref q_t_count, .ref q_t_bins, .ref q_t_operator, .ref q_t_starts, .ref q_t_sum, .ref q_t_least, .ref q_t_greatest, .int t_newSite, .int t_newCondition, .int t_newActions, .int t_size, .int t_place, .int t_pos, .int t_at, .int t_operators, .int t_recorded, .int t_lost, .int t_dropped, .int t_firings, .int t_time, .int t_thread, .int t_thrown, .int t_failed], zaI K q_t_condition 6 t_condition, zaI K q_t_code 1400 t_code, zaD K q_t_pile 60 t_pile, zaD K q_t_handed 3 t_handed, zaD K q_t_globals 3 t_globals, zaD K q_t_own 12 t_own, zaI K q_t_met 6 t_met, zaI K q_t_actions 6 t_actions, zaI K q_t_kind 340 t_kind, zaI K q_t_second 340 t_second, zaD K q_t_records 6 t_records, zaI K q_t_target 340 t_target, zaI K q_t_keys 3 t_keys, zaI K q_t_key 12 t_key, zaD K q_t_sum 12 t_sum, zaD K q_t_least 12 t_least, zaD K q_t_greatest 12 t_greatest, zaI K q_t_count 12 t_count, zaI K q_t_bins 96 t_bins, zaI K q_t_first 340 t_first, zaI K q_t_failures 6 (upd t_failures y1.toNatClampNeg ((t_failures y1.toNatClampNeg) + (1 : Int32)))]) C 21 0 rfl rfl hS43.1 rfl d_Mo_doRule_105 ?_
          have hS44 := hS43.2
          exact z_vret C hr hlk (t_recorded, t_lost, t_dropped, t_failed, t_pile, t_globals, t_own, t_met, t_records, t_keys, t_key, t_sum, t_least, t_greatest, t_count, t_bins, upd t_failures y1.toNatClampNeg ((t_failures y1.toNatClampNeg) + (1 : Int32))) rfl hS44 d_Mo_doRule_106
      · have hS40 := hS34.2 c39
        refine z_aload_n C d_Mo_doRule_72 rfl 0 rfl ?_
        refine z_iload_n C d_Mo_doRule_73 rfl 1 rfl ?_
        refine z_bipush (v := (48 : Int32)) C d_Mo_doRule_74 (by decide) ?_
        refine z_imul C d_Mo_doRule_76 ?_
        refine z_iload_n C d_Mo_doRule_77 rfl 3 rfl ?_
        refine z_iadd C d_Mo_doRule_78 ?_
        refine z_callVi (As := [.int ((y1 * (48 : Int32)) + y3)]) (b := q_t) (st := []) (wr := [zaI K q_t_condition 6 t_condition, zaI K q_t_met 6 t_met, zaI K q_t_actions 6 t_actions, zaI K q_t_failures 6 t_failures]) (wj := fun u => [zo 6 q_t [.ref q_t_text, .ref q_t_code, .ref q_t_site, .ref q_t_condition, .ref q_t_actions, .ref q_t_kind, .ref q_t_target, .ref q_t_first, .ref q_t_second, .ref q_t_failures, .ref q_t_met, .ref q_t_there, .ref q_t_on, .ref q_t_compared, .ref q_t_globals, .ref q_t_own, .ref q_t_records, .ref q_t_pile, .ref q_t_handed, .ref q_t_keys, .ref q_t_key, .ref q_t_count, .ref q_t_bins, .ref q_t_operator, .ref q_t_starts, .ref q_t_sum, .ref q_t_least, .ref q_t_greatest, .int t_newSite, .int t_newCondition, .int t_newActions, .int t_size, .int t_place, .int t_pos, .int t_at, .int t_operators, .int u.1, .int u.2.1, .int u.2.2.1, .int t_firings, .int t_time, .int t_thread, .int t_thrown, .int u.2.2.2.1], zaI K q_t_condition 6 t_condition, zaI K q_t_code 1400 t_code, zaD K q_t_pile 60 u.2.2.2.2.1, zaD K q_t_handed 3 t_handed, zaD K q_t_globals 3 u.2.2.2.2.2.1, zaD K q_t_own 12 u.2.2.2.2.2.2.1, zaI K q_t_met 6 t_met, zaI K q_t_actions 6 t_actions, zaI K q_t_kind 340 t_kind, zaI K q_t_second 340 t_second, zaD K q_t_records 6 u.2.2.2.2.2.2.2.1, zaI K q_t_target 340 t_target, zaI K q_t_keys 3 u.2.2.2.2.2.2.2.2.1, zaI K q_t_key 12 u.2.2.2.2.2.2.2.2.2.1, zaD K q_t_sum 12 u.2.2.2.2.2.2.2.2.2.2.1, zaD K q_t_least 12 u.2.2.2.2.2.2.2.2.2.2.2.1, zaD K q_t_greatest 12 u.2.2.2.2.2.2.2.2.2.2.2.2.1, zaI K q_t_count 12 u.2.2.2.2.2.2.2.2.2.2.2.2.2.1, zaI K q_t_bins 96 u.2.2.2.2.2.2.2.2.2.2.2.2.2.2, zaI K q_t_first 340 t_first, zaI K q_t_failures 6 t_failures]) C 0 rfl rfl (c_Mo_perform l D K q_t q_t_text q_t_code q_t_site q_t_condition q_t_actions q_t_kind q_t_target q_t_first q_t_second q_t_failures q_t_met q_t_there q_t_on q_t_compared q_t_globals q_t_own q_t_records q_t_pile q_t_handed q_t_keys q_t_key q_t_count q_t_bins q_t_operator q_t_starts q_t_sum q_t_least q_t_greatest t_newSite t_newCondition t_newActions t_size t_place t_pos t_at t_operators t_recorded t_lost t_dropped t_firings t_time t_thread t_thrown t_failed t_kind t_second t_code t_pile t_handed t_globals t_own t_records t_target t_keys t_key t_sum t_least t_greatest t_count t_bins t_first ((y1 * (48 : Int32)) + y3) hS40.1) (cwV 1 C.2.2.2.2.1 (z_gV wl_Mo_219 wi_Mo_perform wv_Mo_perform wz_Mo wk_Mo_perform) rfl rfl rfl (by decide +kernel) ⟨Nat.le_of_ble_eq_true rfl, Nat.le_of_ble_eq_true rfl⟩) [0, 9, 10, 2, 3, 4, 5, 6, 11, 12, 13, 14, 15, 16, 17, 18, 19, 20] [1, 7, 8, 21] [4, 0, 7, 8, 9, 10, 11, 1, 2, 5, 6, 12, 13, 14, 15, 16, 17, 18, 19, 20, 21, 3] rfl rfl rfl rfl (by decide) (fun _ => rfl) rfl rfl rfl (Nat.le_of_ble_eq_true rfl) d_Mo_doRule_79 ⟨Nat.le_of_ble_eq_true rfl, Nat.le_of_ble_eq_true rfl⟩ (fun r45 u46 e47 => ?_)
        obtain ⟨m48, m49, m50, m51, m52, m53, m54, m55, m56, m57, m58, m59, m60, m61, m62⟩ := u46
        refine z_weq (ws' := [zo 6 q_t [.ref q_t_text, .ref q_t_code, .ref q_t_site, .ref q_t_condition, .ref q_t_actions, .ref q_t_kind, .ref q_t_target, .ref q_t_first, .ref q_t_second, .ref q_t_failures, .ref q_t_met, .ref q_t_there, .ref q_t_on, .ref q_t_compared, .ref q_t_globals, .ref q_t_own, .ref q_t_records, .ref q_t_pile, .ref q_t_handed, .ref q_t_keys, .ref q_t_key, .ref q_t_count, .ref q_t_bins, .ref q_t_operator, .ref q_t_starts, .ref q_t_sum, .ref q_t_least, .ref q_t_greatest, .int t_newSite, .int t_newCondition, .int t_newActions, .int t_size, .int t_place, .int t_pos, .int t_at, .int t_operators, .int m48, .int m49, .int m50, .int t_firings, .int t_time, .int t_thread, .int t_thrown, .int m51], zaI K q_t_condition 6 t_condition, zaI K q_t_code 1400 t_code, zaD K q_t_pile 60 m52, zaD K q_t_handed 3 t_handed, zaD K q_t_globals 3 m53, zaD K q_t_own 12 m54, zaI K q_t_met 6 t_met, zaI K q_t_actions 6 t_actions, zaI K q_t_kind 340 t_kind, zaI K q_t_second 340 t_second, zaD K q_t_records 6 m55, zaI K q_t_target 340 t_target, zaI K q_t_keys 3 m56, zaI K q_t_key 12 m57, zaD K q_t_sum 12 m58, zaD K q_t_least 12 m59, zaD K q_t_greatest 12 m60, zaI K q_t_count 12 m61, zaI K q_t_bins 96 m62, zaI K q_t_first 340 t_first, zaI K q_t_failures 6 t_failures]) rfl ?_
        have hS63 := hS40.2 r45 m48 m49 m50 m51 m52 m53 m54 m55 m56 m57 m58 m59 m60 m61 m62 e47
        refine z_istore_n (lv' := [(2, .int r45), (0, .ref q_t), (1, .int y1), (3, .int y3)]) C d_Mo_doRule_82 rfl (by decide) rfl ?_
        refine z_iinc (j := 3) (v := y3 + (1 : Int32)) (lv' := [(3, .int (y3 + (1 : Int32))), (2, .int r45), (0, .ref q_t), (1, .int y1)]) C d_Mo_doRule_83 rfl rfl (by decide) rfl ?_
        refine z_goto (tgt := 58) C d_Mo_doRule_86 (by decide) ?_
        refine z_lpick (lv' := [(0, .ref q_t), (1, .int y1), (2, .int r45), (3, .int (y3 + (1 : Int32)))]) [2, 3, 1, 0] rfl ?_
        exact ih y1 r45 (y3 + (1 : Int32)) m48 m49 m50 m51 m52 m53 m54 t_met m55 m56 m57 m58 m59 m60 m61 m62 t_failures hS63
set_option maxHeartbeats 4000000 in
set_option maxRecDepth 100000 in
theorem cw_Mo_doRule (l : Launch) (D : va_G) (K : Nat → ClassId) (q_t : Nat) (q_t_text : Nat) (q_t_code : Nat) (q_t_site : Nat) (q_t_condition : Nat) (q_t_actions : Nat) (q_t_kind : Nat) (q_t_target : Nat) (q_t_first : Nat) (q_t_second : Nat) (q_t_failures : Nat) (q_t_met : Nat) (q_t_there : Nat) (q_t_on : Nat) (q_t_compared : Nat) (q_t_globals : Nat) (q_t_own : Nat) (q_t_records : Nat) (q_t_pile : Nat) (q_t_handed : Nat) (q_t_keys : Nat) (q_t_key : Nat) (q_t_count : Nat) (q_t_bins : Nat) (q_t_operator : Nat) (q_t_starts : Nat) (q_t_sum : Nat) (q_t_least : Nat) (q_t_greatest : Nat) (t_newSite : Int32) (t_newCondition : Int32) (t_newActions : Int32) (t_size : Int32) (t_place : Int32) (t_pos : Int32) (t_at : Int32) (t_operators : Int32) (t_recorded : Int32) (t_lost : Int32) (t_dropped : Int32) (t_firings : Int32) (t_time : Int32) (t_thread : Int32) (t_thrown : Int32) (t_failed : Int32) (t_condition : Nat → Int32) (t_code : Nat → Int32) (t_pile : Nat → UInt64) (t_handed : Nat → UInt64) (t_globals : Nat → UInt64) (t_own : Nat → UInt64) (t_met : Nat → Int32) (t_actions : Nat → Int32) (t_kind : Nat → Int32) (t_second : Nat → Int32) (t_records : Nat → UInt64) (t_target : Nat → Int32) (t_keys : Nat → Int32) (t_key : Nat → Int32) (t_sum : Nat → UInt64) (t_least : Nat → UInt64) (t_greatest : Nat → UInt64) (t_count : Nat → Int32) (t_bins : Nat → Int32) (t_first : Nat → Int32) (t_failures : Nat → Int32) (x1 : Int32) {Q : (Int32 × Int32 × Int32 × Int32 × (Nat → UInt64) × (Nat → UInt64) × (Nat → UInt64) × (Nat → Int32) × (Nat → UInt64) × (Nat → Int32) × (Nat → Int32) × (Nat → UInt64) × (Nat → UInt64) × (Nat → UInt64) × (Nat → Int32) × (Nat → Int32) × (Nat → Int32)) → Prop} (hS0 : WP_Mo_doRule t_recorded t_lost t_dropped t_time t_thread t_failed t_condition t_code t_pile t_handed t_globals t_own t_met t_actions t_kind t_second t_records t_target t_keys t_key t_sum t_least t_greatest t_count t_bins t_first t_failures x1 Q) : zCv l y_Mo_doRule wy_Mo_doRule rm_Mo_doRule D zcl (zT K) [.ref q_t, .int x1] (w_Mo_doRule K q_t q_t_text q_t_code q_t_site q_t_condition q_t_actions q_t_kind q_t_target q_t_first q_t_second q_t_failures q_t_met q_t_there q_t_on q_t_compared q_t_globals q_t_own q_t_records q_t_pile q_t_handed q_t_keys q_t_key q_t_count q_t_bins q_t_operator q_t_starts q_t_sum q_t_least q_t_greatest t_newSite t_newCondition t_newActions t_size t_place t_pos t_at t_operators t_firings t_time t_thread t_thrown t_condition t_code t_handed t_actions t_kind t_second t_target t_first (t_recorded, t_lost, t_dropped, t_failed, t_pile, t_globals, t_own, t_met, t_records, t_keys, t_key, t_sum, t_least, t_greatest, t_count, t_bins, t_failures)) (w_Mo_doRule K q_t q_t_text q_t_code q_t_site q_t_condition q_t_actions q_t_kind q_t_target q_t_first q_t_second q_t_failures q_t_met q_t_there q_t_on q_t_compared q_t_globals q_t_own q_t_records q_t_pile q_t_handed q_t_keys q_t_key q_t_count q_t_bins q_t_operator q_t_starts q_t_sum q_t_least q_t_greatest t_newSite t_newCondition t_newActions t_size t_place t_pos t_at t_operators t_firings t_time t_thread t_thrown t_condition t_code t_handed t_actions t_kind t_second t_target t_first) Q 0 0 := by
  refine z_metv (cc := b_Mo_doRule) (maxL := 4) (ret := none) (by decide) rfl (Nat.le_of_ble_eq_true rfl) ?_
  intro p e s m args below meth c A C hr hlk hnm
  refine z_lpick (lv' := [(0, .ref q_t), (1, .int x1)]) [0, 1] rfl ?_
  refine z_weq (ws' := [zo 6 q_t [.ref q_t_text, .ref q_t_code, .ref q_t_site, .ref q_t_condition, .ref q_t_actions, .ref q_t_kind, .ref q_t_target, .ref q_t_first, .ref q_t_second, .ref q_t_failures, .ref q_t_met, .ref q_t_there, .ref q_t_on, .ref q_t_compared, .ref q_t_globals, .ref q_t_own, .ref q_t_records, .ref q_t_pile, .ref q_t_handed, .ref q_t_keys, .ref q_t_key, .ref q_t_count, .ref q_t_bins, .ref q_t_operator, .ref q_t_starts, .ref q_t_sum, .ref q_t_least, .ref q_t_greatest, .int t_newSite, .int t_newCondition, .int t_newActions, .int t_size, .int t_place, .int t_pos, .int t_at, .int t_operators, .int t_recorded, .int t_lost, .int t_dropped, .int t_firings, .int t_time, .int t_thread, .int t_thrown, .int t_failed], zaI K q_t_condition 6 t_condition, zaI K q_t_code 1400 t_code, zaD K q_t_pile 60 t_pile, zaD K q_t_handed 3 t_handed, zaD K q_t_globals 3 t_globals, zaD K q_t_own 12 t_own, zaI K q_t_met 6 t_met, zaI K q_t_actions 6 t_actions, zaI K q_t_kind 340 t_kind, zaI K q_t_second 340 t_second, zaD K q_t_records 6 t_records, zaI K q_t_target 340 t_target, zaI K q_t_keys 3 t_keys, zaI K q_t_key 12 t_key, zaD K q_t_sum 12 t_sum, zaD K q_t_least 12 t_least, zaD K q_t_greatest 12 t_greatest, zaI K q_t_count 12 t_count, zaI K q_t_bins 96 t_bins, zaI K q_t_first 340 t_first, zaI K q_t_failures 6 t_failures]) rfl ?_
  refine z_aload_n C d_Mo_doRule_0 rfl 0 rfl ?_
  refine z_iconst (v := (0 : Int32)) C d_Mo_doRule_1 (by decide) ?_
  refine z_put (ty := .boolean) (ws' := [zo 6 q_t [.ref q_t_text, .ref q_t_code, .ref q_t_site, .ref q_t_condition, .ref q_t_actions, .ref q_t_kind, .ref q_t_target, .ref q_t_first, .ref q_t_second, .ref q_t_failures, .ref q_t_met, .ref q_t_there, .ref q_t_on, .ref q_t_compared, .ref q_t_globals, .ref q_t_own, .ref q_t_records, .ref q_t_pile, .ref q_t_handed, .ref q_t_keys, .ref q_t_key, .ref q_t_count, .ref q_t_bins, .ref q_t_operator, .ref q_t_starts, .ref q_t_sum, .ref q_t_least, .ref q_t_greatest, .int t_newSite, .int t_newCondition, .int t_newActions, .int t_size, .int t_place, .int t_pos, .int t_at, .int t_operators, .int t_recorded, .int t_lost, .int t_dropped, .int t_firings, .int t_time, .int t_thread, .int t_thrown, .int (0 : Int32)], zaI K q_t_condition 6 t_condition, zaI K q_t_code 1400 t_code, zaD K q_t_pile 60 t_pile, zaD K q_t_handed 3 t_handed, zaD K q_t_globals 3 t_globals, zaD K q_t_own 12 t_own, zaI K q_t_met 6 t_met, zaI K q_t_actions 6 t_actions, zaI K q_t_kind 340 t_kind, zaI K q_t_second 340 t_second, zaD K q_t_records 6 t_records, zaI K q_t_target 340 t_target, zaI K q_t_keys 3 t_keys, zaI K q_t_key 12 t_key, zaD K q_t_sum 12 t_sum, zaD K q_t_least 12 t_least, zaD K q_t_greatest 12 t_greatest, zaI K q_t_count 12 t_count, zaI K q_t_bins 96 t_bins, zaI K q_t_first 340 t_first, zaI K q_t_failures 6 t_failures]) C ty_Mo to_Mo nm_Mo 0 rfl rfl in_Mo 43 (by decide) rfl wf_Mo_173 rfl rfl rfl rfl (Nat.le_of_ble_eq_true rfl) rfl d_Mo_doRule_2 ?_
  refine z_aload_n C d_Mo_doRule_5 rfl 0 rfl ?_
  refine z_get C 0 rfl rfl in_Mo 3 (by decide) rfl wf_Mo_19 rfl d_Mo_doRule_6 ?_
  refine z_iload_n C d_Mo_doRule_9 rfl 1 rfl ?_
  refine z_iald C 1 0 rfl rfl hS0.1 d_Mo_doRule_10 ?_
  have hS1 := hS0.2
  refine z_if_lt (tgt := 29) C d_Mo_doRule_11 (by decide) (fun c2 => ?_) (fun c2 => ?_)
  · have hS3 := hS1.1 c2
    refine z_iconst (v := (1 : Int32)) C d_Mo_doRule_29 (by decide) ?_
    refine z_goto (tgt := 34) C d_Mo_doRule_30 (by decide) ?_
    refine z_istore_n (lv' := [(2, .int (1 : Int32)), (0, .ref q_t), (1, .int x1)]) C d_Mo_doRule_34 rfl (by decide) rfl ?_
    refine z_aload_n C d_Mo_doRule_35 rfl 1 rfl ?_
    refine z_get C 0 rfl rfl in_Mo 43 (by decide) rfl wf_Mo_173 rfl d_Mo_doRule_36 ?_
    refine z_if_ne (tgt := 89) C d_Mo_doRule_39 (by decide) (fun c4 => absurd c4 (by decide)) (fun c4 => ?_)
    refine z_iload_n C d_Mo_doRule_42 rfl 0 rfl ?_
    refine z_if_eq (tgt := 89) C d_Mo_doRule_43 (by decide) (fun c5 => absurd c5 (by decide)) (fun c5 => ?_)
    refine z_aload_n C d_Mo_doRule_46 rfl 1 rfl ?_
    refine z_get C 0 rfl rfl in_Mo 10 (by decide) rfl wf_Mo_40 rfl d_Mo_doRule_47 ?_
    refine z_iload_n C d_Mo_doRule_50 rfl 2 rfl ?_
    refine z_dup2_11 C d_Mo_doRule_51 rfl rfl ?_
    refine z_iald C 7 0 rfl rfl hS3.1 d_Mo_doRule_52 ?_
    have hS6 := hS3.2
    refine z_iconst (v := (1 : Int32)) C d_Mo_doRule_53 (by decide) ?_
    refine z_iadd C d_Mo_doRule_54 ?_
    refine z_iast (ws' := [zo 6 q_t [.ref q_t_text, .ref q_t_code, .ref q_t_site, .ref q_t_condition, .ref q_t_actions, .ref q_t_kind, .ref q_t_target, .ref q_t_first, .ref q_t_second, .ref q_t_failures, .ref q_t_met, .ref q_t_there, .ref q_t_on, .ref q_t_compared, .ref q_t_globals, .ref q_t_own, .ref q_t_records, .ref q_t_pile, .ref q_t_handed, .ref q_t_keys, .ref q_t_key, .ref q_t_count, .ref q_t_bins, .ref q_t_operator, .ref q_t_starts, .ref q_t_sum, .ref q_t_least, .ref q_t_greatest, .int t_newSite, .int t_newCondition, .int t_newActions, .int t_size, .int t_place, .int t_pos, .int t_at, .int t_operators, .int t_recorded, .int t_lost, .int t_dropped, .int t_firings, .int t_time, .int t_thread, .int t_thrown, .int (0 : Int32)], zaI K q_t_condition 6 t_condition, zaI K q_t_code 1400 t_code, zaD K q_t_pile 60 t_pile, zaD K q_t_handed 3 t_handed, zaD K q_t_globals 3 t_globals, zaD K q_t_own 12 t_own, zaI K q_t_met 6 (upd t_met x1.toNatClampNeg ((t_met x1.toNatClampNeg) + (1 : Int32))), zaI K q_t_actions 6 t_actions, zaI K q_t_kind 340 t_kind, zaI K q_t_second 340 t_second, zaD K q_t_records 6 t_records, zaI K q_t_target 340 t_target, zaI K q_t_keys 3 t_keys, zaI K q_t_key 12 t_key, zaD K q_t_sum 12 t_sum, zaD K q_t_least 12 t_least, zaD K q_t_greatest 12 t_greatest, zaI K q_t_count 12 t_count, zaI K q_t_bins 96 t_bins, zaI K q_t_first 340 t_first, zaI K q_t_failures 6 t_failures]) C 7 0 rfl rfl hS6.1 rfl d_Mo_doRule_55 ?_
    have hS7 := hS6.2
    refine z_iconst (v := (0 : Int32)) C d_Mo_doRule_56 (by decide) ?_
    refine z_istore_n (lv' := [(3, .int (0 : Int32)), (2, .int (1 : Int32)), (0, .ref q_t), (1, .int x1)]) C d_Mo_doRule_57 rfl (by decide) rfl ?_
    refine z_lpick (lv' := [(0, .ref q_t), (1, .int x1), (2, .int (1 : Int32)), (3, .int (0 : Int32))]) [2, 3, 1, 0] rfl ?_
    exact lw_Mo_doRule_L58 l D K q_t q_t_text q_t_code q_t_site q_t_condition q_t_actions q_t_kind q_t_target q_t_first q_t_second q_t_failures q_t_met q_t_there q_t_on q_t_compared q_t_globals q_t_own q_t_records q_t_pile q_t_handed q_t_keys q_t_key q_t_count q_t_bins q_t_operator q_t_starts q_t_sum q_t_least q_t_greatest t_newSite t_newCondition t_newActions t_size t_place t_pos t_at t_operators t_firings t_time t_thread t_thrown t_condition t_code t_handed t_actions t_kind t_second t_target t_first C hr hlk 600 x1 (1 : Int32) (0 : Int32) t_recorded t_lost t_dropped (0 : Int32) t_pile t_globals t_own (upd t_met x1.toNatClampNeg ((t_met x1.toNatClampNeg) + (1 : Int32))) t_records t_keys t_key t_sum t_least t_greatest t_count t_bins t_failures hS7
  · have hS3 := hS1.2 c2
    refine z_aload_n C d_Mo_doRule_14 rfl 0 rfl ?_
    refine z_aload_n C d_Mo_doRule_15 rfl 0 rfl ?_
    refine z_get C 0 rfl rfl in_Mo 3 (by decide) rfl wf_Mo_19 rfl d_Mo_doRule_16 ?_
    refine z_iload_n C d_Mo_doRule_19 rfl 1 rfl ?_
    refine z_iald C 1 0 rfl rfl hS3.1 d_Mo_doRule_20 ?_
    have hS8 := hS3.2
    refine z_callVd (As := [.int (t_condition x1.toNatClampNeg)]) (b := q_t) (st := []) (wr := [zaI K q_t_condition 6 t_condition, zaI K q_t_met 6 t_met, zaI K q_t_actions 6 t_actions, zaI K q_t_kind 340 t_kind, zaI K q_t_second 340 t_second, zaD K q_t_records 6 t_records, zaI K q_t_target 340 t_target, zaI K q_t_keys 3 t_keys, zaI K q_t_key 12 t_key, zaD K q_t_sum 12 t_sum, zaD K q_t_least 12 t_least, zaD K q_t_greatest 12 t_greatest, zaI K q_t_count 12 t_count, zaI K q_t_bins 96 t_bins, zaI K q_t_first 340 t_first, zaI K q_t_failures 6 t_failures]) (wj := fun u => [zo 6 q_t [.ref q_t_text, .ref q_t_code, .ref q_t_site, .ref q_t_condition, .ref q_t_actions, .ref q_t_kind, .ref q_t_target, .ref q_t_first, .ref q_t_second, .ref q_t_failures, .ref q_t_met, .ref q_t_there, .ref q_t_on, .ref q_t_compared, .ref q_t_globals, .ref q_t_own, .ref q_t_records, .ref q_t_pile, .ref q_t_handed, .ref q_t_keys, .ref q_t_key, .ref q_t_count, .ref q_t_bins, .ref q_t_operator, .ref q_t_starts, .ref q_t_sum, .ref q_t_least, .ref q_t_greatest, .int t_newSite, .int t_newCondition, .int t_newActions, .int t_size, .int t_place, .int t_pos, .int t_at, .int t_operators, .int t_recorded, .int t_lost, .int t_dropped, .int t_firings, .int t_time, .int t_thread, .int t_thrown, .int u.1], zaI K q_t_condition 6 t_condition, zaI K q_t_code 1400 t_code, zaD K q_t_pile 60 u.2, zaD K q_t_handed 3 t_handed, zaD K q_t_globals 3 t_globals, zaD K q_t_own 12 t_own, zaI K q_t_met 6 t_met, zaI K q_t_actions 6 t_actions, zaI K q_t_kind 340 t_kind, zaI K q_t_second 340 t_second, zaD K q_t_records 6 t_records, zaI K q_t_target 340 t_target, zaI K q_t_keys 3 t_keys, zaI K q_t_key 12 t_key, zaD K q_t_sum 12 t_sum, zaD K q_t_least 12 t_least, zaD K q_t_greatest 12 t_greatest, zaI K q_t_count 12 t_count, zaI K q_t_bins 96 t_bins, zaI K q_t_first 340 t_first, zaI K q_t_failures 6 t_failures]) C 0 rfl rfl (c_Mo_value l D K q_t q_t_text q_t_code q_t_site q_t_condition q_t_actions q_t_kind q_t_target q_t_first q_t_second q_t_failures q_t_met q_t_there q_t_on q_t_compared q_t_globals q_t_own q_t_records q_t_pile q_t_handed q_t_keys q_t_key q_t_count q_t_bins q_t_operator q_t_starts q_t_sum q_t_least q_t_greatest t_newSite t_newCondition t_newActions t_size t_place t_pos t_at t_operators t_recorded t_lost t_dropped t_firings t_time t_thread t_thrown (0 : Int32) t_code t_pile t_handed t_globals t_own (t_condition x1.toNatClampNeg) hS8.1) (cwV 1 C.2.2.2.2.1 (z_gV wl_Mo_208 wi_Mo_value wv_Mo_value wz_Mo wk_Mo_value) rfl rfl rfl (by decide +kernel) ⟨Nat.le_of_ble_eq_true rfl, Nat.le_of_ble_eq_true rfl⟩) [0, 2, 3, 4, 5, 6] [1, 7, 8, 9, 10, 11, 12, 13, 14, 15, 16, 17, 18, 19, 20, 21] [16, 0, 17, 18, 19, 20, 21, 1, 2, 3, 4, 5, 6, 7, 8, 9, 10, 11, 12, 13, 14, 15] rfl rfl rfl rfl (by decide) (fun _ => rfl) rfl rfl rfl (Nat.le_of_ble_eq_true rfl) d_Mo_doRule_21 ⟨Nat.le_of_ble_eq_true rfl, Nat.le_of_ble_eq_true rfl⟩ (fun r9 u10 e11 => ?_)
    obtain ⟨m12, m13⟩ := u10
    refine z_weq (ws' := [zo 6 q_t [.ref q_t_text, .ref q_t_code, .ref q_t_site, .ref q_t_condition, .ref q_t_actions, .ref q_t_kind, .ref q_t_target, .ref q_t_first, .ref q_t_second, .ref q_t_failures, .ref q_t_met, .ref q_t_there, .ref q_t_on, .ref q_t_compared, .ref q_t_globals, .ref q_t_own, .ref q_t_records, .ref q_t_pile, .ref q_t_handed, .ref q_t_keys, .ref q_t_key, .ref q_t_count, .ref q_t_bins, .ref q_t_operator, .ref q_t_starts, .ref q_t_sum, .ref q_t_least, .ref q_t_greatest, .int t_newSite, .int t_newCondition, .int t_newActions, .int t_size, .int t_place, .int t_pos, .int t_at, .int t_operators, .int t_recorded, .int t_lost, .int t_dropped, .int t_firings, .int t_time, .int t_thread, .int t_thrown, .int m12], zaI K q_t_condition 6 t_condition, zaI K q_t_code 1400 t_code, zaD K q_t_pile 60 m13, zaD K q_t_handed 3 t_handed, zaD K q_t_globals 3 t_globals, zaD K q_t_own 12 t_own, zaI K q_t_met 6 t_met, zaI K q_t_actions 6 t_actions, zaI K q_t_kind 340 t_kind, zaI K q_t_second 340 t_second, zaD K q_t_records 6 t_records, zaI K q_t_target 340 t_target, zaI K q_t_keys 3 t_keys, zaI K q_t_key 12 t_key, zaD K q_t_sum 12 t_sum, zaD K q_t_least 12 t_least, zaD K q_t_greatest 12 t_greatest, zaI K q_t_count 12 t_count, zaI K q_t_bins 96 t_bins, zaI K q_t_first 340 t_first, zaI K q_t_failures 6 t_failures]) rfl ?_
    have hS14 := hS8.2 r9 m12 m13 e11
    refine z_dconst0 C d_Mo_doRule_24 ?_
    refine z_dcmp C d_Mo_doRule_25 ?_
    refine z_if_eq (tgt := 33) C d_Mo_doRule_26 (by decide) (fun c15 => ?_) (fun c15 => ?_)
    · have hS16 := hS14.1 c15
      refine z_iconst (v := (0 : Int32)) C d_Mo_doRule_33 (by decide) ?_
      refine z_istore_n (lv' := [(2, .int (0 : Int32)), (0, .ref q_t), (1, .int x1)]) C d_Mo_doRule_34 rfl (by decide) rfl ?_
      refine z_aload_n C d_Mo_doRule_35 rfl 1 rfl ?_
      refine z_get C 0 rfl rfl in_Mo 43 (by decide) rfl wf_Mo_173 rfl d_Mo_doRule_36 ?_
      refine z_if_ne (tgt := 89) C d_Mo_doRule_39 (by decide) (fun c17 => ?_) (fun c17 => ?_)
      · have hS18 := hS16.1 c17
        refine z_aload_n C d_Mo_doRule_89 rfl 1 rfl ?_
        refine z_get C 0 rfl rfl in_Mo 43 (by decide) rfl wf_Mo_173 rfl d_Mo_doRule_90 ?_
        refine z_if_eq (tgt := 106) C d_Mo_doRule_93 (by decide) (fun c19 => absurd c19 c17) (fun c19 => ?_)
        refine z_aload_n C d_Mo_doRule_96 rfl 1 rfl ?_
        refine z_get C 0 rfl rfl in_Mo 9 (by decide) rfl wf_Mo_37 rfl d_Mo_doRule_97 ?_
        refine z_iload_n C d_Mo_doRule_100 rfl 2 rfl ?_
        refine z_dup2_11 C d_Mo_doRule_101 rfl rfl ?_
        refine z_iald C 21 0 rfl rfl hS18.1 d_Mo_doRule_102 ?_
        have hS20 := hS18.2
        refine z_iconst (v := (1 : Int32)) C d_Mo_doRule_103 (by decide) ?_
        refine z_iadd C d_Mo_doRule_104 ?_
        refine z_iast (ws' := [zo 6 q_t [.ref q_t_text, .ref q_t_code, .ref q_t_site, .ref q_t_condition, .ref q_t_actions, .ref q_t_kind, .ref q_t_target, .ref q_t_first, .ref q_t_second, .ref q_t_failures, .ref q_t_met, .ref q_t_there, .ref q_t_on, .ref q_t_compared, .ref q_t_globals, .ref q_t_own, .ref q_t_records, .ref q_t_pile, .ref q_t_handed, .ref q_t_keys, .ref q_t_key, .ref q_t_count, .ref q_t_bins, .ref q_t_operator, .ref q_t_starts, .ref q_t_sum, .ref q_t_least, .ref q_t_greatest, .int t_newSite, .int t_newCondition, .int t_newActions, .int t_size, .int t_place, .int t_pos, .int t_at, .int t_operators, .int t_recorded, .int t_lost, .int t_dropped, .int t_firings, .int t_time, .int t_thread, .int t_thrown, .int m12], zaI K q_t_condition 6 t_condition, zaI K q_t_code 1400 t_code, zaD K q_t_pile 60 m13, zaD K q_t_handed 3 t_handed, zaD K q_t_globals 3 t_globals, zaD K q_t_own 12 t_own, zaI K q_t_met 6 t_met, zaI K q_t_actions 6 t_actions, zaI K q_t_kind 340 t_kind, zaI K q_t_second 340 t_second, zaD K q_t_records 6 t_records, zaI K q_t_target 340 t_target, zaI K q_t_keys 3 t_keys, zaI K q_t_key 12 t_key, zaD K q_t_sum 12 t_sum, zaD K q_t_least 12 t_least, zaD K q_t_greatest 12 t_greatest, zaI K q_t_count 12 t_count, zaI K q_t_bins 96 t_bins, zaI K q_t_first 340 t_first, zaI K q_t_failures 6 (upd t_failures x1.toNatClampNeg ((t_failures x1.toNatClampNeg) + (1 : Int32)))]) C 21 0 rfl rfl hS20.1 rfl d_Mo_doRule_105 ?_
        have hS21 := hS20.2
        exact z_vret C hr hlk (t_recorded, t_lost, t_dropped, m12, m13, t_globals, t_own, t_met, t_records, t_keys, t_key, t_sum, t_least, t_greatest, t_count, t_bins, upd t_failures x1.toNatClampNeg ((t_failures x1.toNatClampNeg) + (1 : Int32))) rfl hS21 d_Mo_doRule_106
      · have hS18 := hS16.2 c17
        refine z_iload_n C d_Mo_doRule_42 rfl 0 rfl ?_
        refine z_if_eq (tgt := 89) C d_Mo_doRule_43 (by decide) (fun c22 => ?_) (fun c22 => absurd c22 (by decide))
        refine z_aload_n C d_Mo_doRule_89 rfl 1 rfl ?_
        refine z_get C 0 rfl rfl in_Mo 43 (by decide) rfl wf_Mo_173 rfl d_Mo_doRule_90 ?_
        refine z_if_eq (tgt := 106) C d_Mo_doRule_93 (by decide) (fun c23 => ?_) (fun c23 => absurd c17 c23)
        exact z_vret C hr hlk (t_recorded, t_lost, t_dropped, m12, m13, t_globals, t_own, t_met, t_records, t_keys, t_key, t_sum, t_least, t_greatest, t_count, t_bins, t_failures) rfl hS18 d_Mo_doRule_106
    · have hS16 := hS14.2 c15
      refine z_iconst (v := (1 : Int32)) C d_Mo_doRule_29 (by decide) ?_
      refine z_goto (tgt := 34) C d_Mo_doRule_30 (by decide) ?_
      refine z_istore_n (lv' := [(2, .int (1 : Int32)), (0, .ref q_t), (1, .int x1)]) C d_Mo_doRule_34 rfl (by decide) rfl ?_
      refine z_aload_n C d_Mo_doRule_35 rfl 1 rfl ?_
      refine z_get C 0 rfl rfl in_Mo 43 (by decide) rfl wf_Mo_173 rfl d_Mo_doRule_36 ?_
      refine z_if_ne (tgt := 89) C d_Mo_doRule_39 (by decide) (fun c24 => ?_) (fun c24 => ?_)
      · have hS25 := hS16.1 c24
        refine z_aload_n C d_Mo_doRule_89 rfl 1 rfl ?_
        refine z_get C 0 rfl rfl in_Mo 43 (by decide) rfl wf_Mo_173 rfl d_Mo_doRule_90 ?_
        refine z_if_eq (tgt := 106) C d_Mo_doRule_93 (by decide) (fun c26 => absurd c26 c24) (fun c26 => ?_)
        refine z_aload_n C d_Mo_doRule_96 rfl 1 rfl ?_
        refine z_get C 0 rfl rfl in_Mo 9 (by decide) rfl wf_Mo_37 rfl d_Mo_doRule_97 ?_
        refine z_iload_n C d_Mo_doRule_100 rfl 2 rfl ?_
        refine z_dup2_11 C d_Mo_doRule_101 rfl rfl ?_
        refine z_iald C 21 0 rfl rfl hS25.1 d_Mo_doRule_102 ?_
        have hS27 := hS25.2
        refine z_iconst (v := (1 : Int32)) C d_Mo_doRule_103 (by decide) ?_
        refine z_iadd C d_Mo_doRule_104 ?_
        refine z_iast (ws' := [zo 6 q_t [.ref q_t_text, .ref q_t_code, .ref q_t_site, .ref q_t_condition, .ref q_t_actions, .ref q_t_kind, .ref q_t_target, .ref q_t_first, .ref q_t_second, .ref q_t_failures, .ref q_t_met, .ref q_t_there, .ref q_t_on, .ref q_t_compared, .ref q_t_globals, .ref q_t_own, .ref q_t_records, .ref q_t_pile, .ref q_t_handed, .ref q_t_keys, .ref q_t_key, .ref q_t_count, .ref q_t_bins, .ref q_t_operator, .ref q_t_starts, .ref q_t_sum, .ref q_t_least, .ref q_t_greatest, .int t_newSite, .int t_newCondition, .int t_newActions, .int t_size, .int t_place, .int t_pos, .int t_at, .int t_operators, .int t_recorded, .int t_lost, .int t_dropped, .int t_firings, .int t_time, .int t_thread, .int t_thrown, .int m12], zaI K q_t_condition 6 t_condition, zaI K q_t_code 1400 t_code, zaD K q_t_pile 60 m13, zaD K q_t_handed 3 t_handed, zaD K q_t_globals 3 t_globals, zaD K q_t_own 12 t_own, zaI K q_t_met 6 t_met, zaI K q_t_actions 6 t_actions, zaI K q_t_kind 340 t_kind, zaI K q_t_second 340 t_second, zaD K q_t_records 6 t_records, zaI K q_t_target 340 t_target, zaI K q_t_keys 3 t_keys, zaI K q_t_key 12 t_key, zaD K q_t_sum 12 t_sum, zaD K q_t_least 12 t_least, zaD K q_t_greatest 12 t_greatest, zaI K q_t_count 12 t_count, zaI K q_t_bins 96 t_bins, zaI K q_t_first 340 t_first, zaI K q_t_failures 6 (upd t_failures x1.toNatClampNeg ((t_failures x1.toNatClampNeg) + (1 : Int32)))]) C 21 0 rfl rfl hS27.1 rfl d_Mo_doRule_105 ?_
        have hS28 := hS27.2
        exact z_vret C hr hlk (t_recorded, t_lost, t_dropped, m12, m13, t_globals, t_own, t_met, t_records, t_keys, t_key, t_sum, t_least, t_greatest, t_count, t_bins, upd t_failures x1.toNatClampNeg ((t_failures x1.toNatClampNeg) + (1 : Int32))) rfl hS28 d_Mo_doRule_106
      · have hS25 := hS16.2 c24
        refine z_iload_n C d_Mo_doRule_42 rfl 0 rfl ?_
        refine z_if_eq (tgt := 89) C d_Mo_doRule_43 (by decide) (fun c29 => absurd c29 (by decide)) (fun c29 => ?_)
        refine z_aload_n C d_Mo_doRule_46 rfl 1 rfl ?_
        refine z_get C 0 rfl rfl in_Mo 10 (by decide) rfl wf_Mo_40 rfl d_Mo_doRule_47 ?_
        refine z_iload_n C d_Mo_doRule_50 rfl 2 rfl ?_
        refine z_dup2_11 C d_Mo_doRule_51 rfl rfl ?_
        refine z_iald C 7 0 rfl rfl hS25.1 d_Mo_doRule_52 ?_
        have hS30 := hS25.2
        refine z_iconst (v := (1 : Int32)) C d_Mo_doRule_53 (by decide) ?_
        refine z_iadd C d_Mo_doRule_54 ?_
        refine z_iast (ws' := [zo 6 q_t [.ref q_t_text, .ref q_t_code, .ref q_t_site, .ref q_t_condition, .ref q_t_actions, .ref q_t_kind, .ref q_t_target, .ref q_t_first, .ref q_t_second, .ref q_t_failures, .ref q_t_met, .ref q_t_there, .ref q_t_on, .ref q_t_compared, .ref q_t_globals, .ref q_t_own, .ref q_t_records, .ref q_t_pile, .ref q_t_handed, .ref q_t_keys, .ref q_t_key, .ref q_t_count, .ref q_t_bins, .ref q_t_operator, .ref q_t_starts, .ref q_t_sum, .ref q_t_least, .ref q_t_greatest, .int t_newSite, .int t_newCondition, .int t_newActions, .int t_size, .int t_place, .int t_pos, .int t_at, .int t_operators, .int t_recorded, .int t_lost, .int t_dropped, .int t_firings, .int t_time, .int t_thread, .int t_thrown, .int m12], zaI K q_t_condition 6 t_condition, zaI K q_t_code 1400 t_code, zaD K q_t_pile 60 m13, zaD K q_t_handed 3 t_handed, zaD K q_t_globals 3 t_globals, zaD K q_t_own 12 t_own, zaI K q_t_met 6 (upd t_met x1.toNatClampNeg ((t_met x1.toNatClampNeg) + (1 : Int32))), zaI K q_t_actions 6 t_actions, zaI K q_t_kind 340 t_kind, zaI K q_t_second 340 t_second, zaD K q_t_records 6 t_records, zaI K q_t_target 340 t_target, zaI K q_t_keys 3 t_keys, zaI K q_t_key 12 t_key, zaD K q_t_sum 12 t_sum, zaD K q_t_least 12 t_least, zaD K q_t_greatest 12 t_greatest, zaI K q_t_count 12 t_count, zaI K q_t_bins 96 t_bins, zaI K q_t_first 340 t_first, zaI K q_t_failures 6 t_failures]) C 7 0 rfl rfl hS30.1 rfl d_Mo_doRule_55 ?_
        have hS31 := hS30.2
        refine z_iconst (v := (0 : Int32)) C d_Mo_doRule_56 (by decide) ?_
        refine z_istore_n (lv' := [(3, .int (0 : Int32)), (2, .int (1 : Int32)), (0, .ref q_t), (1, .int x1)]) C d_Mo_doRule_57 rfl (by decide) rfl ?_
        refine z_lpick (lv' := [(0, .ref q_t), (1, .int x1), (2, .int (1 : Int32)), (3, .int (0 : Int32))]) [2, 3, 1, 0] rfl ?_
        exact lw_Mo_doRule_L58 l D K q_t q_t_text q_t_code q_t_site q_t_condition q_t_actions q_t_kind q_t_target q_t_first q_t_second q_t_failures q_t_met q_t_there q_t_on q_t_compared q_t_globals q_t_own q_t_records q_t_pile q_t_handed q_t_keys q_t_key q_t_count q_t_bins q_t_operator q_t_starts q_t_sum q_t_least q_t_greatest t_newSite t_newCondition t_newActions t_size t_place t_pos t_at t_operators t_firings t_time t_thread t_thrown t_condition t_code t_handed t_actions t_kind t_second t_target t_first C hr hlk 600 x1 (1 : Int32) (0 : Int32) t_recorded t_lost t_dropped m12 m13 t_globals t_own (upd t_met x1.toNatClampNeg ((t_met x1.toNatClampNeg) + (1 : Int32))) t_records t_keys t_key t_sum t_least t_greatest t_count t_bins t_failures hS31
def s_Mo_doRule_L58 : Nat → Int32 → Int32 → Int32 → Int32 → Int32 → Int32 → Int32 → Int32 → Int32 → (Nat → Int32) → (Nat → Int32) → (Nat → UInt64) → (Nat → UInt64) → (Nat → UInt64) → (Nat → UInt64) → (Nat → Int32) → (Nat → Int32) → (Nat → Int32) → (Nat → Int32) → (Nat → UInt64) → (Nat → Int32) → (Nat → Int32) → (Nat → Int32) → (Nat → UInt64) → (Nat → UInt64) → (Nat → UInt64) → (Nat → Int32) → (Nat → Int32) → (Nat → Int32) → (Nat → Int32) → Int32 × Int32 × Int32 × Int32 × (Nat → UInt64) × (Nat → UInt64) × (Nat → UInt64) × (Nat → Int32) × (Nat → UInt64) × (Nat → Int32) × (Nat → Int32) × (Nat → UInt64) × (Nat → UInt64) × (Nat → UInt64) × (Nat → Int32) × (Nat → Int32) × (Nat → Int32)
  | 0, _, _, _, t_recorded, t_lost, t_dropped, _, _, t_failed, _, _, t_pile, _, t_globals, t_own, t_met, _, _, _, t_records, _, t_keys, t_key, t_sum, t_least, t_greatest, t_count, t_bins, _, t_failures => (t_recorded, t_lost, t_dropped, t_failed, t_pile, t_globals, t_own, t_met, t_records, t_keys, t_key, t_sum, t_least, t_greatest, t_count, t_bins, t_failures)
  | n + 1, y1, y2, y3, t_recorded, t_lost, t_dropped, t_time, t_thread, t_failed, t_condition, t_code, t_pile, t_handed, t_globals, t_own, t_met, t_actions, t_kind, t_second, t_records, t_target, t_keys, t_key, t_sum, t_least, t_greatest, t_count, t_bins, t_first, t_failures => (if (t_actions y1.toNatClampNeg) ≤ y3 then (if t_failed = 0 then (t_recorded, t_lost, t_dropped, t_failed, t_pile, t_globals, t_own, t_met, t_records, t_keys, t_key, t_sum, t_least, t_greatest, t_count, t_bins, t_failures) else (t_recorded, t_lost, t_dropped, t_failed, t_pile, t_globals, t_own, t_met, t_records, t_keys, t_key, t_sum, t_least, t_greatest, t_count, t_bins, upd t_failures y1.toNatClampNeg ((t_failures y1.toNatClampNeg) + (1 : Int32)))) else (if y2 = 0 then (if t_failed = 0 then (t_recorded, t_lost, t_dropped, t_failed, t_pile, t_globals, t_own, t_met, t_records, t_keys, t_key, t_sum, t_least, t_greatest, t_count, t_bins, t_failures) else (t_recorded, t_lost, t_dropped, t_failed, t_pile, t_globals, t_own, t_met, t_records, t_keys, t_key, t_sum, t_least, t_greatest, t_count, t_bins, upd t_failures y1.toNatClampNeg ((t_failures y1.toNatClampNeg) + (1 : Int32)))) else (zl2 (s_Mo_perform t_recorded t_lost t_dropped t_time t_thread t_failed t_kind t_second t_code t_pile t_handed t_globals t_own t_records t_target t_keys t_key t_sum t_least t_greatest t_count t_bins t_first ((y1 * (48 : Int32)) + y3)) (fun r45 z_r45 => zl2 z_r45 (fun m48 z_m48 => zl2 z_m48 (fun m49 z_m49 => zl2 z_m49 (fun m50 z_m50 => zl2 z_m50 (fun m51 z_m51 => zl2 z_m51 (fun m52 z_m52 => zl2 z_m52 (fun m53 z_m53 => zl2 z_m53 (fun m54 z_m54 => zl2 z_m54 (fun m55 z_m55 => zl2 z_m55 (fun m56 z_m56 => zl2 z_m56 (fun m57 z_m57 => zl2 z_m57 (fun m58 z_m58 => zl2 z_m58 (fun m59 z_m59 => zl2 z_m59 (fun m60 z_m60 => zl2 z_m60 (fun m61 m62 => s_Mo_doRule_L58 n y1 r45 (y3 + (1 : Int32)) m48 m49 m50 t_time t_thread m51 t_condition t_code m52 t_handed m53 m54 t_met t_actions t_kind t_second m55 t_target m56 m57 m58 m59 m60 m61 m62 t_first t_failures))))))))))))))))))
def s_Mo_doRule (t_recorded : Int32) (t_lost : Int32) (t_dropped : Int32) (t_time : Int32) (t_thread : Int32) (t_failed : Int32) (t_condition : Nat → Int32) (t_code : Nat → Int32) (t_pile : Nat → UInt64) (t_handed : Nat → UInt64) (t_globals : Nat → UInt64) (t_own : Nat → UInt64) (t_met : Nat → Int32) (t_actions : Nat → Int32) (t_kind : Nat → Int32) (t_second : Nat → Int32) (t_records : Nat → UInt64) (t_target : Nat → Int32) (t_keys : Nat → Int32) (t_key : Nat → Int32) (t_sum : Nat → UInt64) (t_least : Nat → UInt64) (t_greatest : Nat → UInt64) (t_count : Nat → Int32) (t_bins : Nat → Int32) (t_first : Nat → Int32) (t_failures : Nat → Int32) (x1 : Int32) : Int32 × Int32 × Int32 × Int32 × (Nat → UInt64) × (Nat → UInt64) × (Nat → UInt64) × (Nat → Int32) × (Nat → UInt64) × (Nat → Int32) × (Nat → Int32) × (Nat → UInt64) × (Nat → UInt64) × (Nat → UInt64) × (Nat → Int32) × (Nat → Int32) × (Nat → Int32) := (if (t_condition x1.toNatClampNeg) < 0 then s_Mo_doRule_L58 600 x1 (1 : Int32) (0 : Int32) t_recorded t_lost t_dropped t_time t_thread (0 : Int32) t_condition t_code t_pile t_handed t_globals t_own (upd t_met x1.toNatClampNeg ((t_met x1.toNatClampNeg) + (1 : Int32))) t_actions t_kind t_second t_records t_target t_keys t_key t_sum t_least t_greatest t_count t_bins t_first t_failures else (zl2 (s_Mo_value t_time t_thread (0 : Int32) t_code t_pile t_handed t_globals t_own (t_condition x1.toNatClampNeg)) (fun r9 z_r9 => zl2 z_r9 (fun m12 m13 => (if (Op.cmpValue (FP.dcmp r9 FP.dconst0) .l) = 0 then (if m12 = 0 then (t_recorded, t_lost, t_dropped, m12, m13, t_globals, t_own, t_met, t_records, t_keys, t_key, t_sum, t_least, t_greatest, t_count, t_bins, t_failures) else (t_recorded, t_lost, t_dropped, m12, m13, t_globals, t_own, t_met, t_records, t_keys, t_key, t_sum, t_least, t_greatest, t_count, t_bins, upd t_failures x1.toNatClampNeg ((t_failures x1.toNatClampNeg) + (1 : Int32)))) else (if m12 = 0 then s_Mo_doRule_L58 600 x1 (1 : Int32) (0 : Int32) t_recorded t_lost t_dropped t_time t_thread m12 t_condition t_code m13 t_handed t_globals t_own (upd t_met x1.toNatClampNeg ((t_met x1.toNatClampNeg) + (1 : Int32))) t_actions t_kind t_second t_records t_target t_keys t_key t_sum t_least t_greatest t_count t_bins t_first t_failures else (t_recorded, t_lost, t_dropped, m12, m13, t_globals, t_own, t_met, t_records, t_keys, t_key, t_sum, t_least, t_greatest, t_count, t_bins, upd t_failures x1.toNatClampNeg ((t_failures x1.toNatClampNeg) + (1 : Int32)))))))))
def p_Mo_doRule (t_recorded : Int32) (t_lost : Int32) (t_dropped : Int32) (t_time : Int32) (t_thread : Int32) (t_failed : Int32) (t_condition : Nat → Int32) (t_code : Nat → Int32) (t_pile : Nat → UInt64) (t_handed : Nat → UInt64) (t_globals : Nat → UInt64) (t_own : Nat → UInt64) (t_met : Nat → Int32) (t_actions : Nat → Int32) (t_kind : Nat → Int32) (t_second : Nat → Int32) (t_records : Nat → UInt64) (t_target : Nat → Int32) (t_keys : Nat → Int32) (t_key : Nat → Int32) (t_sum : Nat → UInt64) (t_least : Nat → UInt64) (t_greatest : Nat → UInt64) (t_count : Nat → Int32) (t_bins : Nat → Int32) (t_first : Nat → Int32) (t_failures : Nat → Int32) (x1 : Int32) : Prop := WP_Mo_doRule t_recorded t_lost t_dropped t_time t_thread t_failed t_condition t_code t_pile t_handed t_globals t_own t_met t_actions t_kind t_second t_records t_target t_keys t_key t_sum t_least t_greatest t_count t_bins t_first t_failures x1 (fun _ => True)
set_option maxRecDepth 100000 in
theorem v_Mo_doRule_L58 : ∀ (n : Nat) (y1 : Int32) (y2 : Int32) (y3 : Int32) (t_recorded : Int32) (t_lost : Int32) (t_dropped : Int32) (t_time : Int32) (t_thread : Int32) (t_failed : Int32) (t_condition : Nat → Int32) (t_code : Nat → Int32) (t_pile : Nat → UInt64) (t_handed : Nat → UInt64) (t_globals : Nat → UInt64) (t_own : Nat → UInt64) (t_met : Nat → Int32) (t_actions : Nat → Int32) (t_kind : Nat → Int32) (t_second : Nat → Int32) (t_records : Nat → UInt64) (t_target : Nat → Int32) (t_keys : Nat → Int32) (t_key : Nat → Int32) (t_sum : Nat → UInt64) (t_least : Nat → UInt64) (t_greatest : Nat → UInt64) (t_count : Nat → Int32) (t_bins : Nat → Int32) (t_first : Nat → Int32) (t_failures : Nat → Int32) (tgt : Int32 × Int32 × Int32 × Int32 × (Nat → UInt64) × (Nat → UInt64) × (Nat → UInt64) × (Nat → Int32) × (Nat → UInt64) × (Nat → Int32) × (Nat → Int32) × (Nat → UInt64) × (Nat → UInt64) × (Nat → UInt64) × (Nat → Int32) × (Nat → Int32) × (Nat → Int32)), s_Mo_doRule_L58 n y1 y2 y3 t_recorded t_lost t_dropped t_time t_thread t_failed t_condition t_code t_pile t_handed t_globals t_own t_met t_actions t_kind t_second t_records t_target t_keys t_key t_sum t_least t_greatest t_count t_bins t_first t_failures = tgt → WP_Mo_doRule_L58 n y1 y2 y3 t_recorded t_lost t_dropped t_time t_thread t_failed t_condition t_code t_pile t_handed t_globals t_own t_met t_actions t_kind t_second t_records t_target t_keys t_key t_sum t_least t_greatest t_count t_bins t_first t_failures (fun _ => True) → WP_Mo_doRule_L58 n y1 y2 y3 t_recorded t_lost t_dropped t_time t_thread t_failed t_condition t_code t_pile t_handed t_globals t_own t_met t_actions t_kind t_second t_records t_target t_keys t_key t_sum t_least t_greatest t_count t_bins t_first t_failures (fun u => tgt = u) := by
  intro n
  induction n with
  | zero => intros; contradiction
  | succ n ih =>
    intro y1 y2 y3 t_recorded t_lost t_dropped t_time t_thread t_failed t_condition t_code t_pile t_handed t_globals t_own t_met t_actions t_kind t_second t_records t_target t_keys t_key t_sum t_least t_greatest t_count t_bins t_first t_failures tgt f0 hp
    unfold s_Mo_doRule_L58 at f0
    unfold WP_Mo_doRule_L58 at hp ⊢
    refine ⟨hp.1, ?_⟩
    have g1 := hp.2
    refine ⟨fun c33 => ?_, fun c33 => ?_⟩
    · have f2 := Eq.trans (Eq.symm (if_pos c33)) f0
      have g2 := g1.1 c33
      refine ⟨fun c35 => ?_, fun c35 => ?_⟩
      · have f3 := Eq.trans (Eq.symm (if_pos c35)) f2
        have g3 := g2.1 c35
        exact f3.symm
      · have f3 := Eq.trans (Eq.symm (if_neg c35)) f2
        have g3 := g2.2 c35
        refine ⟨g3.1, ?_⟩
        have g4 := g3.2
        refine ⟨g4.1, ?_⟩
        have g5 := g4.2
        exact f3.symm
    · have f2 := Eq.trans (Eq.symm (if_neg c33)) f0
      have g2 := g1.2 c33
      refine ⟨fun c39 => ?_, fun c39 => ?_⟩
      · have f6 := Eq.trans (Eq.symm (if_pos c39)) f2
        have g6 := g2.1 c39
        refine ⟨fun c41 => ?_, fun c41 => ?_⟩
        · have f7 := Eq.trans (Eq.symm (if_pos c41)) f6
          have g7 := g6.1 c41
          exact f7.symm
        · have f7 := Eq.trans (Eq.symm (if_neg c41)) f6
          have g7 := g6.2 c41
          refine ⟨g7.1, ?_⟩
          have g8 := g7.2
          refine ⟨g8.1, ?_⟩
          have g9 := g8.2
          exact f7.symm
      · have f6 := Eq.trans (Eq.symm (if_neg c39)) f2
        have g6 := g2.2 c39
        refine ⟨g6.1, ?_⟩
        have g11 := g6.2
        intro r45 m48 m49 m50 m51 m52 m53 m54 m55 m56 m57 m58 m59 m60 m61 m62 e47
        have g10 := g11 r45 m48 m49 m50 m51 m52 m53 m54 m55 m56 m57 m58 m59 m60 m61 m62 e47
        have f10 := Eq.trans (Eq.symm (zl2_eq e47)) f6
        have f10 := Eq.trans (Eq.symm (zl2_eq (Eq.refl (m48, m49, m50, m51, m52, m53, m54, m55, m56, m57, m58, m59, m60, m61, m62)))) f10
        have f10 := Eq.trans (Eq.symm (zl2_eq (Eq.refl (m49, m50, m51, m52, m53, m54, m55, m56, m57, m58, m59, m60, m61, m62)))) f10
        have f10 := Eq.trans (Eq.symm (zl2_eq (Eq.refl (m50, m51, m52, m53, m54, m55, m56, m57, m58, m59, m60, m61, m62)))) f10
        have f10 := Eq.trans (Eq.symm (zl2_eq (Eq.refl (m51, m52, m53, m54, m55, m56, m57, m58, m59, m60, m61, m62)))) f10
        have f10 := Eq.trans (Eq.symm (zl2_eq (Eq.refl (m52, m53, m54, m55, m56, m57, m58, m59, m60, m61, m62)))) f10
        have f10 := Eq.trans (Eq.symm (zl2_eq (Eq.refl (m53, m54, m55, m56, m57, m58, m59, m60, m61, m62)))) f10
        have f10 := Eq.trans (Eq.symm (zl2_eq (Eq.refl (m54, m55, m56, m57, m58, m59, m60, m61, m62)))) f10
        have f10 := Eq.trans (Eq.symm (zl2_eq (Eq.refl (m55, m56, m57, m58, m59, m60, m61, m62)))) f10
        have f10 := Eq.trans (Eq.symm (zl2_eq (Eq.refl (m56, m57, m58, m59, m60, m61, m62)))) f10
        have f10 := Eq.trans (Eq.symm (zl2_eq (Eq.refl (m57, m58, m59, m60, m61, m62)))) f10
        have f10 := Eq.trans (Eq.symm (zl2_eq (Eq.refl (m58, m59, m60, m61, m62)))) f10
        have f10 := Eq.trans (Eq.symm (zl2_eq (Eq.refl (m59, m60, m61, m62)))) f10
        have f10 := Eq.trans (Eq.symm (zl2_eq (Eq.refl (m60, m61, m62)))) f10
        have f10 := Eq.trans (Eq.symm (zl2_eq (Eq.refl (m61, m62)))) f10
        exact ih y1 r45 (y3 + (1 : Int32)) m48 m49 m50 t_time t_thread m51 t_condition t_code m52 t_handed m53 m54 t_met t_actions t_kind t_second m55 t_target m56 m57 m58 m59 m60 m61 m62 t_first t_failures _ f10 g10
set_option maxRecDepth 100000 in
theorem v_Mo_doRule (t_recorded : Int32) (t_lost : Int32) (t_dropped : Int32) (t_time : Int32) (t_thread : Int32) (t_failed : Int32) (t_condition : Nat → Int32) (t_code : Nat → Int32) (t_pile : Nat → UInt64) (t_handed : Nat → UInt64) (t_globals : Nat → UInt64) (t_own : Nat → UInt64) (t_met : Nat → Int32) (t_actions : Nat → Int32) (t_kind : Nat → Int32) (t_second : Nat → Int32) (t_records : Nat → UInt64) (t_target : Nat → Int32) (t_keys : Nat → Int32) (t_key : Nat → Int32) (t_sum : Nat → UInt64) (t_least : Nat → UInt64) (t_greatest : Nat → UInt64) (t_count : Nat → Int32) (t_bins : Nat → Int32) (t_first : Nat → Int32) (t_failures : Nat → Int32) (x1 : Int32) (hp : p_Mo_doRule t_recorded t_lost t_dropped t_time t_thread t_failed t_condition t_code t_pile t_handed t_globals t_own t_met t_actions t_kind t_second t_records t_target t_keys t_key t_sum t_least t_greatest t_count t_bins t_first t_failures x1) : WP_Mo_doRule t_recorded t_lost t_dropped t_time t_thread t_failed t_condition t_code t_pile t_handed t_globals t_own t_met t_actions t_kind t_second t_records t_target t_keys t_key t_sum t_least t_greatest t_count t_bins t_first t_failures x1 (fun u => s_Mo_doRule t_recorded t_lost t_dropped t_time t_thread t_failed t_condition t_code t_pile t_handed t_globals t_own t_met t_actions t_kind t_second t_records t_target t_keys t_key t_sum t_least t_greatest t_count t_bins t_first t_failures x1 = u) := by
  unfold p_Mo_doRule WP_Mo_doRule at hp
  obtain ⟨tgt, f0⟩ : ∃ tgt, s_Mo_doRule t_recorded t_lost t_dropped t_time t_thread t_failed t_condition t_code t_pile t_handed t_globals t_own t_met t_actions t_kind t_second t_records t_target t_keys t_key t_sum t_least t_greatest t_count t_bins t_first t_failures x1 = tgt := ⟨_, rfl⟩
  rw [f0]
  unfold s_Mo_doRule at f0
  unfold WP_Mo_doRule
  refine ⟨hp.1, ?_⟩
  have g1 := hp.2
  refine ⟨fun c2 => ?_, fun c2 => ?_⟩
  · have f2 := Eq.trans (Eq.symm (if_pos c2)) f0
    have g2 := g1.1 c2
    refine ⟨g2.1, ?_⟩
    have g3 := g2.2
    refine ⟨g3.1, ?_⟩
    have g4 := g3.2
    exact v_Mo_doRule_L58 600 x1 (1 : Int32) (0 : Int32) t_recorded t_lost t_dropped t_time t_thread (0 : Int32) t_condition t_code t_pile t_handed t_globals t_own (upd t_met x1.toNatClampNeg ((t_met x1.toNatClampNeg) + (1 : Int32))) t_actions t_kind t_second t_records t_target t_keys t_key t_sum t_least t_greatest t_count t_bins t_first t_failures _ f2 g4
  · have f2 := Eq.trans (Eq.symm (if_neg c2)) f0
    have g2 := g1.2 c2
    refine ⟨g2.1, ?_⟩
    have g5 := g2.2
    refine ⟨g5.1, ?_⟩
    have g7 := g5.2
    intro r9 m12 m13 e11
    have g6 := g7 r9 m12 m13 e11
    have f6 := Eq.trans (Eq.symm (zl2_eq e11)) f2
    have f6 := Eq.trans (Eq.symm (zl2_eq (Eq.refl (m12, m13)))) f6
    refine ⟨fun c15 => ?_, fun c15 => ?_⟩
    · have f8 := Eq.trans (Eq.symm (if_pos c15)) f6
      have g8 := g6.1 c15
      refine ⟨fun c17 => ?_, fun c17 => ?_⟩
      · have f9 := Eq.trans (Eq.symm (if_neg c17)) f8
        have g9 := g8.1 c17
        refine ⟨g9.1, ?_⟩
        have g10 := g9.2
        refine ⟨g10.1, ?_⟩
        have g11 := g10.2
        exact f9.symm
      · have f9 := Eq.trans (Eq.symm (if_pos c17)) f8
        have g9 := g8.2 c17
        exact f9.symm
    · have f8 := Eq.trans (Eq.symm (if_neg c15)) f6
      have g8 := g6.2 c15
      refine ⟨fun c24 => ?_, fun c24 => ?_⟩
      · have f12 := Eq.trans (Eq.symm (if_neg c24)) f8
        have g12 := g8.1 c24
        refine ⟨g12.1, ?_⟩
        have g13 := g12.2
        refine ⟨g13.1, ?_⟩
        have g14 := g13.2
        exact f12.symm
      · have f12 := Eq.trans (Eq.symm (if_pos c24)) f8
        have g12 := g8.2 c24
        refine ⟨g12.1, ?_⟩
        have g15 := g12.2
        refine ⟨g15.1, ?_⟩
        have g16 := g15.2
        exact v_Mo_doRule_L58 600 x1 (1 : Int32) (0 : Int32) t_recorded t_lost t_dropped t_time t_thread m12 t_condition t_code m13 t_handed t_globals t_own (upd t_met x1.toNatClampNeg ((t_met x1.toNatClampNeg) + (1 : Int32))) t_actions t_kind t_second t_records t_target t_keys t_key t_sum t_least t_greatest t_count t_bins t_first t_failures _ f12 g16
theorem c_Mo_doRule (l : Launch) (D : va_G) (K : Nat → ClassId) (q_t : Nat) (q_t_text : Nat) (q_t_code : Nat) (q_t_site : Nat) (q_t_condition : Nat) (q_t_actions : Nat) (q_t_kind : Nat) (q_t_target : Nat) (q_t_first : Nat) (q_t_second : Nat) (q_t_failures : Nat) (q_t_met : Nat) (q_t_there : Nat) (q_t_on : Nat) (q_t_compared : Nat) (q_t_globals : Nat) (q_t_own : Nat) (q_t_records : Nat) (q_t_pile : Nat) (q_t_handed : Nat) (q_t_keys : Nat) (q_t_key : Nat) (q_t_count : Nat) (q_t_bins : Nat) (q_t_operator : Nat) (q_t_starts : Nat) (q_t_sum : Nat) (q_t_least : Nat) (q_t_greatest : Nat) (t_newSite : Int32) (t_newCondition : Int32) (t_newActions : Int32) (t_size : Int32) (t_place : Int32) (t_pos : Int32) (t_at : Int32) (t_operators : Int32) (t_recorded : Int32) (t_lost : Int32) (t_dropped : Int32) (t_firings : Int32) (t_time : Int32) (t_thread : Int32) (t_thrown : Int32) (t_failed : Int32) (t_condition : Nat → Int32) (t_code : Nat → Int32) (t_pile : Nat → UInt64) (t_handed : Nat → UInt64) (t_globals : Nat → UInt64) (t_own : Nat → UInt64) (t_met : Nat → Int32) (t_actions : Nat → Int32) (t_kind : Nat → Int32) (t_second : Nat → Int32) (t_records : Nat → UInt64) (t_target : Nat → Int32) (t_keys : Nat → Int32) (t_key : Nat → Int32) (t_sum : Nat → UInt64) (t_least : Nat → UInt64) (t_greatest : Nat → UInt64) (t_count : Nat → Int32) (t_bins : Nat → Int32) (t_first : Nat → Int32) (t_failures : Nat → Int32) (x1 : Int32) (hp : p_Mo_doRule t_recorded t_lost t_dropped t_time t_thread t_failed t_condition t_code t_pile t_handed t_globals t_own t_met t_actions t_kind t_second t_records t_target t_keys t_key t_sum t_least t_greatest t_count t_bins t_first t_failures x1) : zCv l y_Mo_doRule wy_Mo_doRule rm_Mo_doRule D zcl (zT K) [.ref q_t, .int x1] (w_Mo_doRule K q_t q_t_text q_t_code q_t_site q_t_condition q_t_actions q_t_kind q_t_target q_t_first q_t_second q_t_failures q_t_met q_t_there q_t_on q_t_compared q_t_globals q_t_own q_t_records q_t_pile q_t_handed q_t_keys q_t_key q_t_count q_t_bins q_t_operator q_t_starts q_t_sum q_t_least q_t_greatest t_newSite t_newCondition t_newActions t_size t_place t_pos t_at t_operators t_firings t_time t_thread t_thrown t_condition t_code t_handed t_actions t_kind t_second t_target t_first (t_recorded, t_lost, t_dropped, t_failed, t_pile, t_globals, t_own, t_met, t_records, t_keys, t_key, t_sum, t_least, t_greatest, t_count, t_bins, t_failures)) (w_Mo_doRule K q_t q_t_text q_t_code q_t_site q_t_condition q_t_actions q_t_kind q_t_target q_t_first q_t_second q_t_failures q_t_met q_t_there q_t_on q_t_compared q_t_globals q_t_own q_t_records q_t_pile q_t_handed q_t_keys q_t_key q_t_count q_t_bins q_t_operator q_t_starts q_t_sum q_t_least q_t_greatest t_newSite t_newCondition t_newActions t_size t_place t_pos t_at t_operators t_firings t_time t_thread t_thrown t_condition t_code t_handed t_actions t_kind t_second t_target t_first) (fun u => s_Mo_doRule t_recorded t_lost t_dropped t_time t_thread t_failed t_condition t_code t_pile t_handed t_globals t_own t_met t_actions t_kind t_second t_records t_target t_keys t_key t_sum t_least t_greatest t_count t_bins t_first t_failures x1 = u) 0 0 := cw_Mo_doRule l D K q_t q_t_text q_t_code q_t_site q_t_condition q_t_actions q_t_kind q_t_target q_t_first q_t_second q_t_failures q_t_met q_t_there q_t_on q_t_compared q_t_globals q_t_own q_t_records q_t_pile q_t_handed q_t_keys q_t_key q_t_count q_t_bins q_t_operator q_t_starts q_t_sum q_t_least q_t_greatest t_newSite t_newCondition t_newActions t_size t_place t_pos t_at t_operators t_recorded t_lost t_dropped t_firings t_time t_thread t_thrown t_failed t_condition t_code t_pile t_handed t_globals t_own t_met t_actions t_kind t_second t_records t_target t_keys t_key t_sum t_least t_greatest t_count t_bins t_first t_failures x1 (v_Mo_doRule t_recorded t_lost t_dropped t_time t_thread t_failed t_condition t_code t_pile t_handed t_globals t_own t_met t_actions t_kind t_second t_records t_target t_keys t_key t_sum t_least t_greatest t_count t_bins t_first t_failures x1 hp)
