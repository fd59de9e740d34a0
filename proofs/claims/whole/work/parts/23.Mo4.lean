-- RuleTracerModel.fits(D)Z: reads [], changes []
abbrev w_Mo_fits (K : Nat → ClassId)   (u : Unit) : va_W := []
abbrev rm_Mo_fits : Room := { frames := 0, cells := 0, slots := 0, locals := 0 }
abbrev wy_Mo_fits : List Cond := .code y_Mo_fits b_Mo_fits 2 (some .boolean) :: zWT
def WP_Mo_fits (x0 : UInt64) (Q : Int32 → Unit → Prop) : Prop := (((Op.cmpValue (FP.dcmp x0 (13875379345695965184 : UInt64)) .l) < 0) → Q (0 : Int32) ()) ∧ ((¬ (Op.cmpValue (FP.dcmp x0 (13875379345695965184 : UInt64)) .l) < 0) → ((0 < (Op.cmpValue (FP.dcmp x0 (4652007308841189376 : UInt64)) .g)) → Q (0 : Int32) ()) ∧ ((¬ 0 < (Op.cmpValue (FP.dcmp x0 (4652007308841189376 : UInt64)) .g)) → Q (1 : Int32) ()))
set_option maxHeartbeats 4000000 in
set_option maxRecDepth 100000 in
theorem cw_Mo_fits (l : Launch) (D : va_G) (K : Nat → ClassId)  (x0 : UInt64) {Q : Int32 → Unit → Prop} (hS0 : WP_Mo_fits x0 Q) : zCi l y_Mo_fits wy_Mo_fits rm_Mo_fits D zcl (zT K) [.double x0] (w_Mo_fits K ()) (w_Mo_fits K) Q 0 0 := by
  refine z_meti (cc := b_Mo_fits) (maxL := 2) (ret := (some .boolean)) (by decide) rfl (Nat.le_of_ble_eq_true rfl) ?_
  intro p e s m args below meth c A C hr hlk hnm
  refine z_lpick (lv' := [(0, .double x0)]) [0] rfl ?_
  refine z_weq (ws' := []) rfl ?_
  refine z_dload_n C d_Mo_fits_0 rfl 0 rfl ?_
  refine z_ldc2d C d_Mo_fits_1 wd_Mo_233 ?_
  refine z_dcmp C d_Mo_fits_4 ?_
  refine z_if_lt (tgt := 20) C d_Mo_fits_5 (by decide) (fun c1 => ?_) (fun c1 => ?_)
  · have hS2 := hS0.1 c1
    refine z_iconst (v := (0 : Int32)) C d_Mo_fits_20 (by decide) ?_
    exact z_zret C hr rfl hlk () rfl hS2 d_Mo_fits_21
  · have hS2 := hS0.2 c1
    refine z_dload_n C d_Mo_fits_8 rfl 0 rfl ?_
    refine z_ldc2d C d_Mo_fits_9 wd_Mo_235 ?_
    refine z_dcmp C d_Mo_fits_12 ?_
    refine z_if_gt (tgt := 20) C d_Mo_fits_13 (by decide) (fun c3 => ?_) (fun c3 => ?_)
    · have hS4 := hS2.1 c3
      refine z_iconst (v := (0 : Int32)) C d_Mo_fits_20 (by decide) ?_
      exact z_zret C hr rfl hlk () rfl hS4 d_Mo_fits_21
    · have hS4 := hS2.2 c3
      refine z_iconst (v := (1 : Int32)) C d_Mo_fits_16 (by decide) ?_
      refine z_goto (tgt := 21) C d_Mo_fits_17 (by decide) ?_
      exact z_zret C hr rfl hlk () rfl hS4 d_Mo_fits_21
def s_Mo_fits (x0 : UInt64) : Int32 := (if (Op.cmpValue (FP.dcmp x0 (13875379345695965184 : UInt64)) .l) < 0 then (0 : Int32) else (if 0 < (Op.cmpValue (FP.dcmp x0 (4652007308841189376 : UInt64)) .g) then (0 : Int32) else (1 : Int32)))
set_option maxRecDepth 100000 in
theorem v_Mo_fits (x0 : UInt64) : WP_Mo_fits x0 (fun r u => s_Mo_fits x0 = r) := by
  obtain ⟨tgt, f0⟩ : ∃ tgt, s_Mo_fits x0 = tgt := ⟨_, rfl⟩
  rw [f0]
  unfold s_Mo_fits at f0
  unfold WP_Mo_fits
  refine ⟨fun c1 => ?_, fun c1 => ?_⟩
  · have f1 := Eq.trans (Eq.symm (if_pos c1)) f0
    exact f1.symm
  · have f1 := Eq.trans (Eq.symm (if_neg c1)) f0
    refine ⟨fun c3 => ?_, fun c3 => ?_⟩
    · have f2 := Eq.trans (Eq.symm (if_pos c3)) f1
      exact f2.symm
    · have f2 := Eq.trans (Eq.symm (if_neg c3)) f1
      exact f2.symm
theorem c_Mo_fits (l : Launch) (D : va_G) (K : Nat → ClassId)  (x0 : UInt64) : zCi l y_Mo_fits wy_Mo_fits rm_Mo_fits D zcl (zT K) [.double x0] (w_Mo_fits K ()) (w_Mo_fits K) (fun r u => s_Mo_fits x0 = r) 0 0 := cw_Mo_fits l D K x0 (v_Mo_fits x0)
-- RuleTracerModel.fire(IZIDDD)I: reads ['t.recorded', 't.lost', 't.dropped', 't.firings', 't.time', 't.thread', 't.thrown', 't.failed', 't.handed', 't.there', 't.on', 't.site', 't.met', 't.condition', 't.code', 't.pile', 't.globals', 't.own', 't.actions', 't.kind', 't.second', 't.records', 't.target', 't.keys', 't.key', 't.sum', 't.least', 't.greatest', 't.count', 't.bins', 't.first', 't.failures'], changes ['t.recorded', 't.lost', 't.dropped', 't.firings', 't.thread', 't.thrown', 't.failed', 't.handed', 't.met', 't.pile', 't.globals', 't.own', 't.records', 't.keys', 't.key', 't.sum', 't.least', 't.greatest', 't.count', 't.bins', 't.failures']
abbrev w_Mo_fire (K : Nat → ClassId) (q_t : Nat) (q_t_text : Nat) (q_t_code : Nat) (q_t_site : Nat) (q_t_condition : Nat) (q_t_actions : Nat) (q_t_kind : Nat) (q_t_target : Nat) (q_t_first : Nat) (q_t_second : Nat) (q_t_failures : Nat) (q_t_met : Nat) (q_t_there : Nat) (q_t_on : Nat) (q_t_compared : Nat) (q_t_globals : Nat) (q_t_own : Nat) (q_t_records : Nat) (q_t_pile : Nat) (q_t_handed : Nat) (q_t_keys : Nat) (q_t_key : Nat) (q_t_count : Nat) (q_t_bins : Nat) (q_t_operator : Nat) (q_t_starts : Nat) (q_t_sum : Nat) (q_t_least : Nat) (q_t_greatest : Nat) (t_newSite : Int32) (t_newCondition : Int32) (t_newActions : Int32) (t_size : Int32) (t_place : Int32) (t_pos : Int32) (t_at : Int32) (t_operators : Int32) (t_time : Int32) (t_there : Nat → Int32) (t_on : Nat → Int32) (t_site : Nat → Int32) (t_condition : Nat → Int32) (t_code : Nat → Int32) (t_actions : Nat → Int32) (t_kind : Nat → Int32) (t_second : Nat → Int32) (t_target : Nat → Int32) (t_first : Nat → Int32) (u : Int32 × Int32 × Int32 × Int32 × Int32 × Int32 × Int32 × (Nat → UInt64) × (Nat → Int32) × (Nat → UInt64) × (Nat → UInt64) × (Nat → UInt64) × (Nat → UInt64) × (Nat → Int32) × (Nat → Int32) × (Nat → UInt64) × (Nat → UInt64) × (Nat → UInt64) × (Nat → Int32) × (Nat → Int32) × (Nat → Int32)) : va_W := [zo 6 q_t [.ref q_t_text, .ref q_t_code, .ref q_t_site, .ref q_t_condition, .ref q_t_actions, .ref q_t_kind, .ref q_t_target, .ref q_t_first, .ref q_t_second, .ref q_t_failures, .ref q_t_met, .ref q_t_there, .ref q_t_on, .ref q_t_compared, .ref q_t_globals, .ref q_t_own, .ref q_t_records, .ref q_t_pile, .ref q_t_handed, .ref q_t_keys, .ref q_t_key, .ref q_t_count, .ref q_t_bins, .ref q_t_operator, .ref q_t_starts, .ref q_t_sum, .ref q_t_least, .ref q_t_greatest, .int t_newSite, .int t_newCondition, .int t_newActions, .int t_size, .int t_place, .int t_pos, .int t_at, .int t_operators, .int u.1, .int u.2.1, .int u.2.2.1, .int u.2.2.2.1, .int t_time, .int u.2.2.2.2.1, .int u.2.2.2.2.2.1, .int u.2.2.2.2.2.2.1], zaD K q_t_handed 3 u.2.2.2.2.2.2.2.1, zaZ K q_t_there 6 t_there, zaZ K q_t_on 6 t_on, zaI K q_t_site 6 t_site, zaI K q_t_met 6 u.2.2.2.2.2.2.2.2.1, zaI K q_t_condition 6 t_condition, zaI K q_t_code 1400 t_code, zaD K q_t_pile 60 u.2.2.2.2.2.2.2.2.2.1, zaD K q_t_globals 3 u.2.2.2.2.2.2.2.2.2.2.1, zaD K q_t_own 12 u.2.2.2.2.2.2.2.2.2.2.2.1, zaI K q_t_actions 6 t_actions, zaI K q_t_kind 340 t_kind, zaI K q_t_second 340 t_second, zaD K q_t_records 6 u.2.2.2.2.2.2.2.2.2.2.2.2.1, zaI K q_t_target 340 t_target, zaI K q_t_keys 3 u.2.2.2.2.2.2.2.2.2.2.2.2.2.1, zaI K q_t_key 12 u.2.2.2.2.2.2.2.2.2.2.2.2.2.2.1, zaD K q_t_sum 12 u.2.2.2.2.2.2.2.2.2.2.2.2.2.2.2.1, zaD K q_t_least 12 u.2.2.2.2.2.2.2.2.2.2.2.2.2.2.2.2.1, zaD K q_t_greatest 12 u.2.2.2.2.2.2.2.2.2.2.2.2.2.2.2.2.2.1, zaI K q_t_count 12 u.2.2.2.2.2.2.2.2.2.2.2.2.2.2.2.2.2.2.1, zaI K q_t_bins 96 u.2.2.2.2.2.2.2.2.2.2.2.2.2.2.2.2.2.2.2.1, zaI K q_t_first 340 t_first, zaI K q_t_failures 6 u.2.2.2.2.2.2.2.2.2.2.2.2.2.2.2.2.2.2.2.2]
abbrev rm_Mo_fire : Room := { frames := 5, cells := 0, slots := 0, locals := 115 }
abbrev wy_Mo_fire : List Cond := .code y_Mo_fire b_Mo_fire 14 (some .int) :: zWT
def WP_Mo_fire_L95 : Nat → Int32 → Int32 → Int32 → UInt64 → UInt64 → UInt64 → Int32 → Int32 → Int32 → Int32 → Int32 → Int32 → Int32 → Int32 → Int32 → Int32 → Int32 → (Nat → UInt64) → (Nat → Int32) → (Nat → Int32) → (Nat → Int32) → (Nat → Int32) → (Nat → Int32) → (Nat → Int32) → (Nat → UInt64) → (Nat → UInt64) → (Nat → UInt64) → (Nat → Int32) → (Nat → Int32) → (Nat → Int32) → (Nat → UInt64) → (Nat → Int32) → (Nat → Int32) → (Nat → Int32) → (Nat → UInt64) → (Nat → UInt64) → (Nat → UInt64) → (Nat → Int32) → (Nat → Int32) → (Nat → Int32) → (Nat → Int32) → (Int32 → (Int32 × Int32 × Int32 × Int32 × Int32 × Int32 × Int32 × (Nat → UInt64) × (Nat → Int32) × (Nat → UInt64) × (Nat → UInt64) × (Nat → UInt64) × (Nat → UInt64) × (Nat → Int32) × (Nat → Int32) × (Nat → UInt64) × (Nat → UInt64) × (Nat → UInt64) × (Nat → Int32) × (Nat → Int32) × (Nat → Int32)) → Prop) → Prop
  | 0, _, _, _, _, _, _, _, _, _, _, _, _, _, _, _, _, _, _, _, _, _, _, _, _, _, _, _, _, _, _, _, _, _, _, _, _, _, _, _, _, _, _ => False
  | n + 1, y1, y2, y3, y4, y6, y8, y10, y11, y12, t_recorded, t_lost, t_dropped, t_firings, t_time, t_thread, t_thrown, t_failed, t_handed, t_there, t_on, t_site, t_met, t_condition, t_code, t_pile, t_globals, t_own, t_actions, t_kind, t_second, t_records, t_target, t_keys, t_key, t_sum, t_least, t_greatest, t_count, t_bins, t_first, t_failures, Q => (((6 : Int32) ≤ y12) → ((y11 = 0) → Q y10 (t_recorded, t_lost, t_dropped, t_firings, t_thread, t_thrown, t_failed, t_handed, t_met, t_pile, t_globals, t_own, t_records, t_keys, t_key, t_sum, t_least, t_greatest, t_count, t_bins, t_failures)) ∧ ((¬ y11 = 0) → Q y10 (t_recorded, t_lost, t_dropped, t_firings + (1 : Int32), t_thread, t_thrown, t_failed, t_handed, t_met, t_pile, t_globals, t_own, t_records, t_keys, t_key, t_sum, t_least, t_greatest, t_count, t_bins, t_failures))) ∧ ((¬ (6 : Int32) ≤ y12) → vp_in y12 6 ∧ (((t_there y12.toNatClampNeg) = 0) → WP_Mo_fire_L95 n y1 y2 y3 y4 y6 y8 y10 y11 (y12 + (1 : Int32)) t_recorded t_lost t_dropped t_firings t_time t_thread t_thrown t_failed t_handed t_there t_on t_site t_met t_condition t_code t_pile t_globals t_own t_actions t_kind t_second t_records t_target t_keys t_key t_sum t_least t_greatest t_count t_bins t_first t_failures Q) ∧ ((¬ (t_there y12.toNatClampNeg) = 0) → vp_in y12 6 ∧ (((t_on y12.toNatClampNeg) = 0) → WP_Mo_fire_L95 n y1 y2 y3 y4 y6 y8 y10 y11 (y12 + (1 : Int32)) t_recorded t_lost t_dropped t_firings t_time t_thread t_thrown t_failed t_handed t_there t_on t_site t_met t_condition t_code t_pile t_globals t_own t_actions t_kind t_second t_records t_target t_keys t_key t_sum t_least t_greatest t_count t_bins t_first t_failures Q) ∧ ((¬ (t_on y12.toNatClampNeg) = 0) → vp_in y12 6 ∧ ((y2 = 0) → (((t_site y12.toNatClampNeg) = (y1 + (0 : Int32))) → vp_in y12 6 ∧ p_Mo_doRule t_recorded t_lost t_dropped t_time t_thread t_failed t_condition t_code t_pile t_handed t_globals t_own t_met t_actions t_kind t_second t_records t_target t_keys t_key t_sum t_least t_greatest t_count t_bins t_first t_failures y12 ∧ (∀ (m86 : Int32) (m87 : Int32) (m88 : Int32) (m89 : Int32) (m90 : Nat → UInt64) (m91 : Nat → UInt64) (m92 : Nat → UInt64) (m93 : Nat → Int32) (m94 : Nat → UInt64) (m95 : Nat → Int32) (m96 : Nat → Int32) (m97 : Nat → UInt64) (m98 : Nat → UInt64) (m99 : Nat → UInt64) (m100 : Nat → Int32) (m101 : Nat → Int32) (m102 : Nat → Int32), s_Mo_doRule t_recorded t_lost t_dropped t_time t_thread t_failed t_condition t_code t_pile t_handed t_globals t_own t_met t_actions t_kind t_second t_records t_target t_keys t_key t_sum t_least t_greatest t_count t_bins t_first t_failures y12 = (m86, m87, m88, m89, m90, m91, m92, m93, m94, m95, m96, m97, m98, m99, m100, m101, m102) → vp_in y12 6 ∧ WP_Mo_fire_L95 n y1 y2 y3 y4 y6 y8 (y10 + ((m93 y12.toNatClampNeg) - (t_met y12.toNatClampNeg))) (1 : Int32) (y12 + (1 : Int32)) m86 m87 m88 t_firings t_time t_thread t_thrown m89 t_handed t_there t_on t_site m93 t_condition t_code m90 m91 m92 t_actions t_kind t_second m94 t_target m95 m96 m97 m98 m99 m100 m101 t_first m102 Q)) ∧ ((¬ (t_site y12.toNatClampNeg) = (y1 + (0 : Int32))) → WP_Mo_fire_L95 n y1 y2 y3 y4 y6 y8 y10 y11 (y12 + (1 : Int32)) t_recorded t_lost t_dropped t_firings t_time t_thread t_thrown t_failed t_handed t_there t_on t_site t_met t_condition t_code t_pile t_globals t_own t_actions t_kind t_second t_records t_target t_keys t_key t_sum t_least t_greatest t_count t_bins t_first t_failures Q)) ∧ ((¬ y2 = 0) → (((t_site y12.toNatClampNeg) = (y1 + (8 : Int32))) → vp_in y12 6 ∧ p_Mo_doRule t_recorded t_lost t_dropped t_time t_thread t_failed t_condition t_code t_pile t_handed t_globals t_own t_met t_actions t_kind t_second t_records t_target t_keys t_key t_sum t_least t_greatest t_count t_bins t_first t_failures y12 ∧ (∀ (m111 : Int32) (m112 : Int32) (m113 : Int32) (m114 : Int32) (m115 : Nat → UInt64) (m116 : Nat → UInt64) (m117 : Nat → UInt64) (m118 : Nat → Int32) (m119 : Nat → UInt64) (m120 : Nat → Int32) (m121 : Nat → Int32) (m122 : Nat → UInt64) (m123 : Nat → UInt64) (m124 : Nat → UInt64) (m125 : Nat → Int32) (m126 : Nat → Int32) (m127 : Nat → Int32), s_Mo_doRule t_recorded t_lost t_dropped t_time t_thread t_failed t_condition t_code t_pile t_handed t_globals t_own t_met t_actions t_kind t_second t_records t_target t_keys t_key t_sum t_least t_greatest t_count t_bins t_first t_failures y12 = (m111, m112, m113, m114, m115, m116, m117, m118, m119, m120, m121, m122, m123, m124, m125, m126, m127) → vp_in y12 6 ∧ WP_Mo_fire_L95 n y1 y2 y3 y4 y6 y8 (y10 + ((m118 y12.toNatClampNeg) - (t_met y12.toNatClampNeg))) (1 : Int32) (y12 + (1 : Int32)) m111 m112 m113 t_firings t_time t_thread t_thrown m114 t_handed t_there t_on t_site m118 t_condition t_code m115 m116 m117 t_actions t_kind t_second m119 t_target m120 m121 m122 m123 m124 m125 m126 t_first m127 Q)) ∧ ((¬ (t_site y12.toNatClampNeg) = (y1 + (8 : Int32))) → WP_Mo_fire_L95 n y1 y2 y3 y4 y6 y8 y10 y11 (y12 + (1 : Int32)) t_recorded t_lost t_dropped t_firings t_time t_thread t_thrown t_failed t_handed t_there t_on t_site t_met t_condition t_code t_pile t_globals t_own t_actions t_kind t_second t_records t_target t_keys t_key t_sum t_least t_greatest t_count t_bins t_first t_failures Q)))))
def WP_Mo_fire (t_recorded : Int32) (t_lost : Int32) (t_dropped : Int32) (t_firings : Int32) (t_time : Int32) (t_thread : Int32) (t_thrown : Int32) (t_failed : Int32) (t_handed : Nat → UInt64) (t_there : Nat → Int32) (t_on : Nat → Int32) (t_site : Nat → Int32) (t_met : Nat → Int32) (t_condition : Nat → Int32) (t_code : Nat → Int32) (t_pile : Nat → UInt64) (t_globals : Nat → UInt64) (t_own : Nat → UInt64) (t_actions : Nat → Int32) (t_kind : Nat → Int32) (t_second : Nat → Int32) (t_records : Nat → UInt64) (t_target : Nat → Int32) (t_keys : Nat → Int32) (t_key : Nat → Int32) (t_sum : Nat → UInt64) (t_least : Nat → UInt64) (t_greatest : Nat → UInt64) (t_count : Nat → Int32) (t_bins : Nat → Int32) (t_first : Nat → Int32) (t_failures : Nat → Int32) (x1 : Int32) (x2 : Int32) (x3 : Int32) (x4 : UInt64) (x6 : UInt64) (x8 : UInt64) (Q : Int32 → (Int32 × Int32 × Int32 × Int32 × Int32 × Int32 × Int32 × (Nat → UInt64) × (Nat → Int32) × (Nat → UInt64) × (Nat → UInt64) × (Nat → UInt64) × (Nat → UInt64) × (Nat → Int32) × (Nat → Int32) × (Nat → UInt64) × (Nat → UInt64) × (Nat → UInt64) × (Nat → Int32) × (Nat → Int32) × (Nat → Int32)) → Prop) : Prop := (∀ (r1 : Int32), s_Mo_in x1 (0 : Int32) (7 : Int32) = r1 → ((r1 = 0) → (∀ (r7 : Int32) (u8 : Int32), s_Mo_bad t_thrown (0 : Int32) = (r7, u8) → ((r7 = 0) → WP_Mo_fire_L95 600 x1 x2 x3 x4 x6 x8 (0 : Int32) (0 : Int32) (0 : Int32) t_recorded t_lost t_dropped t_firings t_time x3 u8 t_failed (vf_upd (vf_upd (vf_upd t_handed 0 x4) 1 x6) 2 x8) t_there t_on t_site t_met t_condition t_code t_pile t_globals t_own t_actions t_kind t_second t_records t_target t_keys t_key t_sum t_least t_greatest t_count t_bins t_first t_failures Q) ∧ ((¬ r7 = 0) → Q (0 : Int32) (t_recorded, t_lost, t_dropped, t_firings, t_thread, u8, t_failed, t_handed, t_met, t_pile, t_globals, t_own, t_records, t_keys, t_key, t_sum, t_least, t_greatest, t_count, t_bins, t_failures)))) ∧ ((¬ r1 = 0) → (∀ (r13 : Int32), s_Mo_in x3 (0 : Int32) (3 : Int32) = r13 → ((r13 = 0) → (∀ (r19 : Int32) (u20 : Int32), s_Mo_bad t_thrown (0 : Int32) = (r19, u20) → ((r19 = 0) → WP_Mo_fire_L95 600 x1 x2 x3 x4 x6 x8 (0 : Int32) (0 : Int32) (0 : Int32) t_recorded t_lost t_dropped t_firings t_time x3 u20 t_failed (vf_upd (vf_upd (vf_upd t_handed 0 x4) 1 x6) 2 x8) t_there t_on t_site t_met t_condition t_code t_pile t_globals t_own t_actions t_kind t_second t_records t_target t_keys t_key t_sum t_least t_greatest t_count t_bins t_first t_failures Q) ∧ ((¬ r19 = 0) → Q (0 : Int32) (t_recorded, t_lost, t_dropped, t_firings, t_thread, u20, t_failed, t_handed, t_met, t_pile, t_globals, t_own, t_records, t_keys, t_key, t_sum, t_least, t_greatest, t_count, t_bins, t_failures)))) ∧ ((¬ r13 = 0) → (∀ (r25 : Int32), s_Mo_fits x4 = r25 → ((r25 = 0) → (∀ (r31 : Int32) (u32 : Int32), s_Mo_bad t_thrown (0 : Int32) = (r31, u32) → ((r31 = 0) → WP_Mo_fire_L95 600 x1 x2 x3 x4 x6 x8 (0 : Int32) (0 : Int32) (0 : Int32) t_recorded t_lost t_dropped t_firings t_time x3 u32 t_failed (vf_upd (vf_upd (vf_upd t_handed 0 x4) 1 x6) 2 x8) t_there t_on t_site t_met t_condition t_code t_pile t_globals t_own t_actions t_kind t_second t_records t_target t_keys t_key t_sum t_least t_greatest t_count t_bins t_first t_failures Q) ∧ ((¬ r31 = 0) → Q (0 : Int32) (t_recorded, t_lost, t_dropped, t_firings, t_thread, u32, t_failed, t_handed, t_met, t_pile, t_globals, t_own, t_records, t_keys, t_key, t_sum, t_least, t_greatest, t_count, t_bins, t_failures)))) ∧ ((¬ r25 = 0) → (∀ (r37 : Int32), s_Mo_fits x6 = r37 → ((r37 = 0) → (∀ (r43 : Int32) (u44 : Int32), s_Mo_bad t_thrown (0 : Int32) = (r43, u44) → ((r43 = 0) → WP_Mo_fire_L95 600 x1 x2 x3 x4 x6 x8 (0 : Int32) (0 : Int32) (0 : Int32) t_recorded t_lost t_dropped t_firings t_time x3 u44 t_failed (vf_upd (vf_upd (vf_upd t_handed 0 x4) 1 x6) 2 x8) t_there t_on t_site t_met t_condition t_code t_pile t_globals t_own t_actions t_kind t_second t_records t_target t_keys t_key t_sum t_least t_greatest t_count t_bins t_first t_failures Q) ∧ ((¬ r43 = 0) → Q (0 : Int32) (t_recorded, t_lost, t_dropped, t_firings, t_thread, u44, t_failed, t_handed, t_met, t_pile, t_globals, t_own, t_records, t_keys, t_key, t_sum, t_least, t_greatest, t_count, t_bins, t_failures)))) ∧ ((¬ r37 = 0) → (∀ (r49 : Int32), s_Mo_fits x8 = r49 → ((r49 = 0) → (∀ (r55 : Int32) (u56 : Int32), s_Mo_bad t_thrown (0 : Int32) = (r55, u56) → ((r55 = 0) → WP_Mo_fire_L95 600 x1 x2 x3 x4 x6 x8 (0 : Int32) (0 : Int32) (0 : Int32) t_recorded t_lost t_dropped t_firings t_time x3 u56 t_failed (vf_upd (vf_upd (vf_upd t_handed 0 x4) 1 x6) 2 x8) t_there t_on t_site t_met t_condition t_code t_pile t_globals t_own t_actions t_kind t_second t_records t_target t_keys t_key t_sum t_least t_greatest t_count t_bins t_first t_failures Q) ∧ ((¬ r55 = 0) → Q (0 : Int32) (t_recorded, t_lost, t_dropped, t_firings, t_thread, u56, t_failed, t_handed, t_met, t_pile, t_globals, t_own, t_records, t_keys, t_key, t_sum, t_least, t_greatest, t_count, t_bins, t_failures)))) ∧ ((¬ r49 = 0) → (∀ (r61 : Int32) (u62 : Int32), s_Mo_bad t_thrown (1 : Int32) = (r61, u62) → ((r61 = 0) → WP_Mo_fire_L95 600 x1 x2 x3 x4 x6 x8 (0 : Int32) (0 : Int32) (0 : Int32) t_recorded t_lost t_dropped t_firings t_time x3 u62 t_failed (vf_upd (vf_upd (vf_upd t_handed 0 x4) 1 x6) 2 x8) t_there t_on t_site t_met t_condition t_code t_pile t_globals t_own t_actions t_kind t_second t_records t_target t_keys t_key t_sum t_least t_greatest t_count t_bins t_first t_failures Q) ∧ ((¬ r61 = 0) → Q (0 : Int32) (t_recorded, t_lost, t_dropped, t_firings, t_thread, u62, t_failed, t_handed, t_met, t_pile, t_globals, t_own, t_records, t_keys, t_key, t_sum, t_least, t_greatest, t_count, t_bins, t_failures)))))))))))))
set_option maxHeartbeats 4000000 in
set_option maxRecDepth 100000 in
theorem lw_Mo_fire_L95 {p : Program} {e : Env} {s : State} {m : MethodId} {args : Array Value} {below : List Frame} {meth : Method} {c : Code} {A : Nat → Prop} (l : Launch) (D : va_G) (K : Nat → ClassId) (q_t : Nat) (q_t_text : Nat) (q_t_code : Nat) (q_t_site : Nat) (q_t_condition : Nat) (q_t_actions : Nat) (q_t_kind : Nat) (q_t_target : Nat) (q_t_first : Nat) (q_t_second : Nat) (q_t_failures : Nat) (q_t_met : Nat) (q_t_there : Nat) (q_t_on : Nat) (q_t_compared : Nat) (q_t_globals : Nat) (q_t_own : Nat) (q_t_records : Nat) (q_t_pile : Nat) (q_t_handed : Nat) (q_t_keys : Nat) (q_t_key : Nat) (q_t_count : Nat) (q_t_bins : Nat) (q_t_operator : Nat) (q_t_starts : Nat) (q_t_sum : Nat) (q_t_least : Nat) (q_t_greatest : Nat) (t_newSite : Int32) (t_newCondition : Int32) (t_newActions : Int32) (t_size : Int32) (t_place : Int32) (t_pos : Int32) (t_at : Int32) (t_operators : Int32) (t_time : Int32) (t_there : Nat → Int32) (t_on : Nat → Int32) (t_site : Nat → Int32) (t_condition : Nat → Int32) (t_code : Nat → Int32) (t_actions : Nat → Int32) (t_kind : Nat → Int32) (t_second : Nat → Int32) (t_target : Nat → Int32) (t_first : Nat → Int32) {Q : Int32 → (Int32 × Int32 × Int32 × Int32 × Int32 × Int32 × Int32 × (Nat → UInt64) × (Nat → Int32) × (Nat → UInt64) × (Nat → UInt64) × (Nat → UInt64) × (Nat → UInt64) × (Nat → Int32) × (Nat → Int32) × (Nat → UInt64) × (Nat → UInt64) × (Nat → UInt64) × (Nat → Int32) × (Nat → Int32) × (Nat → Int32)) → Prop} (C : zCx p s m args c b_Mo_fire 14 R_Mo zWT D zcl (zT K) A) (hr : meth.sig.returnType = (some .int)) (hlk : meth.locks = false) : ∀ (n : Nat) (y1 : Int32) (y2 : Int32) (y3 : Int32) (y4 : UInt64) (y6 : UInt64) (y8 : UInt64) (y10 : Int32) (y11 : Int32) (y12 : Int32) (t_recorded : Int32) (t_lost : Int32) (t_dropped : Int32) (t_firings : Int32) (t_thread : Int32) (t_thrown : Int32) (t_failed : Int32) (t_handed : Nat → UInt64) (t_met : Nat → Int32) (t_pile : Nat → UInt64) (t_globals : Nat → UInt64) (t_own : Nat → UInt64) (t_records : Nat → UInt64) (t_keys : Nat → Int32) (t_key : Nat → Int32) (t_sum : Nat → UInt64) (t_least : Nat → UInt64) (t_greatest : Nat → UInt64) (t_count : Nat → Int32) (t_bins : Nat → Int32) (t_failures : Nat → Int32), WP_Mo_fire_L95 n y1 y2 y3 y4 y6 y8 y10 y11 y12 t_recorded t_lost t_dropped t_firings t_time t_thread t_thrown t_failed t_handed t_there t_on t_site t_met t_condition t_code t_pile t_globals t_own t_actions t_kind t_second t_records t_target t_keys t_key t_sum t_least t_greatest t_count t_bins t_first t_failures Q → zW p l e (headSpec wy_Mo_fire rm_Mo_fire).room s m args below meth c D zcl A 14 0 0 (MQ below (va_Qi Q (zB D zcl (zT K) (w_Mo_fire K q_t q_t_text q_t_code q_t_site q_t_condition q_t_actions q_t_kind q_t_target q_t_first q_t_second q_t_failures q_t_met q_t_there q_t_on q_t_compared q_t_globals q_t_own q_t_records q_t_pile q_t_handed q_t_keys q_t_key q_t_count q_t_bins q_t_operator q_t_starts q_t_sum q_t_least q_t_greatest t_newSite t_newCondition t_newActions t_size t_place t_pos t_at t_operators t_time t_there t_on t_site t_condition t_code t_actions t_kind t_second t_target t_first) A) A) args s 0 0 A) [(0, .ref q_t), (1, .int y1), (2, .int y2), (3, .int y3), (4, .double y4), (6, .double y6), (8, .double y8), (10, .int y10), (11, .int y11), (12, .int y12)] [zo 6 q_t [.ref q_t_text, .ref q_t_code, .ref q_t_site, .ref q_t_condition, .ref q_t_actions, .ref q_t_kind, .ref q_t_target, .ref q_t_first, .ref q_t_second, .ref q_t_failures, .ref q_t_met, .ref q_t_there, .ref q_t_on, .ref q_t_compared, .ref q_t_globals, .ref q_t_own, .ref q_t_records, .ref q_t_pile, .ref q_t_handed, .ref q_t_keys, .ref q_t_key, .ref q_t_count, .ref q_t_bins, .ref q_t_operator, .ref q_t_starts, .ref q_t_sum, .ref q_t_least, .ref q_t_greatest, .int t_newSite, .int t_newCondition, .int t_newActions, .int t_size, .int t_place, .int t_pos, .int t_at, .int t_operators, .int t_recorded, .int t_lost, .int t_dropped, .int t_firings, .int t_time, .int t_thread, .int t_thrown, .int t_failed], zaD K q_t_handed 3 t_handed, zaZ K q_t_there 6 t_there, zaZ K q_t_on 6 t_on, zaI K q_t_site 6 t_site, zaI K q_t_met 6 t_met, zaI K q_t_condition 6 t_condition, zaI K q_t_code 1400 t_code, zaD K q_t_pile 60 t_pile, zaD K q_t_globals 3 t_globals, zaD K q_t_own 12 t_own, zaI K q_t_actions 6 t_actions, zaI K q_t_kind 340 t_kind, zaI K q_t_second 340 t_second, zaD K q_t_records 6 t_records, zaI K q_t_target 340 t_target, zaI K q_t_keys 3 t_keys, zaI K q_t_key 12 t_key, zaD K q_t_sum 12 t_sum, zaD K q_t_least 12 t_least, zaD K q_t_greatest 12 t_greatest, zaI K q_t_count 12 t_count, zaI K q_t_bins 96 t_bins, zaI K q_t_first 340 t_first, zaI K q_t_failures 6 t_failures] 95 [] := by
  intro n
  induction n with
  | zero => intros; contradiction
  | succ n ih =>
    intro y1 y2 y3 y4 y6 y8 y10 y11 y12 t_recorded t_lost t_dropped t_firings t_thread t_thrown t_failed t_handed t_met t_pile t_globals t_own t_records t_keys t_key t_sum t_least t_greatest t_count t_bins t_failures hS0
    refine z_iload C d_Mo_fire_95 9 rfl ?_
    refine z_bipush (v := (6 : Int32)) C d_Mo_fire_97 (by decide) ?_
    refine z_icmp_ge (tgt := 186) C d_Mo_fire_99 (by decide) (fun c67 => ?_) (fun c67 => ?_)
    · have hS68 := hS0.1 c67
      refine z_iload C d_Mo_fire_186 8 rfl ?_
      refine z_if_eq (tgt := 201) C d_Mo_fire_188 (by decide) (fun c69 => ?_) (fun c69 => ?_)
      · have hS70 := hS68.1 c69
        refine z_iload C d_Mo_fire_201 7 rfl ?_
        exact z_iret C hr hlk (t_recorded, t_lost, t_dropped, t_firings, t_thread, t_thrown, t_failed, t_handed, t_met, t_pile, t_globals, t_own, t_records, t_keys, t_key, t_sum, t_least, t_greatest, t_count, t_bins, t_failures) rfl hS70 d_Mo_fire_203
      · have hS70 := hS68.2 c69
        refine z_aload_n C d_Mo_fire_191 rfl 0 rfl ?_
        refine z_dup C d_Mo_fire_192 rfl ?_
        refine z_get C 0 rfl rfl in_Mo 39 (by decide) rfl wf_Mo_230 rfl d_Mo_fire_193 ?_
        refine z_iconst (v := (1 : Int32)) C d_Mo_fire_196 (by decide) ?_
        refine z_iadd C d_Mo_fire_197 ?_
        refine z_put (ty := .int) (ws' := [zo 6 q_t [.ref q_t_text, .ref q_t_code, .ref q_t_site, .ref q_t_condition, .ref q_t_actions, .ref q_t_kind, .ref q_t_target, .ref q_t_first, .ref q_t_second, .ref q_t_failures, .ref q_t_met, .ref q_t_there, .ref q_t_on, .ref q_t_compared, .ref q_t_globals, .ref q_t_own, .ref q_t_records, .ref q_t_pile, .ref q_t_handed, .ref q_t_keys, .ref q_t_key, .ref q_t_count, .ref q_t_bins, .ref q_t_operator, .ref q_t_starts, .ref q_t_sum, .ref q_t_least, .ref q_t_greatest, .int t_newSite, .int t_newCondition, .int t_newActions, .int t_size, .int t_place, .int t_pos, .int t_at, .int t_operators, .int t_recorded, .int t_lost, .int t_dropped, .int (t_firings + (1 : Int32)), .int t_time, .int t_thread, .int t_thrown, .int t_failed], zaD K q_t_handed 3 t_handed, zaZ K q_t_there 6 t_there, zaZ K q_t_on 6 t_on, zaI K q_t_site 6 t_site, zaI K q_t_met 6 t_met, zaI K q_t_condition 6 t_condition, zaI K q_t_code 1400 t_code, zaD K q_t_pile 60 t_pile, zaD K q_t_globals 3 t_globals, zaD K q_t_own 12 t_own, zaI K q_t_actions 6 t_actions, zaI K q_t_kind 340 t_kind, zaI K q_t_second 340 t_second, zaD K q_t_records 6 t_records, zaI K q_t_target 340 t_target, zaI K q_t_keys 3 t_keys, zaI K q_t_key 12 t_key, zaD K q_t_sum 12 t_sum, zaD K q_t_least 12 t_least, zaD K q_t_greatest 12 t_greatest, zaI K q_t_count 12 t_count, zaI K q_t_bins 96 t_bins, zaI K q_t_first 340 t_first, zaI K q_t_failures 6 t_failures]) C ty_Mo to_Mo nm_Mo 0 rfl rfl in_Mo 39 (by decide) rfl wf_Mo_230 rfl rfl rfl rfl (Nat.le_of_ble_eq_true rfl) rfl d_Mo_fire_198 ?_
        refine z_iload C d_Mo_fire_201 7 rfl ?_
        exact z_iret C hr hlk (t_recorded, t_lost, t_dropped, t_firings + (1 : Int32), t_thread, t_thrown, t_failed, t_handed, t_met, t_pile, t_globals, t_own, t_records, t_keys, t_key, t_sum, t_least, t_greatest, t_count, t_bins, t_failures) rfl hS70 d_Mo_fire_203
    · have hS68 := hS0.2 c67
      refine z_aload_n C d_Mo_fire_102 rfl 0 rfl ?_
      refine z_get C 0 rfl rfl in_Mo 11 (by decide) rfl wf_Mo_43 rfl d_Mo_fire_103 ?_
      refine z_iload C d_Mo_fire_106 9 rfl ?_
      refine z_zald C 2 4 rfl rfl hS68.1 d_Mo_fire_108 ?_
      have hS71 := hS68.2
      refine z_if_eq (tgt := 180) C d_Mo_fire_109 (by decide) (fun c72 => ?_) (fun c72 => ?_)
      · have hS73 := hS71.1 c72
        refine z_iinc (j := 9) (v := y12 + (1 : Int32)) (lv' := [(12, .int (y12 + (1 : Int32))), (0, .ref q_t), (1, .int y1), (2, .int y2), (3, .int y3), (4, .double y4), (6, .double y6), (8, .double y8), (10, .int y10), (11, .int y11)]) C d_Mo_fire_180 rfl rfl (by decide) rfl ?_
        refine z_goto (tgt := 95) C d_Mo_fire_183 (by decide) ?_
        refine z_lpick (lv' := [(0, .ref q_t), (1, .int y1), (2, .int y2), (3, .int y3), (4, .double y4), (6, .double y6), (8, .double y8), (10, .int y10), (11, .int y11), (12, .int (y12 + (1 : Int32)))]) [1, 2, 3, 4, 5, 6, 7, 8, 9, 0] rfl ?_
        exact ih y1 y2 y3 y4 y6 y8 y10 y11 (y12 + (1 : Int32)) t_recorded t_lost t_dropped t_firings t_thread t_thrown t_failed t_handed t_met t_pile t_globals t_own t_records t_keys t_key t_sum t_least t_greatest t_count t_bins t_failures hS73
      · have hS73 := hS71.2 c72
        refine z_aload_n C d_Mo_fire_112 rfl 0 rfl ?_
        refine z_get C 0 rfl rfl in_Mo 12 (by decide) rfl wf_Mo_47 rfl d_Mo_fire_113 ?_
        refine z_iload C d_Mo_fire_116 9 rfl ?_
        refine z_zald C 3 4 rfl rfl hS73.1 d_Mo_fire_118 ?_
        have hS74 := hS73.2
        refine z_if_eq (tgt := 180) C d_Mo_fire_119 (by decide) (fun c75 => ?_) (fun c75 => ?_)
        · have hS76 := hS74.1 c75
          refine z_iinc (j := 9) (v := y12 + (1 : Int32)) (lv' := [(12, .int (y12 + (1 : Int32))), (0, .ref q_t), (1, .int y1), (2, .int y2), (3, .int y3), (4, .double y4), (6, .double y6), (8, .double y8), (10, .int y10), (11, .int y11)]) C d_Mo_fire_180 rfl rfl (by decide) rfl ?_
          refine z_goto (tgt := 95) C d_Mo_fire_183 (by decide) ?_
          refine z_lpick (lv' := [(0, .ref q_t), (1, .int y1), (2, .int y2), (3, .int y3), (4, .double y4), (6, .double y6), (8, .double y8), (10, .int y10), (11, .int y11), (12, .int (y12 + (1 : Int32)))]) [1, 2, 3, 4, 5, 6, 7, 8, 9, 0] rfl ?_
          exact ih y1 y2 y3 y4 y6 y8 y10 y11 (y12 + (1 : Int32)) t_recorded t_lost t_dropped t_firings t_thread t_thrown t_failed t_handed t_met t_pile t_globals t_own t_records t_keys t_key t_sum t_least t_greatest t_count t_bins t_failures hS76
        · have hS76 := hS74.2 c75
          refine z_aload_n C d_Mo_fire_122 rfl 0 rfl ?_
          refine z_get C 0 rfl rfl in_Mo 2 (by decide) rfl wf_Mo_16 rfl d_Mo_fire_123 ?_
          refine z_iload C d_Mo_fire_126 9 rfl ?_
          refine z_iald C 4 0 rfl rfl hS76.1 d_Mo_fire_128 ?_
          have hS77 := hS76.2
          refine z_iload_n C d_Mo_fire_129 rfl 1 rfl ?_
          refine z_iload_n C d_Mo_fire_130 rfl 2 rfl ?_
          refine z_if_eq (tgt := 139) C d_Mo_fire_131 (by decide) (fun c78 => ?_) (fun c78 => ?_)
          · have hS79 := hS77.1 c78
            refine z_iconst (v := (0 : Int32)) C d_Mo_fire_139 (by decide) ?_
            refine z_iadd C d_Mo_fire_140 ?_
            refine z_icmp_eq (tgt := 147) C d_Mo_fire_141 (by decide) (fun c80 => ?_) (fun c80 => ?_)
            · have hS81 := hS79.1 c80
              refine z_aload_n C d_Mo_fire_147 rfl 0 rfl ?_
              refine z_get C 0 rfl rfl in_Mo 10 (by decide) rfl wf_Mo_40 rfl d_Mo_fire_148 ?_
              refine z_iload C d_Mo_fire_151 9 rfl ?_
              refine z_iald C 5 0 rfl rfl hS81.1 d_Mo_fire_153 ?_
              have hS82 := hS81.2
              refine z_istore (lv' := [(13, .int (t_met y12.toNatClampNeg)), (0, .ref q_t), (1, .int y1), (2, .int y2), (3, .int y3), (4, .double y4), (6, .double y6), (8, .double y8), (10, .int y10), (11, .int y11), (12, .int y12)]) C d_Mo_fire_154 (by decide) rfl ?_
              refine z_iconst (v := (1 : Int32)) C d_Mo_fire_156 (by decide) ?_
              refine z_istore (lv' := [(11, .int (1 : Int32)), (13, .int (t_met y12.toNatClampNeg)), (0, .ref q_t), (1, .int y1), (2, .int y2), (3, .int y3), (4, .double y4), (6, .double y6), (8, .double y8), (10, .int y10), (12, .int y12)]) C d_Mo_fire_157 (by decide) rfl ?_
              refine z_aload_n C d_Mo_fire_159 rfl 2 rfl ?_
              refine z_iload C d_Mo_fire_160 10 rfl ?_
              refine z_callVv (As := [.int y12]) (b := q_t) (st := []) (wr := [zaZ K q_t_there 6 t_there, zaZ K q_t_on 6 t_on, zaI K q_t_site 6 t_site]) (wj := fun u => [zo 6 q_t [.ref q_t_text, .ref q_t_code, .ref q_t_site, .ref q_t_condition, .ref q_t_actions, .ref q_t_kind, .ref q_t_target, .ref q_t_first, .ref q_t_second, .ref q_t_failures, .ref q_t_met, .ref q_t_there, .ref q_t_on, .ref q_t_compared, .ref q_t_globals, .ref q_t_own, .ref q_t_records, .ref q_t_pile, .ref q_t_handed, .ref q_t_keys, .ref q_t_key, .ref q_t_count, .ref q_t_bins, .ref q_t_operator, .ref q_t_starts, .ref q_t_sum, .ref q_t_least, .ref q_t_greatest, .int t_newSite, .int t_newCondition, .int t_newActions, .int t_size, .int t_place, .int t_pos, .int t_at, .int t_operators, .int u.1, .int u.2.1, .int u.2.2.1, .int t_firings, .int t_time, .int t_thread, .int t_thrown, .int u.2.2.2.1], zaD K q_t_handed 3 t_handed, zaZ K q_t_there 6 t_there, zaZ K q_t_on 6 t_on, zaI K q_t_site 6 t_site, zaI K q_t_met 6 u.2.2.2.2.2.2.2.1, zaI K q_t_condition 6 t_condition, zaI K q_t_code 1400 t_code, zaD K q_t_pile 60 u.2.2.2.2.1, zaD K q_t_globals 3 u.2.2.2.2.2.1, zaD K q_t_own 12 u.2.2.2.2.2.2.1, zaI K q_t_actions 6 t_actions, zaI K q_t_kind 340 t_kind, zaI K q_t_second 340 t_second, zaD K q_t_records 6 u.2.2.2.2.2.2.2.2.1, zaI K q_t_target 340 t_target, zaI K q_t_keys 3 u.2.2.2.2.2.2.2.2.2.1, zaI K q_t_key 12 u.2.2.2.2.2.2.2.2.2.2.1, zaD K q_t_sum 12 u.2.2.2.2.2.2.2.2.2.2.2.1, zaD K q_t_least 12 u.2.2.2.2.2.2.2.2.2.2.2.2.1, zaD K q_t_greatest 12 u.2.2.2.2.2.2.2.2.2.2.2.2.2.1, zaI K q_t_count 12 u.2.2.2.2.2.2.2.2.2.2.2.2.2.2.1, zaI K q_t_bins 96 u.2.2.2.2.2.2.2.2.2.2.2.2.2.2.2.1, zaI K q_t_first 340 t_first, zaI K q_t_failures 6 u.2.2.2.2.2.2.2.2.2.2.2.2.2.2.2.2]) C 0 rfl rfl (c_Mo_doRule l D K q_t q_t_text q_t_code q_t_site q_t_condition q_t_actions q_t_kind q_t_target q_t_first q_t_second q_t_failures q_t_met q_t_there q_t_on q_t_compared q_t_globals q_t_own q_t_records q_t_pile q_t_handed q_t_keys q_t_key q_t_count q_t_bins q_t_operator q_t_starts q_t_sum q_t_least q_t_greatest t_newSite t_newCondition t_newActions t_size t_place t_pos t_at t_operators t_recorded t_lost t_dropped t_firings t_time t_thread t_thrown t_failed t_condition t_code t_pile t_handed t_globals t_own t_met t_actions t_kind t_second t_records t_target t_keys t_key t_sum t_least t_greatest t_count t_bins t_first t_failures y12 hS82.1) (cwV 1 C.2.2.2.2.1 (z_gV wl_Mo_226 wi_Mo_doRule wv_Mo_doRule wz_Mo wk_Mo_doRule) rfl rfl rfl (by decide +kernel) ⟨Nat.le_of_ble_eq_true rfl, Nat.le_of_ble_eq_true rfl⟩) [0, 6, 7, 8, 1, 9, 10, 5, 11, 12, 13, 14, 15, 16, 17, 18, 19, 20, 21, 22, 23, 24] [2, 3, 4] [3, 7, 0, 1, 2, 10, 4, 5, 6, 8, 9, 11, 12, 13, 14, 15, 16, 17, 18, 19, 20, 21, 22, 23, 24] rfl rfl rfl rfl (by decide) (fun _ => rfl) rfl rfl rfl (Nat.le_of_ble_eq_true rfl) d_Mo_fire_162 ⟨Nat.le_of_ble_eq_true rfl, Nat.le_of_ble_eq_true rfl⟩ (fun u84 e85 => ?_)
              obtain ⟨m86, m87, m88, m89, m90, m91, m92, m93, m94, m95, m96, m97, m98, m99, m100, m101, m102⟩ := u84
              refine z_weq (ws' := [zo 6 q_t [.ref q_t_text, .ref q_t_code, .ref q_t_site, .ref q_t_condition, .ref q_t_actions, .ref q_t_kind, .ref q_t_target, .ref q_t_first, .ref q_t_second, .ref q_t_failures, .ref q_t_met, .ref q_t_there, .ref q_t_on, .ref q_t_compared, .ref q_t_globals, .ref q_t_own, .ref q_t_records, .ref q_t_pile, .ref q_t_handed, .ref q_t_keys, .ref q_t_key, .ref q_t_count, .ref q_t_bins, .ref q_t_operator, .ref q_t_starts, .ref q_t_sum, .ref q_t_least, .ref q_t_greatest, .int t_newSite, .int t_newCondition, .int t_newActions, .int t_size, .int t_place, .int t_pos, .int t_at, .int t_operators, .int m86, .int m87, .int m88, .int t_firings, .int t_time, .int t_thread, .int t_thrown, .int m89], zaD K q_t_handed 3 t_handed, zaZ K q_t_there 6 t_there, zaZ K q_t_on 6 t_on, zaI K q_t_site 6 t_site, zaI K q_t_met 6 m93, zaI K q_t_condition 6 t_condition, zaI K q_t_code 1400 t_code, zaD K q_t_pile 60 m90, zaD K q_t_globals 3 m91, zaD K q_t_own 12 m92, zaI K q_t_actions 6 t_actions, zaI K q_t_kind 340 t_kind, zaI K q_t_second 340 t_second, zaD K q_t_records 6 m94, zaI K q_t_target 340 t_target, zaI K q_t_keys 3 m95, zaI K q_t_key 12 m96, zaD K q_t_sum 12 m97, zaD K q_t_least 12 m98, zaD K q_t_greatest 12 m99, zaI K q_t_count 12 m100, zaI K q_t_bins 96 m101, zaI K q_t_first 340 t_first, zaI K q_t_failures 6 m102]) rfl ?_
              have hS103 := hS82.2 m86 m87 m88 m89 m90 m91 m92 m93 m94 m95 m96 m97 m98 m99 m100 m101 m102 e85
              refine z_iload C d_Mo_fire_165 9 rfl ?_
              refine z_aload_n C d_Mo_fire_167 rfl 2 rfl ?_
              refine z_get C 0 rfl rfl in_Mo 10 (by decide) rfl wf_Mo_40 rfl d_Mo_fire_168 ?_
              refine z_iload C d_Mo_fire_171 10 rfl ?_
              refine z_iald C 5 0 rfl rfl hS103.1 d_Mo_fire_173 ?_
              have hS104 := hS103.2
              refine z_iload C d_Mo_fire_174 1 rfl ?_
              refine z_isub C d_Mo_fire_176 ?_
              refine z_iadd C d_Mo_fire_177 ?_
              refine z_istore (lv' := [(10, .int (y10 + ((m93 y12.toNatClampNeg) - (t_met y12.toNatClampNeg)))), (11, .int (1 : Int32)), (13, .int (t_met y12.toNatClampNeg)), (0, .ref q_t), (1, .int y1), (2, .int y2), (3, .int y3), (4, .double y4), (6, .double y6), (8, .double y8), (12, .int y12)]) C d_Mo_fire_178 (by decide) rfl ?_
              refine z_iinc (j := 10) (v := y12 + (1 : Int32)) (lv' := [(12, .int (y12 + (1 : Int32))), (10, .int (y10 + ((m93 y12.toNatClampNeg) - (t_met y12.toNatClampNeg)))), (11, .int (1 : Int32)), (13, .int (t_met y12.toNatClampNeg)), (0, .ref q_t), (1, .int y1), (2, .int y2), (3, .int y3), (4, .double y4), (6, .double y6), (8, .double y8)]) C d_Mo_fire_180 rfl rfl (by decide) rfl ?_
              refine z_goto (tgt := 95) C d_Mo_fire_183 (by decide) ?_
              refine z_lpick (lv' := [(0, .ref q_t), (1, .int y1), (2, .int y2), (3, .int y3), (4, .double y4), (6, .double y6), (8, .double y8), (10, .int (y10 + ((m93 y12.toNatClampNeg) - (t_met y12.toNatClampNeg)))), (11, .int (1 : Int32)), (12, .int (y12 + (1 : Int32)))]) [4, 5, 6, 7, 8, 9, 10, 1, 2, 0] rfl ?_
              exact ih y1 y2 y3 y4 y6 y8 (y10 + ((m93 y12.toNatClampNeg) - (t_met y12.toNatClampNeg))) (1 : Int32) (y12 + (1 : Int32)) m86 m87 m88 t_firings t_thread t_thrown m89 t_handed m93 m90 m91 m92 m94 m95 m96 m97 m98 m99 m100 m101 m102 hS104
            · have hS81 := hS79.2 c80
              refine z_goto (tgt := 180) C d_Mo_fire_144 (by decide) ?_
              refine z_iinc (j := 9) (v := y12 + (1 : Int32)) (lv' := [(12, .int (y12 + (1 : Int32))), (0, .ref q_t), (1, .int y1), (2, .int y2), (3, .int y3), (4, .double y4), (6, .double y6), (8, .double y8), (10, .int y10), (11, .int y11)]) C d_Mo_fire_180 rfl rfl (by decide) rfl ?_
              refine z_goto (tgt := 95) C d_Mo_fire_183 (by decide) ?_
              refine z_lpick (lv' := [(0, .ref q_t), (1, .int y1), (2, .int y2), (3, .int y3), (4, .double y4), (6, .double y6), (8, .double y8), (10, .int y10), (11, .int y11), (12, .int (y12 + (1 : Int32)))]) [1, 2, 3, 4, 5, 6, 7, 8, 9, 0] rfl ?_
              exact ih y1 y2 y3 y4 y6 y8 y10 y11 (y12 + (1 : Int32)) t_recorded t_lost t_dropped t_firings t_thread t_thrown t_failed t_handed t_met t_pile t_globals t_own t_records t_keys t_key t_sum t_least t_greatest t_count t_bins t_failures hS81
          · have hS79 := hS77.2 c78
            refine z_bipush (v := (8 : Int32)) C d_Mo_fire_134 (by decide) ?_
            refine z_goto (tgt := 140) C d_Mo_fire_136 (by decide) ?_
            refine z_iadd C d_Mo_fire_140 ?_
            refine z_icmp_eq (tgt := 147) C d_Mo_fire_141 (by decide) (fun c105 => ?_) (fun c105 => ?_)
            · have hS106 := hS79.1 c105
              refine z_aload_n C d_Mo_fire_147 rfl 0 rfl ?_
              refine z_get C 0 rfl rfl in_Mo 10 (by decide) rfl wf_Mo_40 rfl d_Mo_fire_148 ?_
              refine z_iload C d_Mo_fire_151 9 rfl ?_
              refine z_iald C 5 0 rfl rfl hS106.1 d_Mo_fire_153 ?_
              have hS107 := hS106.2
              refine z_istore (lv' := [(13, .int (t_met y12.toNatClampNeg)), (0, .ref q_t), (1, .int y1), (2, .int y2), (3, .int y3), (4, .double y4), (6, .double y6), (8, .double y8), (10, .int y10), (11, .int y11), (12, .int y12)]) C d_Mo_fire_154 (by decide) rfl ?_
              refine z_iconst (v := (1 : Int32)) C d_Mo_fire_156 (by decide) ?_
              refine z_istore (lv' := [(11, .int (1 : Int32)), (13, .int (t_met y12.toNatClampNeg)), (0, .ref q_t), (1, .int y1), (2, .int y2), (3, .int y3), (4, .double y4), (6, .double y6), (8, .double y8), (10, .int y10), (12, .int y12)]) C d_Mo_fire_157 (by decide) rfl ?_
              refine z_aload_n C d_Mo_fire_159 rfl 2 rfl ?_
              refine z_iload C d_Mo_fire_160 10 rfl ?_
              refine z_callVv (As := [.int y12]) (b := q_t) (st := []) (wr := [zaZ K q_t_there 6 t_there, zaZ K q_t_on 6 t_on, zaI K q_t_site 6 t_site]) (wj := fun u => [zo 6 q_t [.ref q_t_text, .ref q_t_code, .ref q_t_site, .ref q_t_condition, .ref q_t_actions, .ref q_t_kind, .ref q_t_target, .ref q_t_first, .ref q_t_second, .ref q_t_failures, .ref q_t_met, .ref q_t_there, .ref q_t_on, .ref q_t_compared, .ref q_t_globals, .ref q_t_own, .ref q_t_records, .ref q_t_pile, .ref q_t_handed, .ref q_t_keys, .ref q_t_key, .ref q_t_count, .ref q_t_bins, .ref q_t_operator, .ref q_t_starts, .ref q_t_sum, .ref q_t_least, .ref q_t_greatest, .int t_newSite, .int t_newCondition, .int t_newActions, .int t_size, .int t_place, .int t_pos, .int t_at, .int t_operators, .int u.1, .int u.2.1, .int u.2.2.1, .int t_firings, .int t_time, .int t_thread, .int t_thrown, .int u.2.2.2.1], zaD K q_t_handed 3 t_handed, zaZ K q_t_there 6 t_there, zaZ K q_t_on 6 t_on, zaI K q_t_site 6 t_site, zaI K q_t_met 6 u.2.2.2.2.2.2.2.1, zaI K q_t_condition 6 t_condition, zaI K q_t_code 1400 t_code, zaD K q_t_pile 60 u.2.2.2.2.1, zaD K q_t_globals 3 u.2.2.2.2.2.1, zaD K q_t_own 12 u.2.2.2.2.2.2.1, zaI K q_t_actions 6 t_actions, zaI K q_t_kind 340 t_kind, zaI K q_t_second 340 t_second, zaD K q_t_records 6 u.2.2.2.2.2.2.2.2.1, zaI K q_t_target 340 t_target, zaI K q_t_keys 3 u.2.2.2.2.2.2.2.2.2.1, zaI K q_t_key 12 u.2.2.2.2.2.2.2.2.2.2.1, zaD K q_t_sum 12 u.2.2.2.2.2.2.2.2.2.2.2.1, zaD K q_t_least 12 u.2.2.2.2.2.2.2.2.2.2.2.2.1, zaD K q_t_greatest 12 u.2.2.2.2.2.2.2.2.2.2.2.2.2.1, zaI K q_t_count 12 u.2.2.2.2.2.2.2.2.2.2.2.2.2.2.1, zaI K q_t_bins 96 u.2.2.2.2.2.2.2.2.2.2.2.2.2.2.2.1, zaI K q_t_first 340 t_first, zaI K q_t_failures 6 u.2.2.2.2.2.2.2.2.2.2.2.2.2.2.2.2]) C 0 rfl rfl (c_Mo_doRule l D K q_t q_t_text q_t_code q_t_site q_t_condition q_t_actions q_t_kind q_t_target q_t_first q_t_second q_t_failures q_t_met q_t_there q_t_on q_t_compared q_t_globals q_t_own q_t_records q_t_pile q_t_handed q_t_keys q_t_key q_t_count q_t_bins q_t_operator q_t_starts q_t_sum q_t_least q_t_greatest t_newSite t_newCondition t_newActions t_size t_place t_pos t_at t_operators t_recorded t_lost t_dropped t_firings t_time t_thread t_thrown t_failed t_condition t_code t_pile t_handed t_globals t_own t_met t_actions t_kind t_second t_records t_target t_keys t_key t_sum t_least t_greatest t_count t_bins t_first t_failures y12 hS107.1) (cwV 1 C.2.2.2.2.1 (z_gV wl_Mo_226 wi_Mo_doRule wv_Mo_doRule wz_Mo wk_Mo_doRule) rfl rfl rfl (by decide +kernel) ⟨Nat.le_of_ble_eq_true rfl, Nat.le_of_ble_eq_true rfl⟩) [0, 6, 7, 8, 1, 9, 10, 5, 11, 12, 13, 14, 15, 16, 17, 18, 19, 20, 21, 22, 23, 24] [2, 3, 4] [3, 7, 0, 1, 2, 10, 4, 5, 6, 8, 9, 11, 12, 13, 14, 15, 16, 17, 18, 19, 20, 21, 22, 23, 24] rfl rfl rfl rfl (by decide) (fun _ => rfl) rfl rfl rfl (Nat.le_of_ble_eq_true rfl) d_Mo_fire_162 ⟨Nat.le_of_ble_eq_true rfl, Nat.le_of_ble_eq_true rfl⟩ (fun u109 e110 => ?_)
              obtain ⟨m111, m112, m113, m114, m115, m116, m117, m118, m119, m120, m121, m122, m123, m124, m125, m126, m127⟩ := u109
              refine z_weq (ws' := [zo 6 q_t [.ref q_t_text, .ref q_t_code, .ref q_t_site, .ref q_t_condition, .ref q_t_actions, .ref q_t_kind, .ref q_t_target, .ref q_t_first, .ref q_t_second, .ref q_t_failures, .ref q_t_met, .ref q_t_there, .ref q_t_on, .ref q_t_compared, .ref q_t_globals, .ref q_t_own, .ref q_t_records, .ref q_t_pile, .ref q_t_handed, .ref q_t_keys, .ref q_t_key, .ref q_t_count, .ref q_t_bins, .ref q_t_operator, .ref q_t_starts, .ref q_t_sum, .ref q_t_least, .ref q_t_greatest, .int t_newSite, .int t_newCondition, .int t_newActions, .int t_size, .int t_place, .int t_pos, .int t_at, .int t_operators, .int m111, .int m112, .int m113, .int t_firings, .int t_time, .int t_thread, .int t_thrown, .int m114], zaD K q_t_handed 3 t_handed, zaZ K q_t_there 6 t_there, zaZ K q_t_on 6 t_on, zaI K q_t_site 6 t_site, zaI K q_t_met 6 m118, zaI K q_t_condition 6 t_condition, zaI K q_t_code 1400 t_code, zaD K q_t_pile 60 m115, zaD K q_t_globals 3 m116, zaD K q_t_own 12 m117, zaI K q_t_actions 6 t_actions, zaI K q_t_kind 340 t_kind, zaI K q_t_second 340 t_second, zaD K q_t_records 6 m119, zaI K q_t_target 340 t_target, zaI K q_t_keys 3 m120, zaI K q_t_key 12 m121, zaD K q_t_sum 12 m122, zaD K q_t_least 12 m123, zaD K q_t_greatest 12 m124, zaI K q_t_count 12 m125, zaI K q_t_bins 96 m126, zaI K q_t_first 340 t_first, zaI K q_t_failures 6 m127]) rfl ?_
              have hS128 := hS107.2 m111 m112 m113 m114 m115 m116 m117 m118 m119 m120 m121 m122 m123 m124 m125 m126 m127 e110
              refine z_iload C d_Mo_fire_165 9 rfl ?_
              refine z_aload_n C d_Mo_fire_167 rfl 2 rfl ?_
              refine z_get C 0 rfl rfl in_Mo 10 (by decide) rfl wf_Mo_40 rfl d_Mo_fire_168 ?_
              refine z_iload C d_Mo_fire_171 10 rfl ?_
              refine z_iald C 5 0 rfl rfl hS128.1 d_Mo_fire_173 ?_
              have hS129 := hS128.2
              refine z_iload C d_Mo_fire_174 1 rfl ?_
              refine z_isub C d_Mo_fire_176 ?_
              refine z_iadd C d_Mo_fire_177 ?_
              refine z_istore (lv' := [(10, .int (y10 + ((m118 y12.toNatClampNeg) - (t_met y12.toNatClampNeg)))), (11, .int (1 : Int32)), (13, .int (t_met y12.toNatClampNeg)), (0, .ref q_t), (1, .int y1), (2, .int y2), (3, .int y3), (4, .double y4), (6, .double y6), (8, .double y8), (12, .int y12)]) C d_Mo_fire_178 (by decide) rfl ?_
              refine z_iinc (j := 10) (v := y12 + (1 : Int32)) (lv' := [(12, .int (y12 + (1 : Int32))), (10, .int (y10 + ((m118 y12.toNatClampNeg) - (t_met y12.toNatClampNeg)))), (11, .int (1 : Int32)), (13, .int (t_met y12.toNatClampNeg)), (0, .ref q_t), (1, .int y1), (2, .int y2), (3, .int y3), (4, .double y4), (6, .double y6), (8, .double y8)]) C d_Mo_fire_180 rfl rfl (by decide) rfl ?_
              refine z_goto (tgt := 95) C d_Mo_fire_183 (by decide) ?_
              refine z_lpick (lv' := [(0, .ref q_t), (1, .int y1), (2, .int y2), (3, .int y3), (4, .double y4), (6, .double y6), (8, .double y8), (10, .int (y10 + ((m118 y12.toNatClampNeg) - (t_met y12.toNatClampNeg)))), (11, .int (1 : Int32)), (12, .int (y12 + (1 : Int32)))]) [4, 5, 6, 7, 8, 9, 10, 1, 2, 0] rfl ?_
              exact ih y1 y2 y3 y4 y6 y8 (y10 + ((m118 y12.toNatClampNeg) - (t_met y12.toNatClampNeg))) (1 : Int32) (y12 + (1 : Int32)) m111 m112 m113 t_firings t_thread t_thrown m114 t_handed m118 m115 m116 m117 m119 m120 m121 m122 m123 m124 m125 m126 m127 hS129
            · have hS106 := hS79.2 c105
              refine z_goto (tgt := 180) C d_Mo_fire_144 (by decide) ?_
              refine z_iinc (j := 9) (v := y12 + (1 : Int32)) (lv' := [(12, .int (y12 + (1 : Int32))), (0, .ref q_t), (1, .int y1), (2, .int y2), (3, .int y3), (4, .double y4), (6, .double y6), (8, .double y8), (10, .int y10), (11, .int y11)]) C d_Mo_fire_180 rfl rfl (by decide) rfl ?_
              refine z_goto (tgt := 95) C d_Mo_fire_183 (by decide) ?_
              refine z_lpick (lv' := [(0, .ref q_t), (1, .int y1), (2, .int y2), (3, .int y3), (4, .double y4), (6, .double y6), (8, .double y8), (10, .int y10), (11, .int y11), (12, .int (y12 + (1 : Int32)))]) [1, 2, 3, 4, 5, 6, 7, 8, 9, 0] rfl ?_
              exact ih y1 y2 y3 y4 y6 y8 y10 y11 (y12 + (1 : Int32)) t_recorded t_lost t_dropped t_firings t_thread t_thrown t_failed t_handed t_met t_pile t_globals t_own t_records t_keys t_key t_sum t_least t_greatest t_count t_bins t_failures hS106
set_option maxHeartbeats 4000000 in
set_option maxRecDepth 100000 in
theorem cw_Mo_fire (l : Launch) (D : va_G) (K : Nat → ClassId) (q_t : Nat) (q_t_text : Nat) (q_t_code : Nat) (q_t_site : Nat) (q_t_condition : Nat) (q_t_actions : Nat) (q_t_kind : Nat) (q_t_target : Nat) (q_t_first : Nat) (q_t_second : Nat) (q_t_failures : Nat) (q_t_met : Nat) (q_t_there : Nat) (q_t_on : Nat) (q_t_compared : Nat) (q_t_globals : Nat) (q_t_own : Nat) (q_t_records : Nat) (q_t_pile : Nat) (q_t_handed : Nat) (q_t_keys : Nat) (q_t_key : Nat) (q_t_count : Nat) (q_t_bins : Nat) (q_t_operator : Nat) (q_t_starts : Nat) (q_t_sum : Nat) (q_t_least : Nat) (q_t_greatest : Nat) (t_newSite : Int32) (t_newCondition : Int32) (t_newActions : Int32) (t_size : Int32) (t_place : Int32) (t_pos : Int32) (t_at : Int32) (t_operators : Int32) (t_recorded : Int32) (t_lost : Int32) (t_dropped : Int32) (t_firings : Int32) (t_time : Int32) (t_thread : Int32) (t_thrown : Int32) (t_failed : Int32) (t_handed : Nat → UInt64) (t_there : Nat → Int32) (t_on : Nat → Int32) (t_site : Nat → Int32) (t_met : Nat → Int32) (t_condition : Nat → Int32) (t_code : Nat → Int32) (t_pile : Nat → UInt64) (t_globals : Nat → UInt64) (t_own : Nat → UInt64) (t_actions : Nat → Int32) (t_kind : Nat → Int32) (t_second : Nat → Int32) (t_records : Nat → UInt64) (t_target : Nat → Int32) (t_keys : Nat → Int32) (t_key : Nat → Int32) (t_sum : Nat → UInt64) (t_least : Nat → UInt64) (t_greatest : Nat → UInt64) (t_count : Nat → Int32) (t_bins : Nat → Int32) (t_first : Nat → Int32) (t_failures : Nat → Int32) (x1 : Int32) (x2 : Int32) (x3 : Int32) (x4 : UInt64) (x6 : UInt64) (x8 : UInt64) {Q : Int32 → (Int32 × Int32 × Int32 × Int32 × Int32 × Int32 × Int32 × (Nat → UInt64) × (Nat → Int32) × (Nat → UInt64) × (Nat → UInt64) × (Nat → UInt64) × (Nat → UInt64) × (Nat → Int32) × (Nat → Int32) × (Nat → UInt64) × (Nat → UInt64) × (Nat → UInt64) × (Nat → Int32) × (Nat → Int32) × (Nat → Int32)) → Prop} (hS0 : WP_Mo_fire t_recorded t_lost t_dropped t_firings t_time t_thread t_thrown t_failed t_handed t_there t_on t_site t_met t_condition t_code t_pile t_globals t_own t_actions t_kind t_second t_records t_target t_keys t_key t_sum t_least t_greatest t_count t_bins t_first t_failures x1 x2 x3 x4 x6 x8 Q) : zCi l y_Mo_fire wy_Mo_fire rm_Mo_fire D zcl (zT K) [.ref q_t, .int x1, .int x2, .int x3, .double x4, .double x6, .double x8] (w_Mo_fire K q_t q_t_text q_t_code q_t_site q_t_condition q_t_actions q_t_kind q_t_target q_t_first q_t_second q_t_failures q_t_met q_t_there q_t_on q_t_compared q_t_globals q_t_own q_t_records q_t_pile q_t_handed q_t_keys q_t_key q_t_count q_t_bins q_t_operator q_t_starts q_t_sum q_t_least q_t_greatest t_newSite t_newCondition t_newActions t_size t_place t_pos t_at t_operators t_time t_there t_on t_site t_condition t_code t_actions t_kind t_second t_target t_first (t_recorded, t_lost, t_dropped, t_firings, t_thread, t_thrown, t_failed, t_handed, t_met, t_pile, t_globals, t_own, t_records, t_keys, t_key, t_sum, t_least, t_greatest, t_count, t_bins, t_failures)) (w_Mo_fire K q_t q_t_text q_t_code q_t_site q_t_condition q_t_actions q_t_kind q_t_target q_t_first q_t_second q_t_failures q_t_met q_t_there q_t_on q_t_compared q_t_globals q_t_own q_t_records q_t_pile q_t_handed q_t_keys q_t_key q_t_count q_t_bins q_t_operator q_t_starts q_t_sum q_t_least q_t_greatest t_newSite t_newCondition t_newActions t_size t_place t_pos t_at t_operators t_time t_there t_on t_site t_condition t_code t_actions t_kind t_second t_target t_first) Q 0 0 := by
  refine z_meti (cc := b_Mo_fire) (maxL := 14) (ret := (some .int)) (by decide) rfl (Nat.le_of_ble_eq_true rfl) ?_
  intro p e s m args below meth c A C hr hlk hnm
  refine z_lpick (lv' := [(0, .ref q_t), (1, .int x1), (2, .int x2), (3, .int x3), (4, .double x4), (6, .double x6), (8, .double x8)]) [0, 1, 2, 3, 4, 5, 6] rfl ?_
  refine z_weq (ws' := [zo 6 q_t [.ref q_t_text, .ref q_t_code, .ref q_t_site, .ref q_t_condition, .ref q_t_actions, .ref q_t_kind, .ref q_t_target, .ref q_t_first, .ref q_t_second, .ref q_t_failures, .ref q_t_met, .ref q_t_there, .ref q_t_on, .ref q_t_compared, .ref q_t_globals, .ref q_t_own, .ref q_t_records, .ref q_t_pile, .ref q_t_handed, .ref q_t_keys, .ref q_t_key, .ref q_t_count, .ref q_t_bins, .ref q_t_operator, .ref q_t_starts, .ref q_t_sum, .ref q_t_least, .ref q_t_greatest, .int t_newSite, .int t_newCondition, .int t_newActions, .int t_size, .int t_place, .int t_pos, .int t_at, .int t_operators, .int t_recorded, .int t_lost, .int t_dropped, .int t_firings, .int t_time, .int t_thread, .int t_thrown, .int t_failed], zaD K q_t_handed 3 t_handed, zaZ K q_t_there 6 t_there, zaZ K q_t_on 6 t_on, zaI K q_t_site 6 t_site, zaI K q_t_met 6 t_met, zaI K q_t_condition 6 t_condition, zaI K q_t_code 1400 t_code, zaD K q_t_pile 60 t_pile, zaD K q_t_globals 3 t_globals, zaD K q_t_own 12 t_own, zaI K q_t_actions 6 t_actions, zaI K q_t_kind 340 t_kind, zaI K q_t_second 340 t_second, zaD K q_t_records 6 t_records, zaI K q_t_target 340 t_target, zaI K q_t_keys 3 t_keys, zaI K q_t_key 12 t_key, zaD K q_t_sum 12 t_sum, zaD K q_t_least 12 t_least, zaD K q_t_greatest 12 t_greatest, zaI K q_t_count 12 t_count, zaI K q_t_bins 96 t_bins, zaI K q_t_first 340 t_first, zaI K q_t_failures 6 t_failures]) rfl ?_
  refine z_aload_n C d_Mo_fire_0 rfl 0 rfl ?_
  refine z_iload_n C d_Mo_fire_1 rfl 1 rfl ?_
  refine z_iconst (v := (0 : Int32)) C d_Mo_fire_2 (by decide) ?_
  refine z_bipush (v := (7 : Int32)) C d_Mo_fire_3 (by decide) ?_
  refine z_callSi (As := [.int x1, .int (0 : Int32), .int (7 : Int32)]) (st := [.ref q_t]) (wr := [zo 6 q_t [.ref q_t_text, .ref q_t_code, .ref q_t_site, .ref q_t_condition, .ref q_t_actions, .ref q_t_kind, .ref q_t_target, .ref q_t_first, .ref q_t_second, .ref q_t_failures, .ref q_t_met, .ref q_t_there, .ref q_t_on, .ref q_t_compared, .ref q_t_globals, .ref q_t_own, .ref q_t_records, .ref q_t_pile, .ref q_t_handed, .ref q_t_keys, .ref q_t_key, .ref q_t_count, .ref q_t_bins, .ref q_t_operator, .ref q_t_starts, .ref q_t_sum, .ref q_t_least, .ref q_t_greatest, .int t_newSite, .int t_newCondition, .int t_newActions, .int t_size, .int t_place, .int t_pos, .int t_at, .int t_operators, .int t_recorded, .int t_lost, .int t_dropped, .int t_firings, .int t_time, .int t_thread, .int t_thrown, .int t_failed], zaD K q_t_handed 3 t_handed, zaZ K q_t_there 6 t_there, zaZ K q_t_on 6 t_on, zaI K q_t_site 6 t_site, zaI K q_t_met 6 t_met, zaI K q_t_condition 6 t_condition, zaI K q_t_code 1400 t_code, zaD K q_t_pile 60 t_pile, zaD K q_t_globals 3 t_globals, zaD K q_t_own 12 t_own, zaI K q_t_actions 6 t_actions, zaI K q_t_kind 340 t_kind, zaI K q_t_second 340 t_second, zaD K q_t_records 6 t_records, zaI K q_t_target 340 t_target, zaI K q_t_keys 3 t_keys, zaI K q_t_key 12 t_key, zaD K q_t_sum 12 t_sum, zaD K q_t_least 12 t_least, zaD K q_t_greatest 12 t_greatest, zaI K q_t_count 12 t_count, zaI K q_t_bins 96 t_bins, zaI K q_t_first 340 t_first, zaI K q_t_failures 6 t_failures]) (wj := fun u => [zo 6 q_t [.ref q_t_text, .ref q_t_code, .ref q_t_site, .ref q_t_condition, .ref q_t_actions, .ref q_t_kind, .ref q_t_target, .ref q_t_first, .ref q_t_second, .ref q_t_failures, .ref q_t_met, .ref q_t_there, .ref q_t_on, .ref q_t_compared, .ref q_t_globals, .ref q_t_own, .ref q_t_records, .ref q_t_pile, .ref q_t_handed, .ref q_t_keys, .ref q_t_key, .ref q_t_count, .ref q_t_bins, .ref q_t_operator, .ref q_t_starts, .ref q_t_sum, .ref q_t_least, .ref q_t_greatest, .int t_newSite, .int t_newCondition, .int t_newActions, .int t_size, .int t_place, .int t_pos, .int t_at, .int t_operators, .int t_recorded, .int t_lost, .int t_dropped, .int t_firings, .int t_time, .int t_thread, .int t_thrown, .int t_failed], zaD K q_t_handed 3 t_handed, zaZ K q_t_there 6 t_there, zaZ K q_t_on 6 t_on, zaI K q_t_site 6 t_site, zaI K q_t_met 6 t_met, zaI K q_t_condition 6 t_condition, zaI K q_t_code 1400 t_code, zaD K q_t_pile 60 t_pile, zaD K q_t_globals 3 t_globals, zaD K q_t_own 12 t_own, zaI K q_t_actions 6 t_actions, zaI K q_t_kind 340 t_kind, zaI K q_t_second 340 t_second, zaD K q_t_records 6 t_records, zaI K q_t_target 340 t_target, zaI K q_t_keys 3 t_keys, zaI K q_t_key 12 t_key, zaD K q_t_sum 12 t_sum, zaD K q_t_least 12 t_least, zaD K q_t_greatest 12 t_greatest, zaI K q_t_count 12 t_count, zaI K q_t_bins 96 t_bins, zaI K q_t_first 340 t_first, zaI K q_t_failures 6 t_failures]) C (c_Mo_in l D K x1 (0 : Int32) (7 : Int32)) (cwS 3 C.2.2.2.2.1 (z_gS wl_Mo_103 ws_Mo_in wz_Mo wk_Mo_in) rfl rfl rfl (by decide +kernel) ⟨Nat.le_of_ble_eq_true rfl, Nat.le_of_ble_eq_true rfl⟩) [] [0, 1, 2, 3, 4, 5, 6, 7, 8, 9, 10, 11, 12, 13, 14, 15, 16, 17, 18, 19, 20, 21, 22, 23, 24] [0, 1, 2, 3, 4, 5, 6, 7, 8, 9, 10, 11, 12, 13, 14, 15, 16, 17, 18, 19, 20, 21, 22, 23, 24] rfl rfl rfl rfl (by decide) (fun _ => rfl) rfl rfl rfl (Nat.le_of_ble_eq_true rfl) d_Mo_fire_5 ⟨Nat.le_of_ble_eq_true rfl, Nat.le_of_ble_eq_true rfl⟩ (fun r1 u2 e3 => ?_)
  have hS4 := hS0 r1 e3
  refine z_if_eq (tgt := 48) C d_Mo_fire_8 (by decide) (fun c5 => ?_) (fun c5 => ?_)
  · have hS6 := hS4.1 c5
    refine z_iconst (v := (0 : Int32)) C d_Mo_fire_48 (by decide) ?_
    refine z_callVi (As := [.int (0 : Int32)]) (b := q_t) (st := []) (wr := [zaD K q_t_handed 3 t_handed, zaZ K q_t_there 6 t_there, zaZ K q_t_on 6 t_on, zaI K q_t_site 6 t_site, zaI K q_t_met 6 t_met, zaI K q_t_condition 6 t_condition, zaI K q_t_code 1400 t_code, zaD K q_t_pile 60 t_pile, zaD K q_t_globals 3 t_globals, zaD K q_t_own 12 t_own, zaI K q_t_actions 6 t_actions, zaI K q_t_kind 340 t_kind, zaI K q_t_second 340 t_second, zaD K q_t_records 6 t_records, zaI K q_t_target 340 t_target, zaI K q_t_keys 3 t_keys, zaI K q_t_key 12 t_key, zaD K q_t_sum 12 t_sum, zaD K q_t_least 12 t_least, zaD K q_t_greatest 12 t_greatest, zaI K q_t_count 12 t_count, zaI K q_t_bins 96 t_bins, zaI K q_t_first 340 t_first, zaI K q_t_failures 6 t_failures]) (wj := fun u => [zo 6 q_t [.ref q_t_text, .ref q_t_code, .ref q_t_site, .ref q_t_condition, .ref q_t_actions, .ref q_t_kind, .ref q_t_target, .ref q_t_first, .ref q_t_second, .ref q_t_failures, .ref q_t_met, .ref q_t_there, .ref q_t_on, .ref q_t_compared, .ref q_t_globals, .ref q_t_own, .ref q_t_records, .ref q_t_pile, .ref q_t_handed, .ref q_t_keys, .ref q_t_key, .ref q_t_count, .ref q_t_bins, .ref q_t_operator, .ref q_t_starts, .ref q_t_sum, .ref q_t_least, .ref q_t_greatest, .int t_newSite, .int t_newCondition, .int t_newActions, .int t_size, .int t_place, .int t_pos, .int t_at, .int t_operators, .int t_recorded, .int t_lost, .int t_dropped, .int t_firings, .int t_time, .int t_thread, .int u, .int t_failed], zaD K q_t_handed 3 t_handed, zaZ K q_t_there 6 t_there, zaZ K q_t_on 6 t_on, zaI K q_t_site 6 t_site, zaI K q_t_met 6 t_met, zaI K q_t_condition 6 t_condition, zaI K q_t_code 1400 t_code, zaD K q_t_pile 60 t_pile, zaD K q_t_globals 3 t_globals, zaD K q_t_own 12 t_own, zaI K q_t_actions 6 t_actions, zaI K q_t_kind 340 t_kind, zaI K q_t_second 340 t_second, zaD K q_t_records 6 t_records, zaI K q_t_target 340 t_target, zaI K q_t_keys 3 t_keys, zaI K q_t_key 12 t_key, zaD K q_t_sum 12 t_sum, zaD K q_t_least 12 t_least, zaD K q_t_greatest 12 t_greatest, zaI K q_t_count 12 t_count, zaI K q_t_bins 96 t_bins, zaI K q_t_first 340 t_first, zaI K q_t_failures 6 t_failures]) C 0 rfl rfl (c_Mo_bad l D K q_t q_t_text q_t_code q_t_site q_t_condition q_t_actions q_t_kind q_t_target q_t_first q_t_second q_t_failures q_t_met q_t_there q_t_on q_t_compared q_t_globals q_t_own q_t_records q_t_pile q_t_handed q_t_keys q_t_key q_t_count q_t_bins q_t_operator q_t_starts q_t_sum q_t_least q_t_greatest t_newSite t_newCondition t_newActions t_size t_place t_pos t_at t_operators t_recorded t_lost t_dropped t_firings t_time t_thread t_thrown t_failed (0 : Int32)) (cwV 1 C.2.2.2.2.1 (z_gV wl_Mo_107 wi_Mo_bad wv_Mo_bad wz_Mo wk_Mo_bad) rfl rfl rfl (by decide +kernel) ⟨Nat.le_of_ble_eq_true rfl, Nat.le_of_ble_eq_true rfl⟩) [0] [1, 2, 3, 4, 5, 6, 7, 8, 9, 10, 11, 12, 13, 14, 15, 16, 17, 18, 19, 20, 21, 22, 23, 24] [24, 0, 1, 2, 3, 4, 5, 6, 7, 8, 9, 10, 11, 12, 13, 14, 15, 16, 17, 18, 19, 20, 21, 22, 23] rfl rfl rfl rfl (by decide) (fun _ => rfl) rfl rfl rfl (Nat.le_of_ble_eq_true rfl) d_Mo_fire_49 ⟨Nat.le_of_ble_eq_true rfl, Nat.le_of_ble_eq_true rfl⟩ (fun r7 u8 e9 => ?_)
    have hS10 := hS6 r7 u8 e9
    refine z_if_eq (tgt := 57) C d_Mo_fire_52 (by decide) (fun c11 => ?_) (fun c11 => ?_)
    · have hS12 := hS10.1 c11
      refine z_aload_n C d_Mo_fire_57 rfl 0 rfl ?_
      refine z_get C 0 rfl rfl in_Mo 18 (by decide) rfl wf_Mo_66 rfl d_Mo_fire_58 ?_
      refine z_iconst (v := (0 : Int32)) C d_Mo_fire_61 (by decide) ?_
      refine z_dload C d_Mo_fire_62 4 rfl ?_
      refine z_dast (ws' := [zo 6 q_t [.ref q_t_text, .ref q_t_code, .ref q_t_site, .ref q_t_condition, .ref q_t_actions, .ref q_t_kind, .ref q_t_target, .ref q_t_first, .ref q_t_second, .ref q_t_failures, .ref q_t_met, .ref q_t_there, .ref q_t_on, .ref q_t_compared, .ref q_t_globals, .ref q_t_own, .ref q_t_records, .ref q_t_pile, .ref q_t_handed, .ref q_t_keys, .ref q_t_key, .ref q_t_count, .ref q_t_bins, .ref q_t_operator, .ref q_t_starts, .ref q_t_sum, .ref q_t_least, .ref q_t_greatest, .int t_newSite, .int t_newCondition, .int t_newActions, .int t_size, .int t_place, .int t_pos, .int t_at, .int t_operators, .int t_recorded, .int t_lost, .int t_dropped, .int t_firings, .int t_time, .int t_thread, .int u8, .int t_failed], zaD K q_t_handed 3 (vf_upd t_handed 0 x4), zaZ K q_t_there 6 t_there, zaZ K q_t_on 6 t_on, zaI K q_t_site 6 t_site, zaI K q_t_met 6 t_met, zaI K q_t_condition 6 t_condition, zaI K q_t_code 1400 t_code, zaD K q_t_pile 60 t_pile, zaD K q_t_globals 3 t_globals, zaD K q_t_own 12 t_own, zaI K q_t_actions 6 t_actions, zaI K q_t_kind 340 t_kind, zaI K q_t_second 340 t_second, zaD K q_t_records 6 t_records, zaI K q_t_target 340 t_target, zaI K q_t_keys 3 t_keys, zaI K q_t_key 12 t_key, zaD K q_t_sum 12 t_sum, zaD K q_t_least 12 t_least, zaD K q_t_greatest 12 t_greatest, zaI K q_t_count 12 t_count, zaI K q_t_bins 96 t_bins, zaI K q_t_first 340 t_first, zaI K q_t_failures 6 t_failures]) C 1 1 rfl rfl (zin_c (by decide)) rfl d_Mo_fire_64 ?_
      refine z_aload_n C d_Mo_fire_65 rfl 0 rfl ?_
      refine z_get C 0 rfl rfl in_Mo 18 (by decide) rfl wf_Mo_66 rfl d_Mo_fire_66 ?_
      refine z_iconst (v := (1 : Int32)) C d_Mo_fire_69 (by decide) ?_
      refine z_dload C d_Mo_fire_70 5 rfl ?_
      refine z_dast (ws' := [zo 6 q_t [.ref q_t_text, .ref q_t_code, .ref q_t_site, .ref q_t_condition, .ref q_t_actions, .ref q_t_kind, .ref q_t_target, .ref q_t_first, .ref q_t_second, .ref q_t_failures, .ref q_t_met, .ref q_t_there, .ref q_t_on, .ref q_t_compared, .ref q_t_globals, .ref q_t_own, .ref q_t_records, .ref q_t_pile, .ref q_t_handed, .ref q_t_keys, .ref q_t_key, .ref q_t_count, .ref q_t_bins, .ref q_t_operator, .ref q_t_starts, .ref q_t_sum, .ref q_t_least, .ref q_t_greatest, .int t_newSite, .int t_newCondition, .int t_newActions, .int t_size, .int t_place, .int t_pos, .int t_at, .int t_operators, .int t_recorded, .int t_lost, .int t_dropped, .int t_firings, .int t_time, .int t_thread, .int u8, .int t_failed], zaD K q_t_handed 3 (vf_upd (vf_upd t_handed 0 x4) 1 x6), zaZ K q_t_there 6 t_there, zaZ K q_t_on 6 t_on, zaI K q_t_site 6 t_site, zaI K q_t_met 6 t_met, zaI K q_t_condition 6 t_condition, zaI K q_t_code 1400 t_code, zaD K q_t_pile 60 t_pile, zaD K q_t_globals 3 t_globals, zaD K q_t_own 12 t_own, zaI K q_t_actions 6 t_actions, zaI K q_t_kind 340 t_kind, zaI K q_t_second 340 t_second, zaD K q_t_records 6 t_records, zaI K q_t_target 340 t_target, zaI K q_t_keys 3 t_keys, zaI K q_t_key 12 t_key, zaD K q_t_sum 12 t_sum, zaD K q_t_least 12 t_least, zaD K q_t_greatest 12 t_greatest, zaI K q_t_count 12 t_count, zaI K q_t_bins 96 t_bins, zaI K q_t_first 340 t_first, zaI K q_t_failures 6 t_failures]) C 1 1 rfl rfl (zin_c (by decide)) rfl d_Mo_fire_72 ?_
      refine z_aload_n C d_Mo_fire_73 rfl 0 rfl ?_
      refine z_get C 0 rfl rfl in_Mo 18 (by decide) rfl wf_Mo_66 rfl d_Mo_fire_74 ?_
      refine z_iconst (v := (2 : Int32)) C d_Mo_fire_77 (by decide) ?_
      refine z_dload C d_Mo_fire_78 6 rfl ?_
      refine z_dast (ws' := [zo 6 q_t [.ref q_t_text, .ref q_t_code, .ref q_t_site, .ref q_t_condition, .ref q_t_actions, .ref q_t_kind, .ref q_t_target, .ref q_t_first, .ref q_t_second, .ref q_t_failures, .ref q_t_met, .ref q_t_there, .ref q_t_on, .ref q_t_compared, .ref q_t_globals, .ref q_t_own, .ref q_t_records, .ref q_t_pile, .ref q_t_handed, .ref q_t_keys, .ref q_t_key, .ref q_t_count, .ref q_t_bins, .ref q_t_operator, .ref q_t_starts, .ref q_t_sum, .ref q_t_least, .ref q_t_greatest, .int t_newSite, .int t_newCondition, .int t_newActions, .int t_size, .int t_place, .int t_pos, .int t_at, .int t_operators, .int t_recorded, .int t_lost, .int t_dropped, .int t_firings, .int t_time, .int t_thread, .int u8, .int t_failed], zaD K q_t_handed 3 (vf_upd (vf_upd (vf_upd t_handed 0 x4) 1 x6) 2 x8), zaZ K q_t_there 6 t_there, zaZ K q_t_on 6 t_on, zaI K q_t_site 6 t_site, zaI K q_t_met 6 t_met, zaI K q_t_condition 6 t_condition, zaI K q_t_code 1400 t_code, zaD K q_t_pile 60 t_pile, zaD K q_t_globals 3 t_globals, zaD K q_t_own 12 t_own, zaI K q_t_actions 6 t_actions, zaI K q_t_kind 340 t_kind, zaI K q_t_second 340 t_second, zaD K q_t_records 6 t_records, zaI K q_t_target 340 t_target, zaI K q_t_keys 3 t_keys, zaI K q_t_key 12 t_key, zaD K q_t_sum 12 t_sum, zaD K q_t_least 12 t_least, zaD K q_t_greatest 12 t_greatest, zaI K q_t_count 12 t_count, zaI K q_t_bins 96 t_bins, zaI K q_t_first 340 t_first, zaI K q_t_failures 6 t_failures]) C 1 1 rfl rfl (zin_c (by decide)) rfl d_Mo_fire_80 ?_
      refine z_aload_n C d_Mo_fire_81 rfl 0 rfl ?_
      refine z_iload_n C d_Mo_fire_82 rfl 3 rfl ?_
      refine z_put (ty := .int) (ws' := [zo 6 q_t [.ref q_t_text, .ref q_t_code, .ref q_t_site, .ref q_t_condition, .ref q_t_actions, .ref q_t_kind, .ref q_t_target, .ref q_t_first, .ref q_t_second, .ref q_t_failures, .ref q_t_met, .ref q_t_there, .ref q_t_on, .ref q_t_compared, .ref q_t_globals, .ref q_t_own, .ref q_t_records, .ref q_t_pile, .ref q_t_handed, .ref q_t_keys, .ref q_t_key, .ref q_t_count, .ref q_t_bins, .ref q_t_operator, .ref q_t_starts, .ref q_t_sum, .ref q_t_least, .ref q_t_greatest, .int t_newSite, .int t_newCondition, .int t_newActions, .int t_size, .int t_place, .int t_pos, .int t_at, .int t_operators, .int t_recorded, .int t_lost, .int t_dropped, .int t_firings, .int t_time, .int x3, .int u8, .int t_failed], zaD K q_t_handed 3 (vf_upd (vf_upd (vf_upd t_handed 0 x4) 1 x6) 2 x8), zaZ K q_t_there 6 t_there, zaZ K q_t_on 6 t_on, zaI K q_t_site 6 t_site, zaI K q_t_met 6 t_met, zaI K q_t_condition 6 t_condition, zaI K q_t_code 1400 t_code, zaD K q_t_pile 60 t_pile, zaD K q_t_globals 3 t_globals, zaD K q_t_own 12 t_own, zaI K q_t_actions 6 t_actions, zaI K q_t_kind 340 t_kind, zaI K q_t_second 340 t_second, zaD K q_t_records 6 t_records, zaI K q_t_target 340 t_target, zaI K q_t_keys 3 t_keys, zaI K q_t_key 12 t_key, zaD K q_t_sum 12 t_sum, zaD K q_t_least 12 t_least, zaD K q_t_greatest 12 t_greatest, zaI K q_t_count 12 t_count, zaI K q_t_bins 96 t_bins, zaI K q_t_first 340 t_first, zaI K q_t_failures 6 t_failures]) C ty_Mo to_Mo nm_Mo 0 rfl rfl in_Mo 41 (by decide) rfl wf_Mo_170 rfl rfl rfl rfl (Nat.le_of_ble_eq_true rfl) rfl d_Mo_fire_83 ?_
      refine z_iconst (v := (0 : Int32)) C d_Mo_fire_86 (by decide) ?_
      refine z_istore (lv' := [(10, .int (0 : Int32)), (0, .ref q_t), (1, .int x1), (2, .int x2), (3, .int x3), (4, .double x4), (6, .double x6), (8, .double x8)]) C d_Mo_fire_87 (by decide) rfl ?_
      refine z_iconst (v := (0 : Int32)) C d_Mo_fire_89 (by decide) ?_
      refine z_istore (lv' := [(11, .int (0 : Int32)), (10, .int (0 : Int32)), (0, .ref q_t), (1, .int x1), (2, .int x2), (3, .int x3), (4, .double x4), (6, .double x6), (8, .double x8)]) C d_Mo_fire_90 (by decide) rfl ?_
      refine z_iconst (v := (0 : Int32)) C d_Mo_fire_92 (by decide) ?_
      refine z_istore (lv' := [(12, .int (0 : Int32)), (11, .int (0 : Int32)), (10, .int (0 : Int32)), (0, .ref q_t), (1, .int x1), (2, .int x2), (3, .int x3), (4, .double x4), (6, .double x6), (8, .double x8)]) C d_Mo_fire_93 (by decide) rfl ?_
      refine z_lpick (lv' := [(0, .ref q_t), (1, .int x1), (2, .int x2), (3, .int x3), (4, .double x4), (6, .double x6), (8, .double x8), (10, .int (0 : Int32)), (11, .int (0 : Int32)), (12, .int (0 : Int32))]) [3, 4, 5, 6, 7, 8, 9, 2, 1, 0] rfl ?_
      exact lw_Mo_fire_L95 l D K q_t q_t_text q_t_code q_t_site q_t_condition q_t_actions q_t_kind q_t_target q_t_first q_t_second q_t_failures q_t_met q_t_there q_t_on q_t_compared q_t_globals q_t_own q_t_records q_t_pile q_t_handed q_t_keys q_t_key q_t_count q_t_bins q_t_operator q_t_starts q_t_sum q_t_least q_t_greatest t_newSite t_newCondition t_newActions t_size t_place t_pos t_at t_operators t_time t_there t_on t_site t_condition t_code t_actions t_kind t_second t_target t_first C hr hlk 600 x1 x2 x3 x4 x6 x8 (0 : Int32) (0 : Int32) (0 : Int32) t_recorded t_lost t_dropped t_firings x3 u8 t_failed (vf_upd (vf_upd (vf_upd t_handed 0 x4) 1 x6) 2 x8) t_met t_pile t_globals t_own t_records t_keys t_key t_sum t_least t_greatest t_count t_bins t_failures hS12
    · have hS12 := hS10.2 c11
      refine z_iconst (v := (0 : Int32)) C d_Mo_fire_55 (by decide) ?_
      exact z_iret C hr hlk (t_recorded, t_lost, t_dropped, t_firings, t_thread, u8, t_failed, t_handed, t_met, t_pile, t_globals, t_own, t_records, t_keys, t_key, t_sum, t_least, t_greatest, t_count, t_bins, t_failures) rfl hS12 d_Mo_fire_56
  · have hS6 := hS4.2 c5
    refine z_iload_n C d_Mo_fire_11 rfl 3 rfl ?_
    refine z_iconst (v := (0 : Int32)) C d_Mo_fire_12 (by decide) ?_
    refine z_iconst (v := (3 : Int32)) C d_Mo_fire_13 (by decide) ?_
    refine z_callSi (As := [.int x3, .int (0 : Int32), .int (3 : Int32)]) (st := [.ref q_t]) (wr := [zo 6 q_t [.ref q_t_text, .ref q_t_code, .ref q_t_site, .ref q_t_condition, .ref q_t_actions, .ref q_t_kind, .ref q_t_target, .ref q_t_first, .ref q_t_second, .ref q_t_failures, .ref q_t_met, .ref q_t_there, .ref q_t_on, .ref q_t_compared, .ref q_t_globals, .ref q_t_own, .ref q_t_records, .ref q_t_pile, .ref q_t_handed, .ref q_t_keys, .ref q_t_key, .ref q_t_count, .ref q_t_bins, .ref q_t_operator, .ref q_t_starts, .ref q_t_sum, .ref q_t_least, .ref q_t_greatest, .int t_newSite, .int t_newCondition, .int t_newActions, .int t_size, .int t_place, .int t_pos, .int t_at, .int t_operators, .int t_recorded, .int t_lost, .int t_dropped, .int t_firings, .int t_time, .int t_thread, .int t_thrown, .int t_failed], zaD K q_t_handed 3 t_handed, zaZ K q_t_there 6 t_there, zaZ K q_t_on 6 t_on, zaI K q_t_site 6 t_site, zaI K q_t_met 6 t_met, zaI K q_t_condition 6 t_condition, zaI K q_t_code 1400 t_code, zaD K q_t_pile 60 t_pile, zaD K q_t_globals 3 t_globals, zaD K q_t_own 12 t_own, zaI K q_t_actions 6 t_actions, zaI K q_t_kind 340 t_kind, zaI K q_t_second 340 t_second, zaD K q_t_records 6 t_records, zaI K q_t_target 340 t_target, zaI K q_t_keys 3 t_keys, zaI K q_t_key 12 t_key, zaD K q_t_sum 12 t_sum, zaD K q_t_least 12 t_least, zaD K q_t_greatest 12 t_greatest, zaI K q_t_count 12 t_count, zaI K q_t_bins 96 t_bins, zaI K q_t_first 340 t_first, zaI K q_t_failures 6 t_failures]) (wj := fun u => [zo 6 q_t [.ref q_t_text, .ref q_t_code, .ref q_t_site, .ref q_t_condition, .ref q_t_actions, .ref q_t_kind, .ref q_t_target, .ref q_t_first, .ref q_t_second, .ref q_t_failures, .ref q_t_met, .ref q_t_there, .ref q_t_on, .ref q_t_compared, .ref q_t_globals, .ref q_t_own, .ref q_t_records, .ref q_t_pile, .ref q_t_handed, .ref q_t_keys, .ref q_t_key, .ref q_t_count, .ref q_t_bins, .ref q_t_operator, .ref q_t_starts, .ref q_t_sum, .ref q_t_least, .ref q_t_greatest, .int t_newSite, .int t_newCondition, .int t_newActions, .int t_size, .int t_place, .int t_pos, .int t_at, .int t_operators, .int t_recorded, .int t_lost, .int t_dropped, .int t_firings, .int t_time, .int t_thread, .int t_thrown, .int t_failed], zaD K q_t_handed 3 t_handed, zaZ K q_t_there 6 t_there, zaZ K q_t_on 6 t_on, zaI K q_t_site 6 t_site, zaI K q_t_met 6 t_met, zaI K q_t_condition 6 t_condition, zaI K q_t_code 1400 t_code, zaD K q_t_pile 60 t_pile, zaD K q_t_globals 3 t_globals, zaD K q_t_own 12 t_own, zaI K q_t_actions 6 t_actions, zaI K q_t_kind 340 t_kind, zaI K q_t_second 340 t_second, zaD K q_t_records 6 t_records, zaI K q_t_target 340 t_target, zaI K q_t_keys 3 t_keys, zaI K q_t_key 12 t_key, zaD K q_t_sum 12 t_sum, zaD K q_t_least 12 t_least, zaD K q_t_greatest 12 t_greatest, zaI K q_t_count 12 t_count, zaI K q_t_bins 96 t_bins, zaI K q_t_first 340 t_first, zaI K q_t_failures 6 t_failures]) C (c_Mo_in l D K x3 (0 : Int32) (3 : Int32)) (cwS 3 C.2.2.2.2.1 (z_gS wl_Mo_103 ws_Mo_in wz_Mo wk_Mo_in) rfl rfl rfl (by decide +kernel) ⟨Nat.le_of_ble_eq_true rfl, Nat.le_of_ble_eq_true rfl⟩) [] [0, 1, 2, 3, 4, 5, 6, 7, 8, 9, 10, 11, 12, 13, 14, 15, 16, 17, 18, 19, 20, 21, 22, 23, 24] [0, 1, 2, 3, 4, 5, 6, 7, 8, 9, 10, 11, 12, 13, 14, 15, 16, 17, 18, 19, 20, 21, 22, 23, 24] rfl rfl rfl rfl (by decide) (fun _ => rfl) rfl rfl rfl (Nat.le_of_ble_eq_true rfl) d_Mo_fire_14 ⟨Nat.le_of_ble_eq_true rfl, Nat.le_of_ble_eq_true rfl⟩ (fun r13 u14 e15 => ?_)
    have hS16 := hS6 r13 e15
    refine z_if_eq (tgt := 48) C d_Mo_fire_17 (by decide) (fun c17 => ?_) (fun c17 => ?_)
    · have hS18 := hS16.1 c17
      refine z_iconst (v := (0 : Int32)) C d_Mo_fire_48 (by decide) ?_
      refine z_callVi (As := [.int (0 : Int32)]) (b := q_t) (st := []) (wr := [zaD K q_t_handed 3 t_handed, zaZ K q_t_there 6 t_there, zaZ K q_t_on 6 t_on, zaI K q_t_site 6 t_site, zaI K q_t_met 6 t_met, zaI K q_t_condition 6 t_condition, zaI K q_t_code 1400 t_code, zaD K q_t_pile 60 t_pile, zaD K q_t_globals 3 t_globals, zaD K q_t_own 12 t_own, zaI K q_t_actions 6 t_actions, zaI K q_t_kind 340 t_kind, zaI K q_t_second 340 t_second, zaD K q_t_records 6 t_records, zaI K q_t_target 340 t_target, zaI K q_t_keys 3 t_keys, zaI K q_t_key 12 t_key, zaD K q_t_sum 12 t_sum, zaD K q_t_least 12 t_least, zaD K q_t_greatest 12 t_greatest, zaI K q_t_count 12 t_count, zaI K q_t_bins 96 t_bins, zaI K q_t_first 340 t_first, zaI K q_t_failures 6 t_failures]) (wj := fun u => [zo 6 q_t [.ref q_t_text, .ref q_t_code, .ref q_t_site, .ref q_t_condition, .ref q_t_actions, .ref q_t_kind, .ref q_t_target, .ref q_t_first, .ref q_t_second, .ref q_t_failures, .ref q_t_met, .ref q_t_there, .ref q_t_on, .ref q_t_compared, .ref q_t_globals, .ref q_t_own, .ref q_t_records, .ref q_t_pile, .ref q_t_handed, .ref q_t_keys, .ref q_t_key, .ref q_t_count, .ref q_t_bins, .ref q_t_operator, .ref q_t_starts, .ref q_t_sum, .ref q_t_least, .ref q_t_greatest, .int t_newSite, .int t_newCondition, .int t_newActions, .int t_size, .int t_place, .int t_pos, .int t_at, .int t_operators, .int t_recorded, .int t_lost, .int t_dropped, .int t_firings, .int t_time, .int t_thread, .int u, .int t_failed], zaD K q_t_handed 3 t_handed, zaZ K q_t_there 6 t_there, zaZ K q_t_on 6 t_on, zaI K q_t_site 6 t_site, zaI K q_t_met 6 t_met, zaI K q_t_condition 6 t_condition, zaI K q_t_code 1400 t_code, zaD K q_t_pile 60 t_pile, zaD K q_t_globals 3 t_globals, zaD K q_t_own 12 t_own, zaI K q_t_actions 6 t_actions, zaI K q_t_kind 340 t_kind, zaI K q_t_second 340 t_second, zaD K q_t_records 6 t_records, zaI K q_t_target 340 t_target, zaI K q_t_keys 3 t_keys, zaI K q_t_key 12 t_key, zaD K q_t_sum 12 t_sum, zaD K q_t_least 12 t_least, zaD K q_t_greatest 12 t_greatest, zaI K q_t_count 12 t_count, zaI K q_t_bins 96 t_bins, zaI K q_t_first 340 t_first, zaI K q_t_failures 6 t_failures]) C 0 rfl rfl (c_Mo_bad l D K q_t q_t_text q_t_code q_t_site q_t_condition q_t_actions q_t_kind q_t_target q_t_first q_t_second q_t_failures q_t_met q_t_there q_t_on q_t_compared q_t_globals q_t_own q_t_records q_t_pile q_t_handed q_t_keys q_t_key q_t_count q_t_bins q_t_operator q_t_starts q_t_sum q_t_least q_t_greatest t_newSite t_newCondition t_newActions t_size t_place t_pos t_at t_operators t_recorded t_lost t_dropped t_firings t_time t_thread t_thrown t_failed (0 : Int32)) (cwV 1 C.2.2.2.2.1 (z_gV wl_Mo_107 wi_Mo_bad wv_Mo_bad wz_Mo wk_Mo_bad) rfl rfl rfl (by decide +kernel) ⟨Nat.le_of_ble_eq_true rfl, Nat.le_of_ble_eq_true rfl⟩) [0] [1, 2, 3, 4, 5, 6, 7, 8, 9, 10, 11, 12, 13, 14, 15, 16, 17, 18, 19, 20, 21, 22, 23, 24] [24, 0, 1, 2, 3, 4, 5, 6, 7, 8, 9, 10, 11, 12, 13, 14, 15, 16, 17, 18, 19, 20, 21, 22, 23] rfl rfl rfl rfl (by decide) (fun _ => rfl) rfl rfl rfl (Nat.le_of_ble_eq_true rfl) d_Mo_fire_49 ⟨Nat.le_of_ble_eq_true rfl, Nat.le_of_ble_eq_true rfl⟩ (fun r19 u20 e21 => ?_)
      have hS22 := hS18 r19 u20 e21
      refine z_if_eq (tgt := 57) C d_Mo_fire_52 (by decide) (fun c23 => ?_) (fun c23 => ?_)
      · have hS24 := hS22.1 c23
        refine z_aload_n C d_Mo_fire_57 rfl 0 rfl ?_
        refine z_get C 0 rfl rfl in_Mo 18 (by decide) rfl wf_Mo_66 rfl d_Mo_fire_58 ?_
        refine z_iconst (v := (0 : Int32)) C d_Mo_fire_61 (by decide) ?_
        refine z_dload C d_Mo_fire_62 4 rfl ?_
        refine z_dast (ws' := [zo 6 q_t [.ref q_t_text, .ref q_t_code, .ref q_t_site, .ref q_t_condition, .ref q_t_actions, .ref q_t_kind, .ref q_t_target, .ref q_t_first, .ref q_t_second, .ref q_t_failures, .ref q_t_met, .ref q_t_there, .ref q_t_on, .ref q_t_compared, .ref q_t_globals, .ref q_t_own, .ref q_t_records, .ref q_t_pile, .ref q_t_handed, .ref q_t_keys, .ref q_t_key, .ref q_t_count, .ref q_t_bins, .ref q_t_operator, .ref q_t_starts, .ref q_t_sum, .ref q_t_least, .ref q_t_greatest, .int t_newSite, .int t_newCondition, .int t_newActions, .int t_size, .int t_place, .int t_pos, .int t_at, .int t_operators, .int t_recorded, .int t_lost, .int t_dropped, .int t_firings, .int t_time, .int t_thread, .int u20, .int t_failed], zaD K q_t_handed 3 (vf_upd t_handed 0 x4), zaZ K q_t_there 6 t_there, zaZ K q_t_on 6 t_on, zaI K q_t_site 6 t_site, zaI K q_t_met 6 t_met, zaI K q_t_condition 6 t_condition, zaI K q_t_code 1400 t_code, zaD K q_t_pile 60 t_pile, zaD K q_t_globals 3 t_globals, zaD K q_t_own 12 t_own, zaI K q_t_actions 6 t_actions, zaI K q_t_kind 340 t_kind, zaI K q_t_second 340 t_second, zaD K q_t_records 6 t_records, zaI K q_t_target 340 t_target, zaI K q_t_keys 3 t_keys, zaI K q_t_key 12 t_key, zaD K q_t_sum 12 t_sum, zaD K q_t_least 12 t_least, zaD K q_t_greatest 12 t_greatest, zaI K q_t_count 12 t_count, zaI K q_t_bins 96 t_bins, zaI K q_t_first 340 t_first, zaI K q_t_failures 6 t_failures]) C 1 1 rfl rfl (zin_c (by decide)) rfl d_Mo_fire_64 ?_
        refine z_aload_n C d_Mo_fire_65 rfl 0 rfl ?_
        refine z_get C 0 rfl rfl in_Mo 18 (by decide) rfl wf_Mo_66 rfl d_Mo_fire_66 ?_
        refine z_iconst (v := (1 : Int32)) C d_Mo_fire_69 (by decide) ?_
        refine z_dload C d_Mo_fire_70 5 rfl ?_
        refine z_dast (ws' := [zo 6 q_t [.ref q_t_text, .ref q_t_code, .ref q_t_site, .ref q_t_condition, .ref q_t_actions, .ref q_t_kind, .ref q_t_target, .ref q_t_first, .ref q_t_second, .ref q_t_failures, .ref q_t_met, .ref q_t_there, .ref q_t_on, .ref q_t_compared, .ref q_t_globals, .ref q_t_own, .ref q_t_records, .ref q_t_pile, .ref q_t_handed, .ref q_t_keys, .ref q_t_key, .ref q_t_count, .ref q_t_bins, .ref q_t_operator, .ref q_t_starts, .ref q_t_sum, .ref q_t_least, .ref q_t_greatest, .int t_newSite, .int t_newCondition, .int t_newActions, .int t_size, .int t_place, .int t_pos, .int t_at, .int t_operators, .int t_recorded, .int t_lost, .int t_dropped, .int t_firings, .int t_time, .int t_thread, .int u20, .int t_failed], zaD K q_t_handed 3 (vf_upd (vf_upd t_handed 0 x4) 1 x6), zaZ K q_t_there 6 t_there, zaZ K q_t_on 6 t_on, zaI K q_t_site 6 t_site, zaI K q_t_met 6 t_met, zaI K q_t_condition 6 t_condition, zaI K q_t_code 1400 t_code, zaD K q_t_pile 60 t_pile, zaD K q_t_globals 3 t_globals, zaD K q_t_own 12 t_own, zaI K q_t_actions 6 t_actions, zaI K q_t_kind 340 t_kind, zaI K q_t_second 340 t_second, zaD K q_t_records 6 t_records, zaI K q_t_target 340 t_target, zaI K q_t_keys 3 t_keys, zaI K q_t_key 12 t_key, zaD K q_t_sum 12 t_sum, zaD K q_t_least 12 t_least, zaD K q_t_greatest 12 t_greatest, zaI K q_t_count 12 t_count, zaI K q_t_bins 96 t_bins, zaI K q_t_first 340 t_first, zaI K q_t_failures 6 t_failures]) C 1 1 rfl rfl (zin_c (by decide)) rfl d_Mo_fire_72 ?_
        refine z_aload_n C d_Mo_fire_73 rfl 0 rfl ?_
        refine z_get C 0 rfl rfl in_Mo 18 (by decide) rfl wf_Mo_66 rfl d_Mo_fire_74 ?_
        refine z_iconst (v := (2 : Int32)) C d_Mo_fire_77 (by decide) ?_
        refine z_dload C d_Mo_fire_78 6 rfl ?_
        refine z_dast (ws' := [zo 6 q_t [.ref q_t_text, .ref q_t_code, .ref q_t_site, .ref q_t_condition, .ref q_t_actions, .ref q_t_kind, .ref q_t_target, .ref q_t_first, .ref q_t_second, .ref q_t_failures, .ref q_t_met, .ref q_t_there, .ref q_t_on, .ref q_t_compared, .ref q_t_globals, .ref q_t_own, .ref q_t_records, .ref q_t_pile, .ref q_t_handed, .ref q_t_keys, .ref q_t_key, .ref q_t_count, .ref q_t_bins, .ref q_t_operator, .ref q_t_starts, .ref q_t_sum, .ref q_t_least, .ref q_t_greatest, .int t_newSite, .int t_newCondition, .int t_newActions, .int t_size, .int t_place, .int t_pos, .int t_at, .int t_operators, .int t_recorded, .int t_lost, .int t_dropped, .int t_firings, .int t_time, .int t_thread, .int u20, .int t_failed], zaD K q_t_handed 3 (vf_upd (vf_upd (vf_upd t_handed 0 x4) 1 x6) 2 x8), zaZ K q_t_there 6 t_there, zaZ K q_t_on 6 t_on, zaI K q_t_site 6 t_site, zaI K q_t_met 6 t_met, zaI K q_t_condition 6 t_condition, zaI K q_t_code 1400 t_code, zaD K q_t_pile 60 t_pile, zaD K q_t_globals 3 t_globals, zaD K q_t_own 12 t_own, zaI K q_t_actions 6 t_actions, zaI K q_t_kind 340 t_kind, zaI K q_t_second 340 t_second, zaD K q_t_records 6 t_records, zaI K q_t_target 340 t_target, zaI K q_t_keys 3 t_keys, zaI K q_t_key 12 t_key, zaD K q_t_sum 12 t_sum, zaD K q_t_least 12 t_least, zaD K q_t_greatest 12 t_greatest, zaI K q_t_count 12 t_count, zaI K q_t_bins 96 t_bins, zaI K q_t_first 340 t_first, zaI K q_t_failures 6 t_failures]) C 1 1 rfl rfl (zin_c (by decide)) rfl d_Mo_fire_80 ?_
        refine z_aload_n C d_Mo_fire_81 rfl 0 rfl ?_
        refine z_iload_n C d_Mo_fire_82 rfl 3 rfl ?_
        refine z_put (ty := .int) (ws' := [zo 6 q_t [.ref q_t_text, .ref q_t_code, .ref q_t_site, .ref q_t_condition, .ref q_t_actions, .ref q_t_kind, .ref q_t_target, .ref q_t_first, .ref q_t_second, .ref q_t_failures, .ref q_t_met, .ref q_t_there, .ref q_t_on, .ref q_t_compared, .ref q_t_globals, .ref q_t_own, .ref q_t_records, .ref q_t_pile, .ref q_t_handed, .ref q_t_keys, .ref q_t_key, .ref q_t_count, .ref q_t_bins, .ref q_t_operator, .ref q_t_starts, .ref q_t_sum, .ref q_t_least, .ref q_t_greatest, .int t_newSite, .int t_newCondition, .int t_newActions, .int t_size, .int t_place, .int t_pos, .int t_at, .int t_operators, .int t_recorded, .int t_lost, .int t_dropped, .int t_firings, .int t_time, .int x3, .int u20, .int t_failed], zaD K q_t_handed 3 (vf_upd (vf_upd (vf_upd t_handed 0 x4) 1 x6) 2 x8), zaZ K q_t_there 6 t_there, zaZ K q_t_on 6 t_on, zaI K q_t_site 6 t_site, zaI K q_t_met 6 t_met, zaI K q_t_condition 6 t_condition, zaI K q_t_code 1400 t_code, zaD K q_t_pile 60 t_pile, zaD K q_t_globals 3 t_globals, zaD K q_t_own 12 t_own, zaI K q_t_actions 6 t_actions, zaI K q_t_kind 340 t_kind, zaI K q_t_second 340 t_second, zaD K q_t_records 6 t_records, zaI K q_t_target 340 t_target, zaI K q_t_keys 3 t_keys, zaI K q_t_key 12 t_key, zaD K q_t_sum 12 t_sum, zaD K q_t_least 12 t_least, zaD K q_t_greatest 12 t_greatest, zaI K q_t_count 12 t_count, zaI K q_t_bins 96 t_bins, zaI K q_t_first 340 t_first, zaI K q_t_failures 6 t_failures]) C ty_Mo to_Mo nm_Mo 0 rfl rfl in_Mo 41 (by decide) rfl wf_Mo_170 rfl rfl rfl rfl (Nat.le_of_ble_eq_true rfl) rfl d_Mo_fire_83 ?_
        refine z_iconst (v := (0 : Int32)) C d_Mo_fire_86 (by decide) ?_
        refine z_istore (lv' := [(10, .int (0 : Int32)), (0, .ref q_t), (1, .int x1), (2, .int x2), (3, .int x3), (4, .double x4), (6, .double x6), (8, .double x8)]) C d_Mo_fire_87 (by decide) rfl ?_
        refine z_iconst (v := (0 : Int32)) C d_Mo_fire_89 (by decide) ?_
        refine z_istore (lv' := [(11, .int (0 : Int32)), (10, .int (0 : Int32)), (0, .ref q_t), (1, .int x1), (2, .int x2), (3, .int x3), (4, .double x4), (6, .double x6), (8, .double x8)]) C d_Mo_fire_90 (by decide) rfl ?_
        refine z_iconst (v := (0 : Int32)) C d_Mo_fire_92 (by decide) ?_
        refine z_istore (lv' := [(12, .int (0 : Int32)), (11, .int (0 : Int32)), (10, .int (0 : Int32)), (0, .ref q_t), (1, .int x1), (2, .int x2), (3, .int x3), (4, .double x4), (6, .double x6), (8, .double x8)]) C d_Mo_fire_93 (by decide) rfl ?_
        refine z_lpick (lv' := [(0, .ref q_t), (1, .int x1), (2, .int x2), (3, .int x3), (4, .double x4), (6, .double x6), (8, .double x8), (10, .int (0 : Int32)), (11, .int (0 : Int32)), (12, .int (0 : Int32))]) [3, 4, 5, 6, 7, 8, 9, 2, 1, 0] rfl ?_
        exact lw_Mo_fire_L95 l D K q_t q_t_text q_t_code q_t_site q_t_condition q_t_actions q_t_kind q_t_target q_t_first q_t_second q_t_failures q_t_met q_t_there q_t_on q_t_compared q_t_globals q_t_own q_t_records q_t_pile q_t_handed q_t_keys q_t_key q_t_count q_t_bins q_t_operator q_t_starts q_t_sum q_t_least q_t_greatest t_newSite t_newCondition t_newActions t_size t_place t_pos t_at t_operators t_time t_there t_on t_site t_condition t_code t_actions t_kind t_second t_target t_first C hr hlk 600 x1 x2 x3 x4 x6 x8 (0 : Int32) (0 : Int32) (0 : Int32) t_recorded t_lost t_dropped t_firings x3 u20 t_failed (vf_upd (vf_upd (vf_upd t_handed 0 x4) 1 x6) 2 x8) t_met t_pile t_globals t_own t_records t_keys t_key t_sum t_least t_greatest t_count t_bins t_failures hS24
      · have hS24 := hS22.2 c23
        refine z_iconst (v := (0 : Int32)) C d_Mo_fire_55 (by decide) ?_
        exact z_iret C hr hlk (t_recorded, t_lost, t_dropped, t_firings, t_thread, u20, t_failed, t_handed, t_met, t_pile, t_globals, t_own, t_records, t_keys, t_key, t_sum, t_least, t_greatest, t_count, t_bins, t_failures) rfl hS24 d_Mo_fire_56
    · have hS18 := hS16.2 c17
      refine z_dload C d_Mo_fire_20 4 rfl ?_
      refine z_callSi (As := [.double x4]) (st := [.ref q_t]) (wr := [zo 6 q_t [.ref q_t_text, .ref q_t_code, .ref q_t_site, .ref q_t_condition, .ref q_t_actions, .ref q_t_kind, .ref q_t_target, .ref q_t_first, .ref q_t_second, .ref q_t_failures, .ref q_t_met, .ref q_t_there, .ref q_t_on, .ref q_t_compared, .ref q_t_globals, .ref q_t_own, .ref q_t_records, .ref q_t_pile, .ref q_t_handed, .ref q_t_keys, .ref q_t_key, .ref q_t_count, .ref q_t_bins, .ref q_t_operator, .ref q_t_starts, .ref q_t_sum, .ref q_t_least, .ref q_t_greatest, .int t_newSite, .int t_newCondition, .int t_newActions, .int t_size, .int t_place, .int t_pos, .int t_at, .int t_operators, .int t_recorded, .int t_lost, .int t_dropped, .int t_firings, .int t_time, .int t_thread, .int t_thrown, .int t_failed], zaD K q_t_handed 3 t_handed, zaZ K q_t_there 6 t_there, zaZ K q_t_on 6 t_on, zaI K q_t_site 6 t_site, zaI K q_t_met 6 t_met, zaI K q_t_condition 6 t_condition, zaI K q_t_code 1400 t_code, zaD K q_t_pile 60 t_pile, zaD K q_t_globals 3 t_globals, zaD K q_t_own 12 t_own, zaI K q_t_actions 6 t_actions, zaI K q_t_kind 340 t_kind, zaI K q_t_second 340 t_second, zaD K q_t_records 6 t_records, zaI K q_t_target 340 t_target, zaI K q_t_keys 3 t_keys, zaI K q_t_key 12 t_key, zaD K q_t_sum 12 t_sum, zaD K q_t_least 12 t_least, zaD K q_t_greatest 12 t_greatest, zaI K q_t_count 12 t_count, zaI K q_t_bins 96 t_bins, zaI K q_t_first 340 t_first, zaI K q_t_failures 6 t_failures]) (wj := fun u => [zo 6 q_t [.ref q_t_text, .ref q_t_code, .ref q_t_site, .ref q_t_condition, .ref q_t_actions, .ref q_t_kind, .ref q_t_target, .ref q_t_first, .ref q_t_second, .ref q_t_failures, .ref q_t_met, .ref q_t_there, .ref q_t_on, .ref q_t_compared, .ref q_t_globals, .ref q_t_own, .ref q_t_records, .ref q_t_pile, .ref q_t_handed, .ref q_t_keys, .ref q_t_key, .ref q_t_count, .ref q_t_bins, .ref q_t_operator, .ref q_t_starts, .ref q_t_sum, .ref q_t_least, .ref q_t_greatest, .int t_newSite, .int t_newCondition, .int t_newActions, .int t_size, .int t_place, .int t_pos, .int t_at, .int t_operators, .int t_recorded, .int t_lost, .int t_dropped, .int t_firings, .int t_time, .int t_thread, .int t_thrown, .int t_failed], zaD K q_t_handed 3 t_handed, zaZ K q_t_there 6 t_there, zaZ K q_t_on 6 t_on, zaI K q_t_site 6 t_site, zaI K q_t_met 6 t_met, zaI K q_t_condition 6 t_condition, zaI K q_t_code 1400 t_code, zaD K q_t_pile 60 t_pile, zaD K q_t_globals 3 t_globals, zaD K q_t_own 12 t_own, zaI K q_t_actions 6 t_actions, zaI K q_t_kind 340 t_kind, zaI K q_t_second 340 t_second, zaD K q_t_records 6 t_records, zaI K q_t_target 340 t_target, zaI K q_t_keys 3 t_keys, zaI K q_t_key 12 t_key, zaD K q_t_sum 12 t_sum, zaD K q_t_least 12 t_least, zaD K q_t_greatest 12 t_greatest, zaI K q_t_count 12 t_count, zaI K q_t_bins 96 t_bins, zaI K q_t_first 340 t_first, zaI K q_t_failures 6 t_failures]) C (c_Mo_fits l D K x4) (cwS 1 C.2.2.2.2.1 (z_gS wl_Mo_222 ws_Mo_fits wz_Mo wk_Mo_fits) rfl rfl rfl (by decide +kernel) ⟨Nat.le_of_ble_eq_true rfl, Nat.le_of_ble_eq_true rfl⟩) [] [0, 1, 2, 3, 4, 5, 6, 7, 8, 9, 10, 11, 12, 13, 14, 15, 16, 17, 18, 19, 20, 21, 22, 23, 24] [0, 1, 2, 3, 4, 5, 6, 7, 8, 9, 10, 11, 12, 13, 14, 15, 16, 17, 18, 19, 20, 21, 22, 23, 24] rfl rfl rfl rfl (by decide) (fun _ => rfl) rfl rfl rfl (Nat.le_of_ble_eq_true rfl) d_Mo_fire_22 ⟨Nat.le_of_ble_eq_true rfl, Nat.le_of_ble_eq_true rfl⟩ (fun r25 u26 e27 => ?_)
      have hS28 := hS18 r25 e27
      refine z_if_eq (tgt := 48) C d_Mo_fire_25 (by decide) (fun c29 => ?_) (fun c29 => ?_)
      · have hS30 := hS28.1 c29
        refine z_iconst (v := (0 : Int32)) C d_Mo_fire_48 (by decide) ?_
        refine z_callVi (As := [.int (0 : Int32)]) (b := q_t) (st := []) (wr := [zaD K q_t_handed 3 t_handed, zaZ K q_t_there 6 t_there, zaZ K q_t_on 6 t_on, zaI K q_t_site 6 t_site, zaI K q_t_met 6 t_met, zaI K q_t_condition 6 t_condition, zaI K q_t_code 1400 t_code, zaD K q_t_pile 60 t_pile, zaD K q_t_globals 3 t_globals, zaD K q_t_own 12 t_own, zaI K q_t_actions 6 t_actions, zaI K q_t_kind 340 t_kind, zaI K q_t_second 340 t_second, zaD K q_t_records 6 t_records, zaI K q_t_target 340 t_target, zaI K q_t_keys 3 t_keys, zaI K q_t_key 12 t_key, zaD K q_t_sum 12 t_sum, zaD K q_t_least 12 t_least, zaD K q_t_greatest 12 t_greatest, zaI K q_t_count 12 t_count, zaI K q_t_bins 96 t_bins, zaI K q_t_first 340 t_first, zaI K q_t_failures 6 t_failures]) (wj := fun u => [zo 6 q_t [.ref q_t_text, .ref q_t_code, .ref q_t_site, .ref q_t_condition, .ref q_t_actions, .ref q_t_kind, .ref q_t_target, .ref q_t_first, .ref q_t_second, .ref q_t_failures, .ref q_t_met, .ref q_t_there, .ref q_t_on, .ref q_t_compared, .ref q_t_globals, .ref q_t_own, .ref q_t_records, .ref q_t_pile, .ref q_t_handed, .ref q_t_keys, .ref q_t_key, .ref q_t_count, .ref q_t_bins, .ref q_t_operator, .ref q_t_starts, .ref q_t_sum, .ref q_t_least, .ref q_t_greatest, .int t_newSite, .int t_newCondition, .int t_newActions, .int t_size, .int t_place, .int t_pos, .int t_at, .int t_operators, .int t_recorded, .int t_lost, .int t_dropped, .int t_firings, .int t_time, .int t_thread, .int u, .int t_failed], zaD K q_t_handed 3 t_handed, zaZ K q_t_there 6 t_there, zaZ K q_t_on 6 t_on, zaI K q_t_site 6 t_site, zaI K q_t_met 6 t_met, zaI K q_t_condition 6 t_condition, zaI K q_t_code 1400 t_code, zaD K q_t_pile 60 t_pile, zaD K q_t_globals 3 t_globals, zaD K q_t_own 12 t_own, zaI K q_t_actions 6 t_actions, zaI K q_t_kind 340 t_kind, zaI K q_t_second 340 t_second, zaD K q_t_records 6 t_records, zaI K q_t_target 340 t_target, zaI K q_t_keys 3 t_keys, zaI K q_t_key 12 t_key, zaD K q_t_sum 12 t_sum, zaD K q_t_least 12 t_least, zaD K q_t_greatest 12 t_greatest, zaI K q_t_count 12 t_count, zaI K q_t_bins 96 t_bins, zaI K q_t_first 340 t_first, zaI K q_t_failures 6 t_failures]) C 0 rfl rfl (c_Mo_bad l D K q_t q_t_text q_t_code q_t_site q_t_condition q_t_actions q_t_kind q_t_target q_t_first q_t_second q_t_failures q_t_met q_t_there q_t_on q_t_compared q_t_globals q_t_own q_t_records q_t_pile q_t_handed q_t_keys q_t_key q_t_count q_t_bins q_t_operator q_t_starts q_t_sum q_t_least q_t_greatest t_newSite t_newCondition t_newActions t_size t_place t_pos t_at t_operators t_recorded t_lost t_dropped t_firings t_time t_thread t_thrown t_failed (0 : Int32)) (cwV 1 C.2.2.2.2.1 (z_gV wl_Mo_107 wi_Mo_bad wv_Mo_bad wz_Mo wk_Mo_bad) rfl rfl rfl (by decide +kernel) ⟨Nat.le_of_ble_eq_true rfl, Nat.le_of_ble_eq_true rfl⟩) [0] [1, 2, 3, 4, 5, 6, 7, 8, 9, 10, 11, 12, 13, 14, 15, 16, 17, 18, 19, 20, 21, 22, 23, 24] [24, 0, 1, 2, 3, 4, 5, 6, 7, 8, 9, 10, 11, 12, 13, 14, 15, 16, 17, 18, 19, 20, 21, 22, 23] rfl rfl rfl rfl (by decide) (fun _ => rfl) rfl rfl rfl (Nat.le_of_ble_eq_true rfl) d_Mo_fire_49 ⟨Nat.le_of_ble_eq_true rfl, Nat.le_of_ble_eq_true rfl⟩ (fun r31 u32 e33 => ?_)
        have hS34 := hS30 r31 u32 e33
        refine z_if_eq (tgt := 57) C d_Mo_fire_52 (by decide) (fun c35 => ?_) (fun c35 => ?_)
        · have hS36 := hS34.1 c35
          refine z_aload_n C d_Mo_fire_57 rfl 0 rfl ?_
          refine z_get C 0 rfl rfl in_Mo 18 (by decide) rfl wf_Mo_66 rfl d_Mo_fire_58 ?_
          refine z_iconst (v := (0 : Int32)) C d_Mo_fire_61 (by decide) ?_
          refine z_dload C d_Mo_fire_62 4 rfl ?_
          refine z_dast (ws' := [zo 6 q_t [.ref q_t_text, .ref q_t_code, .ref q_t_site, .ref q_t_condition, .ref q_t_actions, .ref q_t_kind, .ref q_t_target, .ref q_t_first, .ref q_t_second, .ref q_t_failures, .ref q_t_met, .ref q_t_there, .ref q_t_on, .ref q_t_compared, .ref q_t_globals, .ref q_t_own, .ref q_t_records, .ref q_t_pile, .ref q_t_handed, .ref q_t_keys, .ref q_t_key, .ref q_t_count, .ref q_t_bins, .ref q_t_operator, .ref q_t_starts, .ref q_t_sum, .ref q_t_least, .ref q_t_greatest, .int t_newSite, .int t_newCondition, .int t_newActions, .int t_size, .int t_place, .int t_pos, .int t_at, .int t_operators, .int t_recorded, .int t_lost, .int t_dropped, .int t_firings, .int t_time, .int t_thread, .int u32, .int t_failed], zaD K q_t_handed 3 (vf_upd t_handed 0 x4), zaZ K q_t_there 6 t_there, zaZ K q_t_on 6 t_on, zaI K q_t_site 6 t_site, zaI K q_t_met 6 t_met, zaI K q_t_condition 6 t_condition, zaI K q_t_code 1400 t_code, zaD K q_t_pile 60 t_pile, zaD K q_t_globals 3 t_globals, zaD K q_t_own 12 t_own, zaI K q_t_actions 6 t_actions, zaI K q_t_kind 340 t_kind, zaI K q_t_second 340 t_second, zaD K q_t_records 6 t_records, zaI K q_t_target 340 t_target, zaI K q_t_keys 3 t_keys, zaI K q_t_key 12 t_key, zaD K q_t_sum 12 t_sum, zaD K q_t_least 12 t_least, zaD K q_t_greatest 12 t_greatest, zaI K q_t_count 12 t_count, zaI K q_t_bins 96 t_bins, zaI K q_t_first 340 t_first, zaI K q_t_failures 6 t_failures]) C 1 1 rfl rfl (zin_c (by decide)) rfl d_Mo_fire_64 ?_
          refine z_aload_n C d_Mo_fire_65 rfl 0 rfl ?_
          refine z_get C 0 rfl rfl in_Mo 18 (by decide) rfl wf_Mo_66 rfl d_Mo_fire_66 ?_
          refine z_iconst (v := (1 : Int32)) C d_Mo_fire_69 (by decide) ?_
          refine z_dload C d_Mo_fire_70 5 rfl ?_
          refine z_dast (ws' := [zo 6 q_t [.ref q_t_text, .ref q_t_code, .ref q_t_site, .ref q_t_condition, .ref q_t_actions, .ref q_t_kind, .ref q_t_target, .ref q_t_first, .ref q_t_second, .ref q_t_failures, .ref q_t_met, .ref q_t_there, .ref q_t_on, .ref q_t_compared, .ref q_t_globals, .ref q_t_own, .ref q_t_records, .ref q_t_pile, .ref q_t_handed, .ref q_t_keys, .ref q_t_key, .ref q_t_count, .ref q_t_bins, .ref q_t_operator, .ref q_t_starts, .ref q_t_sum, .ref q_t_least, .ref q_t_greatest, .int t_newSite, .int t_newCondition, .int t_newActions, .int t_size, .int t_place, .int t_pos, .int t_at, .int t_operators, .int t_recorded, .int t_lost, .int t_dropped, .int t_firings, .int t_time, .int t_thread, .int u32, .int t_failed], zaD K q_t_handed 3 (vf_upd (vf_upd t_handed 0 x4) 1 x6), zaZ K q_t_there 6 t_there, zaZ K q_t_on 6 t_on, zaI K q_t_site 6 t_site, zaI K q_t_met 6 t_met, zaI K q_t_condition 6 t_condition, zaI K q_t_code 1400 t_code, zaD K q_t_pile 60 t_pile, zaD K q_t_globals 3 t_globals, zaD K q_t_own 12 t_own, zaI K q_t_actions 6 t_actions, zaI K q_t_kind 340 t_kind, zaI K q_t_second 340 t_second, zaD K q_t_records 6 t_records, zaI K q_t_target 340 t_target, zaI K q_t_keys 3 t_keys, zaI K q_t_key 12 t_key, zaD K q_t_sum 12 t_sum, zaD K q_t_least 12 t_least, zaD K q_t_greatest 12 t_greatest, zaI K q_t_count 12 t_count, zaI K q_t_bins 96 t_bins, zaI K q_t_first 340 t_first, zaI K q_t_failures 6 t_failures]) C 1 1 rfl rfl (zin_c (by decide)) rfl d_Mo_fire_72 ?_
          refine z_aload_n C d_Mo_fire_73 rfl 0 rfl ?_
          refine z_get C 0 rfl rfl in_Mo 18 (by decide) rfl wf_Mo_66 rfl d_Mo_fire_74 ?_
          refine z_iconst (v := (2 : Int32)) C d_Mo_fire_77 (by decide) ?_
          refine z_dload C d_Mo_fire_78 6 rfl ?_
          refine z_dast (ws' := [zo 6 q_t [.ref q_t_text, .ref q_t_code, .ref q_t_site, .ref q_t_condition, .ref q_t_actions, .ref q_t_kind, .ref q_t_target, .ref q_t_first, .ref q_t_second, .ref q_t_failures, .ref q_t_met, .ref q_t_there, .ref q_t_on, .ref q_t_compared, .ref q_t_globals, .ref q_t_own, .ref q_t_records, .ref q_t_pile, .ref q_t_handed, .ref q_t_keys, .ref q_t_key, .ref q_t_count, .ref q_t_bins, .ref q_t_operator, .ref q_t_starts, .ref q_t_sum, .ref q_t_least, .ref q_t_greatest, .int t_newSite, .int t_newCondition, .int t_newActions, .int t_size, .int t_place, .int t_pos, .int t_at, .int t_operators, .int t_recorded, .int t_lost, .int t_dropped, .int t_firings, .int t_time, .int t_thread, .int u32, .int t_failed], zaD K q_t_handed 3 (vf_upd (vf_upd (vf_upd t_handed 0 x4) 1 x6) 2 x8), zaZ K q_t_there 6 t_there, zaZ K q_t_on 6 t_on, zaI K q_t_site 6 t_site, zaI K q_t_met 6 t_met, zaI K q_t_condition 6 t_condition, zaI K q_t_code 1400 t_code, zaD K q_t_pile 60 t_pile, zaD K q_t_globals 3 t_globals, zaD K q_t_own 12 t_own, zaI K q_t_actions 6 t_actions, zaI K q_t_kind 340 t_kind, zaI K q_t_second 340 t_second, zaD K q_t_records 6 t_records, zaI K q_t_target 340 t_target, zaI K q_t_keys 3 t_keys, zaI K q_t_key 12 t_key, zaD K q_t_sum 12 t_sum, zaD K q_t_least 12 t_least, zaD K q_t_greatest 12 t_greatest, zaI K q_t_count 12 t_count, zaI K q_t_bins 96 t_bins, zaI K q_t_first 340 t_first, zaI K q_t_failures 6 t_failures]) C 1 1 rfl rfl (zin_c (by decide)) rfl d_Mo_fire_80 ?_
          refine z_aload_n C d_Mo_fire_81 rfl 0 rfl ?_
          refine z_iload_n C d_Mo_fire_82 rfl 3 rfl ?_
          refine z_put (ty := .int) (ws' := [zo 6 q_t [.ref q_t_text, .ref q_t_code, .ref q_t_site, .ref q_t_condition, .ref q_t_actions, .ref q_t_kind, .ref q_t_target, .ref q_t_first, .ref q_t_second, .ref q_t_failures, .ref q_t_met, .ref q_t_there, .ref q_t_on, .ref q_t_compared, .ref q_t_globals, .ref q_t_own, .ref q_t_records, .ref q_t_pile, .ref q_t_handed, .ref q_t_keys, .ref q_t_key, .ref q_t_count, .ref q_t_bins, .ref q_t_operator, .ref q_t_starts, .ref q_t_sum, .ref q_t_least, .ref q_t_greatest, .int t_newSite, .int t_newCondition, .int t_newActions, .int t_size, .int t_place, .int t_pos, .int t_at, .int t_operators, .int t_recorded, .int t_lost, .int t_dropped, .int t_firings, .int t_time, .int x3, .int u32, .int t_failed], zaD K q_t_handed 3 (vf_upd (vf_upd (vf_upd t_handed 0 x4) 1 x6) 2 x8), zaZ K q_t_there 6 t_there, zaZ K q_t_on 6 t_on, zaI K q_t_site 6 t_site, zaI K q_t_met 6 t_met, zaI K q_t_condition 6 t_condition, zaI K q_t_code 1400 t_code, zaD K q_t_pile 60 t_pile, zaD K q_t_globals 3 t_globals, zaD K q_t_own 12 t_own, zaI K q_t_actions 6 t_actions, zaI K q_t_kind 340 t_kind, zaI K q_t_second 340 t_second, zaD K q_t_records 6 t_records, zaI K q_t_target 340 t_target, zaI K q_t_keys 3 t_keys, zaI K q_t_key 12 t_key, zaD K q_t_sum 12 t_sum, zaD K q_t_least 12 t_least, zaD K q_t_greatest 12 t_greatest, zaI K q_t_count 12 t_count, zaI K q_t_bins 96 t_bins, zaI K q_t_first 340 t_first, zaI K q_t_failures 6 t_failures]) C ty_Mo to_Mo nm_Mo 0 rfl rfl in_Mo 41 (by decide) rfl wf_Mo_170 rfl rfl rfl rfl (Nat.le_of_ble_eq_true rfl) rfl d_Mo_fire_83 ?_
          refine z_iconst (v := (0 : Int32)) C d_Mo_fire_86 (by decide) ?_
          refine z_istore (lv' := [(10, .int (0 : Int32)), (0, .ref q_t), (1, .int x1), (2, .int x2), (3, .int x3), (4, .double x4), (6, .double x6), (8, .double x8)]) C d_Mo_fire_87 (by decide) rfl ?_
          refine z_iconst (v := (0 : Int32)) C d_Mo_fire_89 (by decide) ?_
          refine z_istore (lv' := [(11, .int (0 : Int32)), (10, .int (0 : Int32)), (0, .ref q_t), (1, .int x1), (2, .int x2), (3, .int x3), (4, .double x4), (6, .double x6), (8, .double x8)]) C d_Mo_fire_90 (by decide) rfl ?_
          refine z_iconst (v := (0 : Int32)) C d_Mo_fire_92 (by decide) ?_
          refine z_istore (lv' := [(12, .int (0 : Int32)), (11, .int (0 : Int32)), (10, .int (0 : Int32)), (0, .ref q_t), (1, .int x1), (2, .int x2), (3, .int x3), (4, .double x4), (6, .double x6), (8, .double x8)]) C d_Mo_fire_93 (by decide) rfl ?_
          refine z_lpick (lv' := [(0, .ref q_t), (1, .int x1), (2, .int x2), (3, .int x3), (4, .double x4), (6, .double x6), (8, .double x8), (10, .int (0 : Int32)), (11, .int (0 : Int32)), (12, .int (0 : Int32))]) [3, 4, 5, 6, 7, 8, 9, 2, 1, 0] rfl ?_
          exact lw_Mo_fire_L95 l D K q_t q_t_text q_t_code q_t_site q_t_condition q_t_actions q_t_kind q_t_target q_t_first q_t_second q_t_failures q_t_met q_t_there q_t_on q_t_compared q_t_globals q_t_own q_t_records q_t_pile q_t_handed q_t_keys q_t_key q_t_count q_t_bins q_t_operator q_t_starts q_t_sum q_t_least q_t_greatest t_newSite t_newCondition t_newActions t_size t_place t_pos t_at t_operators t_time t_there t_on t_site t_condition t_code t_actions t_kind t_second t_target t_first C hr hlk 600 x1 x2 x3 x4 x6 x8 (0 : Int32) (0 : Int32) (0 : Int32) t_recorded t_lost t_dropped t_firings x3 u32 t_failed (vf_upd (vf_upd (vf_upd t_handed 0 x4) 1 x6) 2 x8) t_met t_pile t_globals t_own t_records t_keys t_key t_sum t_least t_greatest t_count t_bins t_failures hS36
        · have hS36 := hS34.2 c35
          refine z_iconst (v := (0 : Int32)) C d_Mo_fire_55 (by decide) ?_
          exact z_iret C hr hlk (t_recorded, t_lost, t_dropped, t_firings, t_thread, u32, t_failed, t_handed, t_met, t_pile, t_globals, t_own, t_records, t_keys, t_key, t_sum, t_least, t_greatest, t_count, t_bins, t_failures) rfl hS36 d_Mo_fire_56
      · have hS30 := hS28.2 c29
        refine z_dload C d_Mo_fire_28 5 rfl ?_
        refine z_callSi (As := [.double x6]) (st := [.ref q_t]) (wr := [zo 6 q_t [.ref q_t_text, .ref q_t_code, .ref q_t_site, .ref q_t_condition, .ref q_t_actions, .ref q_t_kind, .ref q_t_target, .ref q_t_first, .ref q_t_second, .ref q_t_failures, .ref q_t_met, .ref q_t_there, .ref q_t_on, .ref q_t_compared, .ref q_t_globals, .ref q_t_own, .ref q_t_records, .ref q_t_pile, .ref q_t_handed, .ref q_t_keys, .ref q_t_key, .ref q_t_count, .ref q_t_bins, .ref q_t_operator, .ref q_t_starts, .ref q_t_sum, .ref q_t_least, .ref q_t_greatest, .int t_newSite, .int t_newCondition, .int t_newActions, .int t_size, .int t_place, .int t_pos, .int t_at, .int t_operators, .int t_recorded, .int t_lost, .int t_dropped, .int t_firings, .int t_time, .int t_thread, .int t_thrown, .int t_failed], zaD K q_t_handed 3 t_handed, zaZ K q_t_there 6 t_there, zaZ K q_t_on 6 t_on, zaI K q_t_site 6 t_site, zaI K q_t_met 6 t_met, zaI K q_t_condition 6 t_condition, zaI K q_t_code 1400 t_code, zaD K q_t_pile 60 t_pile, zaD K q_t_globals 3 t_globals, zaD K q_t_own 12 t_own, zaI K q_t_actions 6 t_actions, zaI K q_t_kind 340 t_kind, zaI K q_t_second 340 t_second, zaD K q_t_records 6 t_records, zaI K q_t_target 340 t_target, zaI K q_t_keys 3 t_keys, zaI K q_t_key 12 t_key, zaD K q_t_sum 12 t_sum, zaD K q_t_least 12 t_least, zaD K q_t_greatest 12 t_greatest, zaI K q_t_count 12 t_count, zaI K q_t_bins 96 t_bins, zaI K q_t_first 340 t_first, zaI K q_t_failures 6 t_failures]) (wj := fun u => [zo 6 q_t [.ref q_t_text, .ref q_t_code, .ref q_t_site, .ref q_t_condition, .ref q_t_actions, .ref q_t_kind, .ref q_t_target, .ref q_t_first, .ref q_t_second, .ref q_t_failures, .ref q_t_met, .ref q_t_there, .ref q_t_on, .ref q_t_compared, .ref q_t_globals, .ref q_t_own, .ref q_t_records, .ref q_t_pile, .ref q_t_handed, .ref q_t_keys, .ref q_t_key, .ref q_t_count, .ref q_t_bins, .ref q_t_operator, .ref q_t_starts, .ref q_t_sum, .ref q_t_least, .ref q_t_greatest, .int t_newSite, .int t_newCondition, .int t_newActions, .int t_size, .int t_place, .int t_pos, .int t_at, .int t_operators, .int t_recorded, .int t_lost, .int t_dropped, .int t_firings, .int t_time, .int t_thread, .int t_thrown, .int t_failed], zaD K q_t_handed 3 t_handed, zaZ K q_t_there 6 t_there, zaZ K q_t_on 6 t_on, zaI K q_t_site 6 t_site, zaI K q_t_met 6 t_met, zaI K q_t_condition 6 t_condition, zaI K q_t_code 1400 t_code, zaD K q_t_pile 60 t_pile, zaD K q_t_globals 3 t_globals, zaD K q_t_own 12 t_own, zaI K q_t_actions 6 t_actions, zaI K q_t_kind 340 t_kind, zaI K q_t_second 340 t_second, zaD K q_t_records 6 t_records, zaI K q_t_target 340 t_target, zaI K q_t_keys 3 t_keys, zaI K q_t_key 12 t_key, zaD K q_t_sum 12 t_sum, zaD K q_t_least 12 t_least, zaD K q_t_greatest 12 t_greatest, zaI K q_t_count 12 t_count, zaI K q_t_bins 96 t_bins, zaI K q_t_first 340 t_first, zaI K q_t_failures 6 t_failures]) C (c_Mo_fits l D K x6) (cwS 1 C.2.2.2.2.1 (z_gS wl_Mo_222 ws_Mo_fits wz_Mo wk_Mo_fits) rfl rfl rfl (by decide +kernel) ⟨Nat.le_of_ble_eq_true rfl, Nat.le_of_ble_eq_true rfl⟩) [] [0, 1, 2, 3, 4, 5, 6, 7, 8, 9, 10, 11, 12, 13, 14, 15, 16, 17, 18, 19, 20, 21, 22, 23, 24] [0, 1, 2, 3, 4, 5, 6, 7, 8, 9, 10, 11, 12, 13, 14, 15, 16, 17, 18, 19, 20, 21, 22, 23, 24] rfl rfl rfl rfl (by decide) (fun _ => rfl) rfl rfl rfl (Nat.le_of_ble_eq_true rfl) d_Mo_fire_30 ⟨Nat.le_of_ble_eq_true rfl, Nat.le_of_ble_eq_true rfl⟩ (fun r37 u38 e39 => ?_)
        have hS40 := hS30 r37 e39
        refine z_if_eq (tgt := 48) C d_Mo_fire_33 (by decide) (fun c41 => ?_) (fun c41 => ?_)
        · have hS42 := hS40.1 c41
          refine z_iconst (v := (0 : Int32)) C d_Mo_fire_48 (by decide) ?_
          refine z_callVi (As := [.int (0 : Int32)]) (b := q_t) (st := []) (wr := [zaD K q_t_handed 3 t_handed, zaZ K q_t_there 6 t_there, zaZ K q_t_on 6 t_on, zaI K q_t_site 6 t_site, zaI K q_t_met 6 t_met, zaI K q_t_condition 6 t_condition, zaI K q_t_code 1400 t_code, zaD K q_t_pile 60 t_pile, zaD K q_t_globals 3 t_globals, zaD K q_t_own 12 t_own, zaI K q_t_actions 6 t_actions, zaI K q_t_kind 340 t_kind, zaI K q_t_second 340 t_second, zaD K q_t_records 6 t_records, zaI K q_t_target 340 t_target, zaI K q_t_keys 3 t_keys, zaI K q_t_key 12 t_key, zaD K q_t_sum 12 t_sum, zaD K q_t_least 12 t_least, zaD K q_t_greatest 12 t_greatest, zaI K q_t_count 12 t_count, zaI K q_t_bins 96 t_bins, zaI K q_t_first 340 t_first, zaI K q_t_failures 6 t_failures]) (wj := fun u => [zo 6 q_t [.ref q_t_text, .ref q_t_code, .ref q_t_site, .ref q_t_condition, .ref q_t_actions, .ref q_t_kind, .ref q_t_target, .ref q_t_first, .ref q_t_second, .ref q_t_failures, .ref q_t_met, .ref q_t_there, .ref q_t_on, .ref q_t_compared, .ref q_t_globals, .ref q_t_own, .ref q_t_records, .ref q_t_pile, .ref q_t_handed, .ref q_t_keys, .ref q_t_key, .ref q_t_count, .ref q_t_bins, .ref q_t_operator, .ref q_t_starts, .ref q_t_sum, .ref q_t_least, .ref q_t_greatest, .int t_newSite, .int t_newCondition, .int t_newActions, .int t_size, .int t_place, .int t_pos, .int t_at, .int t_operators, .int t_recorded, .int t_lost, .int t_dropped, .int t_firings, .int t_time, .int t_thread, .int u, .int t_failed], zaD K q_t_handed 3 t_handed, zaZ K q_t_there 6 t_there, zaZ K q_t_on 6 t_on, zaI K q_t_site 6 t_site, zaI K q_t_met 6 t_met, zaI K q_t_condition 6 t_condition, zaI K q_t_code 1400 t_code, zaD K q_t_pile 60 t_pile, zaD K q_t_globals 3 t_globals, zaD K q_t_own 12 t_own, zaI K q_t_actions 6 t_actions, zaI K q_t_kind 340 t_kind, zaI K q_t_second 340 t_second, zaD K q_t_records 6 t_records, zaI K q_t_target 340 t_target, zaI K q_t_keys 3 t_keys, zaI K q_t_key 12 t_key, zaD K q_t_sum 12 t_sum, zaD K q_t_least 12 t_least, zaD K q_t_greatest 12 t_greatest, zaI K q_t_count 12 t_count, zaI K q_t_bins 96 t_bins, zaI K q_t_first 340 t_first, zaI K q_t_failures 6 t_failures]) C 0 rfl rfl (c_Mo_bad l D K q_t q_t_text q_t_code q_t_site q_t_condition q_t_actions q_t_kind q_t_target q_t_first q_t_second q_t_failures q_t_met q_t_there q_t_on q_t_compared q_t_globals q_t_own q_t_records q_t_pile q_t_handed q_t_keys q_t_key q_t_count q_t_bins q_t_operator q_t_starts q_t_sum q_t_least q_t_greatest t_newSite t_newCondition t_newActions t_size t_place t_pos t_at t_operators t_recorded t_lost t_dropped t_firings t_time t_thread t_thrown t_failed (0 : Int32)) (cwV 1 C.2.2.2.2.1 (z_gV wl_Mo_107 wi_Mo_bad wv_Mo_bad wz_Mo wk_Mo_bad) rfl rfl rfl (by decide +kernel) ⟨Nat.le_of_ble_eq_true rfl, Nat.le_of_ble_eq_true rfl⟩) [0] [1, 2, 3, 4, 5, 6, 7, 8, 9, 10, 11, 12, 13, 14, 15, 16, 17, 18, 19, 20, 21, 22, 23, 24] [24, 0, 1, 2, 3, 4, 5, 6, 7, 8, 9, 10, 11, 12, 13, 14, 15, 16, 17, 18, 19, 20, 21, 22, 23] rfl rfl rfl rfl (by decide) (fun _ => rfl) rfl rfl rfl (Nat.le_of_ble_eq_true rfl) d_Mo_fire_49 ⟨Nat.le_of_ble_eq_true rfl, Nat.le_of_ble_eq_true rfl⟩ (fun r43 u44 e45 => ?_)
          have hS46 := hS42 r43 u44 e45
          refine z_if_eq (tgt := 57) C d_Mo_fire_52 (by decide) (fun c47 => ?_) (fun c47 => ?_)
          · have hS48 := hS46.1 c47
            refine z_aload_n C d_Mo_fire_57 rfl 0 rfl ?_
            refine z_get C 0 rfl rfl in_Mo 18 (by decide) rfl wf_Mo_66 rfl d_Mo_fire_58 ?_
            refine z_iconst (v := (0 : Int32)) C d_Mo_fire_61 (by decide) ?_
            refine z_dload C d_Mo_fire_62 4 rfl ?_
            refine z_dast (ws' := [zo 6 q_t [.ref q_t_text, .ref q_t_code, .ref q_t_site, .ref q_t_condition, .ref q_t_actions, .ref q_t_kind, .ref q_t_target, .ref q_t_first, .ref q_t_second, .ref q_t_failures, .ref q_t_met, .ref q_t_there, .ref q_t_on, .ref q_t_compared, .ref q_t_globals, .ref q_t_own, .ref q_t_records, .ref q_t_pile, .ref q_t_handed, .ref q_t_keys, .ref q_t_key, .ref q_t_count, .ref q_t_bins, .ref q_t_operator, .ref q_t_starts, .ref q_t_sum, .ref q_t_least, .ref q_t_greatest, .int t_newSite, .int t_newCondition, .int t_newActions, .int t_size, .int t_place, .int t_pos, .int t_at, .int t_operators, .int t_recorded, .int t_lost, .int t_dropped, .int t_firings, .int t_time, .int t_thread, .int u44, .int t_failed], zaD K q_t_handed 3 (vf_upd t_handed 0 x4), zaZ K q_t_there 6 t_there, zaZ K q_t_on 6 t_on, zaI K q_t_site 6 t_site, zaI K q_t_met 6 t_met, zaI K q_t_condition 6 t_condition, zaI K q_t_code 1400 t_code, zaD K q_t_pile 60 t_pile, zaD K q_t_globals 3 t_globals, zaD K q_t_own 12 t_own, zaI K q_t_actions 6 t_actions, zaI K q_t_kind 340 t_kind, zaI K q_t_second 340 t_second, zaD K q_t_records 6 t_records, zaI K q_t_target 340 t_target, zaI K q_t_keys 3 t_keys, zaI K q_t_key 12 t_key, zaD K q_t_sum 12 t_sum, zaD K q_t_least 12 t_least, zaD K q_t_greatest 12 t_greatest, zaI K q_t_count 12 t_count, zaI K q_t_bins 96 t_bins, zaI K q_t_first 340 t_first, zaI K q_t_failures 6 t_failures]) C 1 1 rfl rfl (zin_c (by decide)) rfl d_Mo_fire_64 ?_
            refine z_aload_n C d_Mo_fire_65 rfl 0 rfl ?_
            refine z_get C 0 rfl rfl in_Mo 18 (by decide) rfl wf_Mo_66 rfl d_Mo_fire_66 ?_
            refine z_iconst (v := (1 : Int32)) C d_Mo_fire_69 (by decide) ?_
            refine z_dload C d_Mo_fire_70 5 rfl ?_
            refine z_dast (ws' := [zo 6 q_t [.ref q_t_text, .ref q_t_code, .ref q_t_site, .ref q_t_condition, .ref q_t_actions, .ref q_t_kind, .ref q_t_target, .ref q_t_first, .ref q_t_second, .ref q_t_failures, .ref q_t_met, .ref q_t_there, .ref q_t_on, .ref q_t_compared, .ref q_t_globals, .ref q_t_own, .ref q_t_records, .ref q_t_pile, .ref q_t_handed, .ref q_t_keys, .ref q_t_key, .ref q_t_count, .ref q_t_bins, .ref q_t_operator, .ref q_t_starts, .ref q_t_sum, .ref q_t_least, .ref q_t_greatest, .int t_newSite, .int t_newCondition, .int t_newActions, .int t_size, .int t_place, .int t_pos, .int t_at, .int t_operators, .int t_recorded, .int t_lost, .int t_dropped, .int t_firings, .int t_time, .int t_thread, .int u44, .int t_failed], zaD K q_t_handed 3 (vf_upd (vf_upd t_handed 0 x4) 1 x6), zaZ K q_t_there 6 t_there, zaZ K q_t_on 6 t_on, zaI K q_t_site 6 t_site, zaI K q_t_met 6 t_met, zaI K q_t_condition 6 t_condition, zaI K q_t_code 1400 t_code, zaD K q_t_pile 60 t_pile, zaD K q_t_globals 3 t_globals, zaD K q_t_own 12 t_own, zaI K q_t_actions 6 t_actions, zaI K q_t_kind 340 t_kind, zaI K q_t_second 340 t_second, zaD K q_t_records 6 t_records, zaI K q_t_target 340 t_target, zaI K q_t_keys 3 t_keys, zaI K q_t_key 12 t_key, zaD K q_t_sum 12 t_sum, zaD K q_t_least 12 t_least, zaD K q_t_greatest 12 t_greatest, zaI K q_t_count 12 t_count, zaI K q_t_bins 96 t_bins, zaI K q_t_first 340 t_first, zaI K q_t_failures 6 t_failures]) C 1 1 rfl rfl (zin_c (by decide)) rfl d_Mo_fire_72 ?_
            refine z_aload_n C d_Mo_fire_73 rfl 0 rfl ?_
            refine z_get C 0 rfl rfl in_Mo 18 (by decide) rfl wf_Mo_66 rfl d_Mo_fire_74 ?_
            refine z_iconst (v := (2 : Int32)) C d_Mo_fire_77 (by decide) ?_
            refine z_dload C d_Mo_fire_78 6 rfl ?_
            refine z_dast (ws' := [zo 6 q_t [.ref q_t_text, .ref q_t_code, .ref q_t_site, .ref q_t_condition, .ref q_t_actions, .ref q_t_kind, .ref q_t_target, .ref q_t_first, .ref q_t_second, .ref q_t_failures, .ref q_t_met, .ref q_t_there, .ref q_t_on, .ref q_t_compared, .ref q_t_globals, .ref q_t_own, .ref q_t_records, .ref q_t_pile, .ref q_t_handed, .ref q_t_keys, .ref q_t_key, .ref q_t_count, .ref q_t_bins, .ref q_t_operator, .ref q_t_starts, .ref q_t_sum, .ref q_t_least, .ref q_t_greatest, .int t_newSite, .int t_newCondition, .int t_newActions, .int t_size, .int t_place, .int t_pos, .int t_at, .int t_operators, .int t_recorded, .int t_lost, .int t_dropped, .int t_firings, .int t_time, .int t_thread, .int u44, .int t_failed], zaD K q_t_handed 3 (vf_upd (vf_upd (vf_upd t_handed 0 x4) 1 x6) 2 x8), zaZ K q_t_there 6 t_there, zaZ K q_t_on 6 t_on, zaI K q_t_site 6 t_site, zaI K q_t_met 6 t_met, zaI K q_t_condition 6 t_condition, zaI K q_t_code 1400 t_code, zaD K q_t_pile 60 t_pile, zaD K q_t_globals 3 t_globals, zaD K q_t_own 12 t_own, zaI K q_t_actions 6 t_actions, zaI K q_t_kind 340 t_kind, zaI K q_t_second 340 t_second, zaD K q_t_records 6 t_records, zaI K q_t_target 340 t_target, zaI K q_t_keys 3 t_keys, zaI K q_t_key 12 t_key, zaD K q_t_sum 12 t_sum, zaD K q_t_least 12 t_least, zaD K q_t_greatest 12 t_greatest, zaI K q_t_count 12 t_count, zaI K q_t_bins 96 t_bins, zaI K q_t_first 340 t_first, zaI K q_t_failures 6 t_failures]) C 1 1 rfl rfl (zin_c (by decide)) rfl d_Mo_fire_80 ?_
            refine z_aload_n C d_Mo_fire_81 rfl 0 rfl ?_
            refine z_iload_n C d_Mo_fire_82 rfl 3 rfl ?_
            refine z_put (ty := .int) (ws' := [zo 6 q_t [.ref q_t_text, .ref q_t_code, .ref q_t_site, .ref q_t_condition, .ref q_t_actions, .ref q_t_kind, .ref q_t_target, .ref q_t_first, .ref q_t_second, .ref q_t_failures, .ref q_t_met, .ref q_t_there, .ref q_t_on, .ref q_t_compared, .ref q_t_globals, .ref q_t_own, .ref q_t_records, .ref q_t_pile, .ref q_t_handed, .ref q_t_keys, .ref q_t_key, .ref q_t_count, .ref q_t_bins, .ref q_t_operator, .ref q_t_starts, .ref q_t_sum, .ref q_t_least, .ref q_t_greatest, .int t_newSite, .int t_newCondition, .int t_newActions, .int t_size, .int t_place, .int t_pos, .int t_at, .int t_operators, .int t_recorded, .int t_lost, .int t_dropped, .int t_firings, .int t_time, .int x3, .int u44, .int t_failed], zaD K q_t_handed 3 (vf_upd (vf_upd (vf_upd t_handed 0 x4) 1 x6) 2 x8), zaZ K q_t_there 6 t_there, zaZ K q_t_on 6 t_on, zaI K q_t_site 6 t_site, zaI K q_t_met 6 t_met, zaI K q_t_condition 6 t_condition, zaI K q_t_code 1400 t_code, zaD K q_t_pile 60 t_pile, zaD K q_t_globals 3 t_globals, zaD K q_t_own 12 t_own, zaI K q_t_actions 6 t_actions, zaI K q_t_kind 340 t_kind, zaI K q_t_second 340 t_second, zaD K q_t_records 6 t_records, zaI K q_t_target 340 t_target, zaI K q_t_keys 3 t_keys, zaI K q_t_key 12 t_key, zaD K q_t_sum 12 t_sum, zaD K q_t_least 12 t_least, zaD K q_t_greatest 12 t_greatest, zaI K q_t_count 12 t_count, zaI K q_t_bins 96 t_bins, zaI K q_t_first 340 t_first, zaI K q_t_failures 6 t_failures]) C ty_Mo to_Mo nm_Mo 0 rfl rfl in_Mo 41 (by decide) rfl wf_Mo_170 rfl rfl rfl rfl (Nat.le_of_ble_eq_true rfl) rfl d_Mo_fire_83 ?_
            refine z_iconst (v := (0 : Int32)) C d_Mo_fire_86 (by decide) ?_
            refine z_istore (lv' := [(10, .int (0 : Int32)), (0, .ref q_t), (1, .int x1), (2, .int x2), (3, .int x3), (4, .double x4), (6, .double x6), (8, .double x8)]) C d_Mo_fire_87 (by decide) rfl ?_
            refine z_iconst (v := (0 : Int32)) C d_Mo_fire_89 (by decide) ?_
            refine z_istore (lv' := [(11, .int (0 : Int32)), (10, .int (0 : Int32)), (0, .ref q_t), (1, .int x1), (2, .int x2), (3, .int x3), (4, .double x4), (6, .double x6), (8, .double x8)]) C d_Mo_fire_90 (by decide) rfl ?_
            refine z_iconst (v := (0 : Int32)) C d_Mo_fire_92 (by decide) ?_
            refine z_istore (lv' := [(12, .int (0 : Int32)), (11, .int (0 : Int32)), (10, .int (0 : Int32)), (0, .ref q_t), (1, .int x1), (2, .int x2), (3, .int x3), (4, .double x4), (6, .double x6), (8, .double x8)]) C d_Mo_fire_93 (by decide) rfl ?_
            refine z_lpick (lv' := [(0, .ref q_t), (1, .int x1), (2, .int x2), (3, .int x3), (4, .double x4), (6, .double x6), (8, .double x8), (10, .int (0 : Int32)), (11, .int (0 : Int32)), (12, .int (0 : Int32))]) [3, 4, 5, 6, 7, 8, 9, 2, 1, 0] rfl ?_
            exact lw_Mo_fire_L95 l D K q_t q_t_text q_t_code q_t_site q_t_condition q_t_actions q_t_kind q_t_target q_t_first q_t_second q_t_failures q_t_met q_t_there q_t_on q_t_compared q_t_globals q_t_own q_t_records q_t_pile q_t_handed q_t_keys q_t_key q_t_count q_t_bins q_t_operator q_t_starts q_t_sum q_t_least q_t_greatest t_newSite t_newCondition t_newActions t_size t_place t_pos t_at t_operators t_time t_there t_on t_site t_condition t_code t_actions t_kind t_second t_target t_first C hr hlk 600 x1 x2 x3 x4 x6 x8 (0 : Int32) (0 : Int32) (0 : Int32) t_recorded t_lost t_dropped t_firings x3 u44 t_failed (vf_upd (vf_upd (vf_upd t_handed 0 x4) 1 x6) 2 x8) t_met t_pile t_globals t_own t_records t_keys t_key t_sum t_least t_greatest t_count t_bins t_failures hS48
          · have hS48 := hS46.2 c47
            refine z_iconst (v := (0 : Int32)) C d_Mo_fire_55 (by decide) ?_
            exact z_iret C hr hlk (t_recorded, t_lost, t_dropped, t_firings, t_thread, u44, t_failed, t_handed, t_met, t_pile, t_globals, t_own, t_records, t_keys, t_key, t_sum, t_least, t_greatest, t_count, t_bins, t_failures) rfl hS48 d_Mo_fire_56
        · have hS42 := hS40.2 c41
          refine z_dload C d_Mo_fire_36 6 rfl ?_
          refine z_callSi (As := [.double x8]) (st := [.ref q_t]) (wr := [zo 6 q_t [.ref q_t_text, .ref q_t_code, .ref q_t_site, .ref q_t_condition, .ref q_t_actions, .ref q_t_kind, .ref q_t_target, .ref q_t_first, .ref q_t_second, .ref q_t_failures, .ref q_t_met, .ref q_t_there, .ref q_t_on, .ref q_t_compared, .ref q_t_globals, .ref q_t_own, .ref q_t_records, .ref q_t_pile, .ref q_t_handed, .ref q_t_keys, .ref q_t_key, .ref q_t_count, .ref q_t_bins, .ref q_t_operator, .ref q_t_starts, .ref q_t_sum, .ref q_t_least, .ref q_t_greatest, .int t_newSite, .int t_newCondition, .int t_newActions, .int t_size, .int t_place, .int t_pos, .int t_at, .int t_operators, .int t_recorded, .int t_lost, .int t_dropped, .int t_firings, .int t_time, .int t_thread, .int t_thrown, .int t_failed], zaD K q_t_handed 3 t_handed, zaZ K q_t_there 6 t_there, zaZ K q_t_on 6 t_on, zaI K q_t_site 6 t_site, zaI K q_t_met 6 t_met, zaI K q_t_condition 6 t_condition, zaI K q_t_code 1400 t_code, zaD K q_t_pile 60 t_pile, zaD K q_t_globals 3 t_globals, zaD K q_t_own 12 t_own, zaI K q_t_actions 6 t_actions, zaI K q_t_kind 340 t_kind, zaI K q_t_second 340 t_second, zaD K q_t_records 6 t_records, zaI K q_t_target 340 t_target, zaI K q_t_keys 3 t_keys, zaI K q_t_key 12 t_key, zaD K q_t_sum 12 t_sum, zaD K q_t_least 12 t_least, zaD K q_t_greatest 12 t_greatest, zaI K q_t_count 12 t_count, zaI K q_t_bins 96 t_bins, zaI K q_t_first 340 t_first, zaI K q_t_failures 6 t_failures]) (wj := fun u => [zo 6 q_t [.ref q_t_text, .ref q_t_code, .ref q_t_site, .ref q_t_condition, .ref q_t_actions, .ref q_t_kind, .ref q_t_target, .ref q_t_first, .ref q_t_second, .ref q_t_failures, .ref q_t_met, .ref q_t_there, .ref q_t_on, .ref q_t_compared, .ref q_t_globals, .ref q_t_own, .ref q_t_records, .ref q_t_pile, .ref q_t_handed, .ref q_t_keys, .ref q_t_key, .ref q_t_count, .ref q_t_bins, .ref q_t_operator, .ref q_t_starts, .ref q_t_sum, .ref q_t_least, .ref q_t_greatest, .int t_newSite, .int t_newCondition, .int t_newActions, .int t_size, .int t_place, .int t_pos, .int t_at, .int t_operators, .int t_recorded, .int t_lost, .int t_dropped, .int t_firings, .int t_time, .int t_thread, .int t_thrown, .int t_failed], zaD K q_t_handed 3 t_handed, zaZ K q_t_there 6 t_there, zaZ K q_t_on 6 t_on, zaI K q_t_site 6 t_site, zaI K q_t_met 6 t_met, zaI K q_t_condition 6 t_condition, zaI K q_t_code 1400 t_code, zaD K q_t_pile 60 t_pile, zaD K q_t_globals 3 t_globals, zaD K q_t_own 12 t_own, zaI K q_t_actions 6 t_actions, zaI K q_t_kind 340 t_kind, zaI K q_t_second 340 t_second, zaD K q_t_records 6 t_records, zaI K q_t_target 340 t_target, zaI K q_t_keys 3 t_keys, zaI K q_t_key 12 t_key, zaD K q_t_sum 12 t_sum, zaD K q_t_least 12 t_least, zaD K q_t_greatest 12 t_greatest, zaI K q_t_count 12 t_count, zaI K q_t_bins 96 t_bins, zaI K q_t_first 340 t_first, zaI K q_t_failures 6 t_failures]) C (c_Mo_fits l D K x8) (cwS 1 C.2.2.2.2.1 (z_gS wl_Mo_222 ws_Mo_fits wz_Mo wk_Mo_fits) rfl rfl rfl (by decide +kernel) ⟨Nat.le_of_ble_eq_true rfl, Nat.le_of_ble_eq_true rfl⟩) [] [0, 1, 2, 3, 4, 5, 6, 7, 8, 9, 10, 11, 12, 13, 14, 15, 16, 17, 18, 19, 20, 21, 22, 23, 24] [0, 1, 2, 3, 4, 5, 6, 7, 8, 9, 10, 11, 12, 13, 14, 15, 16, 17, 18, 19, 20, 21, 22, 23, 24] rfl rfl rfl rfl (by decide) (fun _ => rfl) rfl rfl rfl (Nat.le_of_ble_eq_true rfl) d_Mo_fire_38 ⟨Nat.le_of_ble_eq_true rfl, Nat.le_of_ble_eq_true rfl⟩ (fun r49 u50 e51 => ?_)
          have hS52 := hS42 r49 e51
          refine z_if_eq (tgt := 48) C d_Mo_fire_41 (by decide) (fun c53 => ?_) (fun c53 => ?_)
          · have hS54 := hS52.1 c53
            refine z_iconst (v := (0 : Int32)) C d_Mo_fire_48 (by decide) ?_
            refine z_callVi (As := [.int (0 : Int32)]) (b := q_t) (st := []) (wr := [zaD K q_t_handed 3 t_handed, zaZ K q_t_there 6 t_there, zaZ K q_t_on 6 t_on, zaI K q_t_site 6 t_site, zaI K q_t_met 6 t_met, zaI K q_t_condition 6 t_condition, zaI K q_t_code 1400 t_code, zaD K q_t_pile 60 t_pile, zaD K q_t_globals 3 t_globals, zaD K q_t_own 12 t_own, zaI K q_t_actions 6 t_actions, zaI K q_t_kind 340 t_kind, zaI K q_t_second 340 t_second, zaD K q_t_records 6 t_records, zaI K q_t_target 340 t_target, zaI K q_t_keys 3 t_keys, zaI K q_t_key 12 t_key, zaD K q_t_sum 12 t_sum, zaD K q_t_least 12 t_least, zaD K q_t_greatest 12 t_greatest, zaI K q_t_count 12 t_count, zaI K q_t_bins 96 t_bins, zaI K q_t_first 340 t_first, zaI K q_t_failures 6 t_failures]) (wj := fun u => [zo 6 q_t [.ref q_t_text, .ref q_t_code, .ref q_t_site, .ref q_t_condition, .ref q_t_actions, .ref q_t_kind, .ref q_t_target, .ref q_t_first, .ref q_t_second, .ref q_t_failures, .ref q_t_met, .ref q_t_there, .ref q_t_on, .ref q_t_compared, .ref q_t_globals, .ref q_t_own, .ref q_t_records, .ref q_t_pile, .ref q_t_handed, .ref q_t_keys, .ref q_t_key, .ref q_t_count, .ref q_t_bins, .ref q_t_operator, .ref q_t_starts, .ref q_t_sum, .ref q_t_least, .ref q_t_greatest, .int t_newSite, .int t_newCondition, .int t_newActions, .int t_size, .int t_place, .int t_pos, .int t_at, .int t_operators, .int t_recorded, .int t_lost, .int t_dropped, .int t_firings, .int t_time, .int t_thread, .int u, .int t_failed], zaD K q_t_handed 3 t_handed, zaZ K q_t_there 6 t_there, zaZ K q_t_on 6 t_on, zaI K q_t_site 6 t_site, zaI K q_t_met 6 t_met, zaI K q_t_condition 6 t_condition, zaI K q_t_code 1400 t_code, zaD K q_t_pile 60 t_pile, zaD K q_t_globals 3 t_globals, zaD K q_t_own 12 t_own, zaI K q_t_actions 6 t_actions, zaI K q_t_kind 340 t_kind, zaI K q_t_second 340 t_second, zaD K q_t_records 6 t_records, zaI K q_t_target 340 t_target, zaI K q_t_keys 3 t_keys, zaI K q_t_key 12 t_key, zaD K q_t_sum 12 t_sum, zaD K q_t_least 12 t_least, zaD K q_t_greatest 12 t_greatest, zaI K q_t_count 12 t_count, zaI K q_t_bins 96 t_bins, zaI K q_t_first 340 t_first, zaI K q_t_failures 6 t_failures]) C 0 rfl rfl (c_Mo_bad l D K q_t q_t_text q_t_code q_t_site q_t_condition q_t_actions q_t_kind q_t_target q_t_first q_t_second q_t_failures q_t_met q_t_there q_t_on q_t_compared q_t_globals q_t_own q_t_records q_t_pile q_t_handed q_t_keys q_t_key q_t_count q_t_bins q_t_operator q_t_starts q_t_sum q_t_least q_t_greatest t_newSite t_newCondition t_newActions t_size t_place t_pos t_at t_operators t_recorded t_lost t_dropped t_firings t_time t_thread t_thrown t_failed (0 : Int32)) (cwV 1 C.2.2.2.2.1 (z_gV wl_Mo_107 wi_Mo_bad wv_Mo_bad wz_Mo wk_Mo_bad) rfl rfl rfl (by decide +kernel) ⟨Nat.le_of_ble_eq_true rfl, Nat.le_of_ble_eq_true rfl⟩) [0] [1, 2, 3, 4, 5, 6, 7, 8, 9, 10, 11, 12, 13, 14, 15, 16, 17, 18, 19, 20, 21, 22, 23, 24] [24, 0, 1, 2, 3, 4, 5, 6, 7, 8, 9, 10, 11, 12, 13, 14, 15, 16, 17, 18, 19, 20, 21, 22, 23] rfl rfl rfl rfl (by decide) (fun _ => rfl) rfl rfl rfl (Nat.le_of_ble_eq_true rfl) d_Mo_fire_49 ⟨Nat.le_of_ble_eq_true rfl, Nat.le_of_ble_eq_true rfl⟩ (fun r55 u56 e57 => ?_)
            have hS58 := hS54 r55 u56 e57
            refine z_if_eq (tgt := 57) C d_Mo_fire_52 (by decide) (fun c59 => ?_) (fun c59 => ?_)
            · have hS60 := hS58.1 c59
              refine z_aload_n C d_Mo_fire_57 rfl 0 rfl ?_
              refine z_get C 0 rfl rfl in_Mo 18 (by decide) rfl wf_Mo_66 rfl d_Mo_fire_58 ?_
              refine z_iconst (v := (0 : Int32)) C d_Mo_fire_61 (by decide) ?_
              refine z_dload C d_Mo_fire_62 4 rfl ?_
              refine z_dast (ws' := [zo 6 q_t [.ref q_t_text, .ref q_t_code, .ref q_t_site, .ref q_t_condition, .ref q_t_actions, .ref q_t_kind, .ref q_t_target, .ref q_t_first, .ref q_t_second, .ref q_t_failures, .ref q_t_met, .ref q_t_there, .ref q_t_on, .ref q_t_compared, .ref q_t_globals, .ref q_t_own, .ref q_t_records, .ref q_t_pile, .ref q_t_handed, .ref q_t_keys, .ref q_t_key, .ref q_t_count, .ref q_t_bins, .ref q_t_operator, .ref q_t_starts, .ref q_t_sum, .ref q_t_least, .ref q_t_greatest, .int t_newSite, .int t_newCondition, .int t_newActions, .int t_size, .int t_place, .int t_pos, .int t_at, .int t_operators, .int t_recorded, .int t_lost, .int t_dropped, .int t_firings, .int t_time, .int t_thread, .int u56, .int t_failed], zaD K q_t_handed 3 (vf_upd t_handed 0 x4), zaZ K q_t_there 6 t_there, zaZ K q_t_on 6 t_on, zaI K q_t_site 6 t_site, zaI K q_t_met 6 t_met, zaI K q_t_condition 6 t_condition, zaI K q_t_code 1400 t_code, zaD K q_t_pile 60 t_pile, zaD K q_t_globals 3 t_globals, zaD K q_t_own 12 t_own, zaI K q_t_actions 6 t_actions, zaI K q_t_kind 340 t_kind, zaI K q_t_second 340 t_second, zaD K q_t_records 6 t_records, zaI K q_t_target 340 t_target, zaI K q_t_keys 3 t_keys, zaI K q_t_key 12 t_key, zaD K q_t_sum 12 t_sum, zaD K q_t_least 12 t_least, zaD K q_t_greatest 12 t_greatest, zaI K q_t_count 12 t_count, zaI K q_t_bins 96 t_bins, zaI K q_t_first 340 t_first, zaI K q_t_failures 6 t_failures]) C 1 1 rfl rfl (zin_c (by decide)) rfl d_Mo_fire_64 ?_
              refine z_aload_n C d_Mo_fire_65 rfl 0 rfl ?_
              refine z_get C 0 rfl rfl in_Mo 18 (by decide) rfl wf_Mo_66 rfl d_Mo_fire_66 ?_
              refine z_iconst (v := (1 : Int32)) C d_Mo_fire_69 (by decide) ?_
              refine z_dload C d_Mo_fire_70 5 rfl ?_
              refine z_dast (ws' := [zo 6 q_t [.ref q_t_text, .ref q_t_code, .ref q_t_site, .ref q_t_condition, .ref q_t_actions, .ref q_t_kind, .ref q_t_target, .ref q_t_first, .ref q_t_second, .ref q_t_failures, .ref q_t_met, .ref q_t_there, .ref q_t_on, .ref q_t_compared, .ref q_t_globals, .ref q_t_own, .ref q_t_records, .ref q_t_pile, .ref q_t_handed, .ref q_t_keys, .ref q_t_key, .ref q_t_count, .ref q_t_bins, .ref q_t_operator, .ref q_t_starts, .ref q_t_sum, .ref q_t_least, .ref q_t_greatest, .int t_newSite, .int t_newCondition, .int t_newActions, .int t_size, .int t_place, .int t_pos, .int t_at, .int t_operators, .int t_recorded, .int t_lost, .int t_dropped, .int t_firings, .int t_time, .int t_thread, .int u56, .int t_failed], zaD K q_t_handed 3 (vf_upd (vf_upd t_handed 0 x4) 1 x6), zaZ K q_t_there 6 t_there, zaZ K q_t_on 6 t_on, zaI K q_t_site 6 t_site, zaI K q_t_met 6 t_met, zaI K q_t_condition 6 t_condition, zaI K q_t_code 1400 t_code, zaD K q_t_pile 60 t_pile, zaD K q_t_globals 3 t_globals, zaD K q_t_own 12 t_own, zaI K q_t_actions 6 t_actions, zaI K q_t_kind 340 t_kind, zaI K q_t_second 340 t_second, zaD K q_t_records 6 t_records, zaI K q_t_target 340 t_target, zaI K q_t_keys 3 t_keys, zaI K q_t_key 12 t_key, zaD K q_t_sum 12 t_sum, zaD K q_t_least 12 t_least, zaD K q_t_greatest 12 t_greatest, zaI K q_t_count 12 t_count, zaI K q_t_bins 96 t_bins, zaI K q_t_first 340 t_first, zaI K q_t_failures 6 t_failures]) C 1 1 rfl rfl (zin_c (by decide)) rfl d_Mo_fire_72 ?_
              refine z_aload_n C d_Mo_fire_73 rfl 0 rfl ?_
              refine z_get C 0 rfl rfl in_Mo 18 (by decide) rfl wf_Mo_66 rfl d_Mo_fire_74 ?_
              refine z_iconst (v := (2 : Int32)) C d_Mo_fire_77 (by decide) ?_
              refine z_dload C d_Mo_fire_78 6 rfl ?_
              refine z_dast (ws' := [zo 6 q_t [.ref q_t_text, .ref q_t_code, .ref q_t_site, .ref q_t_condition, .ref q_t_actions, .ref q_t_kind, .ref q_t_target, .ref q_t_first, .ref q_t_second, .ref q_t_failures, .ref q_t_met, .ref q_t_there, .ref q_t_on, .ref q_t_compared, .ref q_t_globals, .ref q_t_own, .ref q_t_records, .ref q_t_pile, .ref q_t_handed, .ref q_t_keys, .ref q_t_key, .ref q_t_count, .ref q_t_bins, .ref q_t_operator, .ref q_t_starts, .ref q_t_sum, .ref q_t_least, .ref q_t_greatest, .int t_newSite, .int t_newCondition, .int t_newActions, .int t_size, .int t_place, .int t_pos, .int t_at, .int t_operators, .int t_recorded, .int t_lost, .int t_dropped, .int t_firings, .int t_time, .int t_thread, .int u56, .int t_failed], zaD K q_t_handed 3 (vf_upd (vf_upd (vf_upd t_handed 0 x4) 1 x6) 2 x8), zaZ K q_t_there 6 t_there, zaZ K q_t_on 6 t_on, zaI K q_t_site 6 t_site, zaI K q_t_met 6 t_met, zaI K q_t_condition 6 t_condition, zaI K q_t_code 1400 t_code, zaD K q_t_pile 60 t_pile, zaD K q_t_globals 3 t_globals, zaD K q_t_own 12 t_own, zaI K q_t_actions 6 t_actions, zaI K q_t_kind 340 t_kind, zaI K q_t_second 340 t_second, zaD K q_t_records 6 t_records, zaI K q_t_target 340 t_target, zaI K q_t_keys 3 t_keys, zaI K q_t_key 12 t_key, zaD K q_t_sum 12 t_sum, zaD K q_t_least 12 t_least, zaD K q_t_greatest 12 t_greatest, zaI K q_t_count 12 t_count, zaI K q_t_bins 96 t_bins, zaI K q_t_first 340 t_first, zaI K q_t_failures 6 t_failures]) C 1 1 rfl rfl (zin_c (by decide)) rfl d_Mo_fire_80 ?_
              refine z_aload_n C d_Mo_fire_81 rfl 0 rfl ?_
              refine z_iload_n C d_Mo_fire_82 rfl 3 rfl ?_
              refine z_put (ty := .int) (ws' := [zo 6 q_t [.ref q_t_text, .ref q_t_code, .ref q_t_site, .ref q_t_condition, .ref q_t_actions, .ref q_t_kind, .ref q_t_target, .ref q_t_first, .ref q_t_second, .ref q_t_failures, .ref q_t_met, .ref q_t_there, .ref q_t_on, .ref q_t_compared, .ref q_t_globals, .ref q_t_own, .ref q_t_records, .ref q_t_pile, .ref q_t_handed, .ref q_t_keys, .ref q_t_key, .ref q_t_count, .ref q_t_bins, .ref q_t_operator, .ref q_t_starts, .ref q_t_sum, .ref q_t_least, .ref q_t_greatest, .int t_newSite, .int t_newCondition, .int t_newActions, .int t_size, .int t_place, .int t_pos, .int t_at, .int t_operators, .int t_recorded, .int t_lost, .int t_dropped, .int t_firings, .int t_time, .int x3, .int u56, .int t_failed], zaD K q_t_handed 3 (vf_upd (vf_upd (vf_upd t_handed 0 x4) 1 x6) 2 x8), zaZ K q_t_there 6 t_there, zaZ K q_t_on 6 t_on, zaI K q_t_site 6 t_site, zaI K q_t_met 6 t_met, zaI K q_t_condition 6 t_condition, zaI K q_t_code 1400 t_code, zaD K q_t_pile 60 t_pile, zaD K q_t_globals 3 t_globals, zaD K q_t_own 12 t_own, zaI K q_t_actions 6 t_actions, zaI K q_t_kind 340 t_kind, zaI K q_t_second 340 t_second, zaD K q_t_records 6 t_records, zaI K q_t_target 340 t_target, zaI K q_t_keys 3 t_keys, zaI K q_t_key 12 t_key, zaD K q_t_sum 12 t_sum, zaD K q_t_least 12 t_least, zaD K q_t_greatest 12 t_greatest, zaI K q_t_count 12 t_count, zaI K q_t_bins 96 t_bins, zaI K q_t_first 340 t_first, zaI K q_t_failures 6 t_failures]) C ty_Mo to_Mo nm_Mo 0 rfl rfl in_Mo 41 (by decide) rfl wf_Mo_170 rfl rfl rfl rfl (Nat.le_of_ble_eq_true rfl) rfl d_Mo_fire_83 ?_
              refine z_iconst (v := (0 : Int32)) C d_Mo_fire_86 (by decide) ?_
              refine z_istore (lv' := [(10, .int (0 : Int32)), (0, .ref q_t), (1, .int x1), (2, .int x2), (3, .int x3), (4, .double x4), (6, .double x6), (8, .double x8)]) C d_Mo_fire_87 (by decide) rfl ?_
              refine z_iconst (v := (0 : Int32)) C d_Mo_fire_89 (by decide) ?_
              refine z_istore (lv' := [(11, .int (0 : Int32)), (10, .int (0 : Int32)), (0, .ref q_t), (1, .int x1), (2, .int x2), (3, .int x3), (4, .double x4), (6, .double x6), (8, .double x8)]) C d_Mo_fire_90 (by decide) rfl ?_
              refine z_iconst (v := (0 : Int32)) C d_Mo_fire_92 (by decide) ?_
              refine z_istore (lv' := [(12, .int (0 : Int32)), (11, .int (0 : Int32)), (10, .int (0 : Int32)), (0, .ref q_t), (1, .int x1), (2, .int x2), (3, .int x3), (4, .double x4), (6, .double x6), (8, .double x8)]) C d_Mo_fire_93 (by decide) rfl ?_
              refine z_lpick (lv' := [(0, .ref q_t), (1, .int x1), (2, .int x2), (3, .int x3), (4, .double x4), (6, .double x6), (8, .double x8), (10, .int (0 : Int32)), (11, .int (0 : Int32)), (12, .int (0 : Int32))]) [3, 4, 5, 6, 7, 8, 9, 2, 1, 0] rfl ?_
              exact lw_Mo_fire_L95 l D K q_t q_t_text q_t_code q_t_site q_t_condition q_t_actions q_t_kind q_t_target q_t_first q_t_second q_t_failures q_t_met q_t_there q_t_on q_t_compared q_t_globals q_t_own q_t_records q_t_pile q_t_handed q_t_keys q_t_key q_t_count q_t_bins q_t_operator q_t_starts q_t_sum q_t_least q_t_greatest t_newSite t_newCondition t_newActions t_size t_place t_pos t_at t_operators t_time t_there t_on t_site t_condition t_code t_actions t_kind t_second t_target t_first C hr hlk 600 x1 x2 x3 x4 x6 x8 (0 : Int32) (0 : Int32) (0 : Int32) t_recorded t_lost t_dropped t_firings x3 u56 t_failed (vf_upd (vf_upd (vf_upd t_handed 0 x4) 1 x6) 2 x8) t_met t_pile t_globals t_own t_records t_keys t_key t_sum t_least t_greatest t_count t_bins t_failures hS60
            · have hS60 := hS58.2 c59
              refine z_iconst (v := (0 : Int32)) C d_Mo_fire_55 (by decide) ?_
              exact z_iret C hr hlk (t_recorded, t_lost, t_dropped, t_firings, t_thread, u56, t_failed, t_handed, t_met, t_pile, t_globals, t_own, t_records, t_keys, t_key, t_sum, t_least, t_greatest, t_count, t_bins, t_failures) rfl hS60 d_Mo_fire_56
          · have hS54 := hS52.2 c53
            refine z_iconst (v := (1 : Int32)) C d_Mo_fire_44 (by decide) ?_
            refine z_goto (tgt := 49) C d_Mo_fire_45 (by decide) ?_
            refine z_callVi (As := [.int (1 : Int32)]) (b := q_t) (st := []) (wr := [zaD K q_t_handed 3 t_handed, zaZ K q_t_there 6 t_there, zaZ K q_t_on 6 t_on, zaI K q_t_site 6 t_site, zaI K q_t_met 6 t_met, zaI K q_t_condition 6 t_condition, zaI K q_t_code 1400 t_code, zaD K q_t_pile 60 t_pile, zaD K q_t_globals 3 t_globals, zaD K q_t_own 12 t_own, zaI K q_t_actions 6 t_actions, zaI K q_t_kind 340 t_kind, zaI K q_t_second 340 t_second, zaD K q_t_records 6 t_records, zaI K q_t_target 340 t_target, zaI K q_t_keys 3 t_keys, zaI K q_t_key 12 t_key, zaD K q_t_sum 12 t_sum, zaD K q_t_least 12 t_least, zaD K q_t_greatest 12 t_greatest, zaI K q_t_count 12 t_count, zaI K q_t_bins 96 t_bins, zaI K q_t_first 340 t_first, zaI K q_t_failures 6 t_failures]) (wj := fun u => [zo 6 q_t [.ref q_t_text, .ref q_t_code, .ref q_t_site, .ref q_t_condition, .ref q_t_actions, .ref q_t_kind, .ref q_t_target, .ref q_t_first, .ref q_t_second, .ref q_t_failures, .ref q_t_met, .ref q_t_there, .ref q_t_on, .ref q_t_compared, .ref q_t_globals, .ref q_t_own, .ref q_t_records, .ref q_t_pile, .ref q_t_handed, .ref q_t_keys, .ref q_t_key, .ref q_t_count, .ref q_t_bins, .ref q_t_operator, .ref q_t_starts, .ref q_t_sum, .ref q_t_least, .ref q_t_greatest, .int t_newSite, .int t_newCondition, .int t_newActions, .int t_size, .int t_place, .int t_pos, .int t_at, .int t_operators, .int t_recorded, .int t_lost, .int t_dropped, .int t_firings, .int t_time, .int t_thread, .int u, .int t_failed], zaD K q_t_handed 3 t_handed, zaZ K q_t_there 6 t_there, zaZ K q_t_on 6 t_on, zaI K q_t_site 6 t_site, zaI K q_t_met 6 t_met, zaI K q_t_condition 6 t_condition, zaI K q_t_code 1400 t_code, zaD K q_t_pile 60 t_pile, zaD K q_t_globals 3 t_globals, zaD K q_t_own 12 t_own, zaI K q_t_actions 6 t_actions, zaI K q_t_kind 340 t_kind, zaI K q_t_second 340 t_second, zaD K q_t_records 6 t_records, zaI K q_t_target 340 t_target, zaI K q_t_keys 3 t_keys, zaI K q_t_key 12 t_key, zaD K q_t_sum 12 t_sum, zaD K q_t_least 12 t_least, zaD K q_t_greatest 12 t_greatest, zaI K q_t_count 12 t_count, zaI K q_t_bins 96 t_bins, zaI K q_t_first 340 t_first, zaI K q_t_failures 6 t_failures]) C 0 rfl rfl (c_Mo_bad l D K q_t q_t_text q_t_code q_t_site q_t_condition q_t_actions q_t_kind q_t_target q_t_first q_t_second q_t_failures q_t_met q_t_there q_t_on q_t_compared q_t_globals q_t_own q_t_records q_t_pile q_t_handed q_t_keys q_t_key q_t_count q_t_bins q_t_operator q_t_starts q_t_sum q_t_least q_t_greatest t_newSite t_newCondition t_newActions t_size t_place t_pos t_at t_operators t_recorded t_lost t_dropped t_firings t_time t_thread t_thrown t_failed (1 : Int32)) (cwV 1 C.2.2.2.2.1 (z_gV wl_Mo_107 wi_Mo_bad wv_Mo_bad wz_Mo wk_Mo_bad) rfl rfl rfl (by decide +kernel) ⟨Nat.le_of_ble_eq_true rfl, Nat.le_of_ble_eq_true rfl⟩) [0] [1, 2, 3, 4, 5, 6, 7, 8, 9, 10, 11, 12, 13, 14, 15, 16, 17, 18, 19, 20, 21, 22, 23, 24] [24, 0, 1, 2, 3, 4, 5, 6, 7, 8, 9, 10, 11, 12, 13, 14, 15, 16, 17, 18, 19, 20, 21, 22, 23] rfl rfl rfl rfl (by decide) (fun _ => rfl) rfl rfl rfl (Nat.le_of_ble_eq_true rfl) d_Mo_fire_49 ⟨Nat.le_of_ble_eq_true rfl, Nat.le_of_ble_eq_true rfl⟩ (fun r61 u62 e63 => ?_)
            have hS64 := hS54 r61 u62 e63
            refine z_if_eq (tgt := 57) C d_Mo_fire_52 (by decide) (fun c65 => ?_) (fun c65 => ?_)
            · have hS66 := hS64.1 c65
              refine z_aload_n C d_Mo_fire_57 rfl 0 rfl ?_
              refine z_get C 0 rfl rfl in_Mo 18 (by decide) rfl wf_Mo_66 rfl d_Mo_fire_58 ?_
              refine z_iconst (v := (0 : Int32)) C d_Mo_fire_61 (by decide) ?_
              refine z_dload C d_Mo_fire_62 4 rfl ?_
              refine z_dast (ws' := [zo 6 q_t [.ref q_t_text, .ref q_t_code, .ref q_t_site, .ref q_t_condition, .ref q_t_actions, .ref q_t_kind, .ref q_t_target, .ref q_t_first, .ref q_t_second, .ref q_t_failures, .ref q_t_met, .ref q_t_there, .ref q_t_on, .ref q_t_compared, .ref q_t_globals, .ref q_t_own, .ref q_t_records, .ref q_t_pile, .ref q_t_handed, .ref q_t_keys, .ref q_t_key, .ref q_t_count, .ref q_t_bins, .ref q_t_operator, .ref q_t_starts, .ref q_t_sum, .ref q_t_least, .ref q_t_greatest, .int t_newSite, .int t_newCondition, .int t_newActions, .int t_size, .int t_place, .int t_pos, .int t_at, .int t_operators, .int t_recorded, .int t_lost, .int t_dropped, .int t_firings, .int t_time, .int t_thread, .int u62, .int t_failed], zaD K q_t_handed 3 (vf_upd t_handed 0 x4), zaZ K q_t_there 6 t_there, zaZ K q_t_on 6 t_on, zaI K q_t_site 6 t_site, zaI K q_t_met 6 t_met, zaI K q_t_condition 6 t_condition, zaI K q_t_code 1400 t_code, zaD K q_t_pile 60 t_pile, zaD K q_t_globals 3 t_globals, zaD K q_t_own 12 t_own, zaI K q_t_actions 6 t_actions, zaI K q_t_kind 340 t_kind, zaI K q_t_second 340 t_second, zaD K q_t_records 6 t_records, zaI K q_t_target 340 t_target, zaI K q_t_keys 3 t_keys, zaI K q_t_key 12 t_key, zaD K q_t_sum 12 t_sum, zaD K q_t_least 12 t_least, zaD K q_t_greatest 12 t_greatest, zaI K q_t_count 12 t_count, zaI K q_t_bins 96 t_bins, zaI K q_t_first 340 t_first, zaI K q_t_failures 6 t_failures]) C 1 1 rfl rfl (zin_c (by decide)) rfl d_Mo_fire_64 ?_
              refine z_aload_n C d_Mo_fire_65 rfl 0 rfl ?_
              refine z_get C 0 rfl rfl in_Mo 18 (by decide) rfl wf_Mo_66 rfl d_Mo_fire_66 ?_
              refine z_iconst (v := (1 : Int32)) C d_Mo_fire_69 (by decide) ?_
              refine z_dload C d_Mo_fire_70 5 rfl ?_
              refine z_dast (ws' := [zo 6 q_t [.ref q_t_text, .ref q_t_code, .ref q_t_site, .ref q_t_condition, .ref q_t_actions, .ref q_t_kind, .ref q_t_target, .ref q_t_first, .ref q_t_second, .ref q_t_failures, .ref q_t_met, .ref q_t_there, .ref q_t_on, .ref q_t_compared, .ref q_t_globals, .ref q_t_own, .ref q_t_records, .ref q_t_pile, .ref q_t_handed, .ref q_t_keys, .ref q_t_key, .ref q_t_count, .ref q_t_bins, .ref q_t_operator, .ref q_t_starts, .ref q_t_sum, .ref q_t_least, .ref q_t_greatest, .int t_newSite, .int t_newCondition, .int t_newActions, .int t_size, .int t_place, .int t_pos, .int t_at, .int t_operators, .int t_recorded, .int t_lost, .int t_dropped, .int t_firings, .int t_time, .int t_thread, .int u62, .int t_failed], zaD K q_t_handed 3 (vf_upd (vf_upd t_handed 0 x4) 1 x6), zaZ K q_t_there 6 t_there, zaZ K q_t_on 6 t_on, zaI K q_t_site 6 t_site, zaI K q_t_met 6 t_met, zaI K q_t_condition 6 t_condition, zaI K q_t_code 1400 t_code, zaD K q_t_pile 60 t_pile, zaD K q_t_globals 3 t_globals, zaD K q_t_own 12 t_own, zaI K q_t_actions 6 t_actions, zaI K q_t_kind 340 t_kind, zaI K q_t_second 340 t_second, zaD K q_t_records 6 t_records, zaI K q_t_target 340 t_target, zaI K q_t_keys 3 t_keys, zaI K q_t_key 12 t_key, zaD K q_t_sum 12 t_sum, zaD K q_t_least 12 t_least, zaD K q_t_greatest 12 t_greatest, zaI K q_t_count 12 t_count, zaI K q_t_bins 96 t_bins, zaI K q_t_first 340 t_first, zaI K q_t_failures 6 t_failures]) C 1 1 rfl rfl (zin_c (by decide)) rfl d_Mo_fire_72 ?_
              refine z_aload_n C d_Mo_fire_73 rfl 0 rfl ?_
              refine z_get C 0 rfl rfl in_Mo 18 (by decide) rfl wf_Mo_66 rfl d_Mo_fire_74 ?_
              refine z_iconst (v := (2 : Int32)) C d_Mo_fire_77 (by decide) ?_
              refine z_dload C d_Mo_fire_78 6 rfl ?_
              refine z_dast (ws' := [zo 6 q_t [.ref q_t_text, .ref q_t_code, .ref q_t_site, .ref q_t_condition, .ref q_t_actions, .ref q_t_kind, .ref q_t_target, .ref q_t_first, .ref q_t_second, .ref q_t_failures, .ref q_t_met, .ref q_t_there, .ref q_t_on, .ref q_t_compared, .ref q_t_globals, .ref q_t_own, .ref q_t_records, .ref q_t_pile, .ref q_t_handed, .ref q_t_keys, .ref q_t_key, .ref q_t_count, .ref q_t_bins, .ref q_t_operator, .ref q_t_starts, .ref q_t_sum, .ref q_t_least, .ref q_t_greatest, .int t_newSite, .int t_newCondition, .int t_newActions, .int t_size, .int t_place, .int t_pos, .int t_at, .int t_operators, .int t_recorded, .int t_lost, .int t_dropped, .int t_firings, .int t_time, .int t_thread, .int u62, .int t_failed], zaD K q_t_handed 3 (vf_upd (vf_upd (vf_upd t_handed 0 x4) 1 x6) 2 x8), zaZ K q_t_there 6 t_there, zaZ K q_t_on 6 t_on, zaI K q_t_site 6 t_site, zaI K q_t_met 6 t_met, zaI K q_t_condition 6 t_condition, zaI K q_t_code 1400 t_code, zaD K q_t_pile 60 t_pile, zaD K q_t_globals 3 t_globals, zaD K q_t_own 12 t_own, zaI K q_t_actions 6 t_actions, zaI K q_t_kind 340 t_kind, zaI K q_t_second 340 t_second, zaD K q_t_records 6 t_records, zaI K q_t_target 340 t_target, zaI K q_t_keys 3 t_keys, zaI K q_t_key 12 t_key, zaD K q_t_sum 12 t_sum, zaD K q_t_least 12 t_least, zaD K q_t_greatest 12 t_greatest, zaI K q_t_count 12 t_count, zaI K q_t_bins 96 t_bins, zaI K q_t_first 340 t_first, zaI K q_t_failures 6 t_failures]) C 1 1 rfl rfl (zin_c (by decide)) rfl d_Mo_fire_80 ?_
              refine z_aload_n C d_Mo_fire_81 rfl 0 rfl ?_
              refine z_iload_n C d_Mo_fire_82 rfl 3 rfl ?_
              refine z_put (ty := .int) (ws' := [zo 6 q_t [.ref q_t_text, .ref q_t_code, .ref q_t_site, .ref q_t_condition, .ref q_t_actions, .ref q_t_kind, .ref q_t_target, .ref q_t_first, .ref q_t_second, .ref q_t_failures, .ref q_t_met, .ref q_t_there, .ref q_t_on, .ref q_t_compared, .ref q_t_globals, .ref q_t_own, .ref q_t_records, .ref q_t_pile, .ref q_t_handed, .ref q_t_keys, .ref q_t_key, .ref q_t_count, .ref q_t_bins, .ref q_t_operator, .ref q_t_starts, .ref q_t_sum, .ref q_t_least, .ref q_t_greatest, .int t_newSite, .int t_newCondition, .int t_newActions, .int t_size, .int t_place, .int t_pos, .int t_at, .int t_operators, .int t_recorded, .int t_lost, .int t_dropped, .int t_firings, .int t_time, .int x3, .int u62, .int t_failed], zaD K q_t_handed 3 (vf_upd (vf_upd (vf_upd t_handed 0 x4) 1 x6) 2 x8), zaZ K q_t_there 6 t_there, zaZ K q_t_on 6 t_on, zaI K q_t_site 6 t_site, zaI K q_t_met 6 t_met, zaI K q_t_condition 6 t_condition, zaI K q_t_code 1400 t_code, zaD K q_t_pile 60 t_pile, zaD K q_t_globals 3 t_globals, zaD K q_t_own 12 t_own, zaI K q_t_actions 6 t_actions, zaI K q_t_kind 340 t_kind, zaI K q_t_second 340 t_second, zaD K q_t_records 6 t_records, zaI K q_t_target 340 t_target, zaI K q_t_keys 3 t_keys, zaI K q_t_key 12 t_key, zaD K q_t_sum 12 t_sum, zaD K q_t_least 12 t_least, zaD K q_t_greatest 12 t_greatest, zaI K q_t_count 12 t_count, zaI K q_t_bins 96 t_bins, zaI K q_t_first 340 t_first, zaI K q_t_failures 6 t_failures]) C ty_Mo to_Mo nm_Mo 0 rfl rfl in_Mo 41 (by decide) rfl wf_Mo_170 rfl rfl rfl rfl (Nat.le_of_ble_eq_true rfl) rfl d_Mo_fire_83 ?_
              refine z_iconst (v := (0 : Int32)) C d_Mo_fire_86 (by decide) ?_
              refine z_istore (lv' := [(10, .int (0 : Int32)), (0, .ref q_t), (1, .int x1), (2, .int x2), (3, .int x3), (4, .double x4), (6, .double x6), (8, .double x8)]) C d_Mo_fire_87 (by decide) rfl ?_
              refine z_iconst (v := (0 : Int32)) C d_Mo_fire_89 (by decide) ?_
              refine z_istore (lv' := [(11, .int (0 : Int32)), (10, .int (0 : Int32)), (0, .ref q_t), (1, .int x1), (2, .int x2), (3, .int x3), (4, .double x4), (6, .double x6), (8, .double x8)]) C d_Mo_fire_90 (by decide) rfl ?_
              refine z_iconst (v := (0 : Int32)) C d_Mo_fire_92 (by decide) ?_
              refine z_istore (lv' := [(12, .int (0 : Int32)), (11, .int (0 : Int32)), (10, .int (0 : Int32)), (0, .ref q_t), (1, .int x1), (2, .int x2), (3, .int x3), (4, .double x4), (6, .double x6), (8, .double x8)]) C d_Mo_fire_93 (by decide) rfl ?_
              refine z_lpick (lv' := [(0, .ref q_t), (1, .int x1), (2, .int x2), (3, .int x3), (4, .double x4), (6, .double x6), (8, .double x8), (10, .int (0 : Int32)), (11, .int (0 : Int32)), (12, .int (0 : Int32))]) [3, 4, 5, 6, 7, 8, 9, 2, 1, 0] rfl ?_
              exact lw_Mo_fire_L95 l D K q_t q_t_text q_t_code q_t_site q_t_condition q_t_actions q_t_kind q_t_target q_t_first q_t_second q_t_failures q_t_met q_t_there q_t_on q_t_compared q_t_globals q_t_own q_t_records q_t_pile q_t_handed q_t_keys q_t_key q_t_count q_t_bins q_t_operator q_t_starts q_t_sum q_t_least q_t_greatest t_newSite t_newCondition t_newActions t_size t_place t_pos t_at t_operators t_time t_there t_on t_site t_condition t_code t_actions t_kind t_second t_target t_first C hr hlk 600 x1 x2 x3 x4 x6 x8 (0 : Int32) (0 : Int32) (0 : Int32) t_recorded t_lost t_dropped t_firings x3 u62 t_failed (vf_upd (vf_upd (vf_upd t_handed 0 x4) 1 x6) 2 x8) t_met t_pile t_globals t_own t_records t_keys t_key t_sum t_least t_greatest t_count t_bins t_failures hS66
            · have hS66 := hS64.2 c65
              refine z_iconst (v := (0 : Int32)) C d_Mo_fire_55 (by decide) ?_
              exact z_iret C hr hlk (t_recorded, t_lost, t_dropped, t_firings, t_thread, u62, t_failed, t_handed, t_met, t_pile, t_globals, t_own, t_records, t_keys, t_key, t_sum, t_least, t_greatest, t_count, t_bins, t_failures) rfl hS66 d_Mo_fire_56
def s_Mo_fire_L95 : Nat → Int32 → Int32 → Int32 → UInt64 → UInt64 → UInt64 → Int32 → Int32 → Int32 → Int32 → Int32 → Int32 → Int32 → Int32 → Int32 → Int32 → Int32 → (Nat → UInt64) → (Nat → Int32) → (Nat → Int32) → (Nat → Int32) → (Nat → Int32) → (Nat → Int32) → (Nat → Int32) → (Nat → UInt64) → (Nat → UInt64) → (Nat → UInt64) → (Nat → Int32) → (Nat → Int32) → (Nat → Int32) → (Nat → UInt64) → (Nat → Int32) → (Nat → Int32) → (Nat → Int32) → (Nat → UInt64) → (Nat → UInt64) → (Nat → UInt64) → (Nat → Int32) → (Nat → Int32) → (Nat → Int32) → (Nat → Int32) → Int32 × Int32 × Int32 × Int32 × Int32 × Int32 × Int32 × Int32 × (Nat → UInt64) × (Nat → Int32) × (Nat → UInt64) × (Nat → UInt64) × (Nat → UInt64) × (Nat → UInt64) × (Nat → Int32) × (Nat → Int32) × (Nat → UInt64) × (Nat → UInt64) × (Nat → UInt64) × (Nat → Int32) × (Nat → Int32) × (Nat → Int32)
  | 0, _, _, _, _, _, _, _, _, _, t_recorded, t_lost, t_dropped, t_firings, _, t_thread, t_thrown, t_failed, t_handed, _, _, _, t_met, _, _, t_pile, t_globals, t_own, _, _, _, t_records, _, t_keys, t_key, t_sum, t_least, t_greatest, t_count, t_bins, _, t_failures => (0, t_recorded, t_lost, t_dropped, t_firings, t_thread, t_thrown, t_failed, t_handed, t_met, t_pile, t_globals, t_own, t_records, t_keys, t_key, t_sum, t_least, t_greatest, t_count, t_bins, t_failures)
  | n + 1, y1, y2, y3, y4, y6, y8, y10, y11, y12, t_recorded, t_lost, t_dropped, t_firings, t_time, t_thread, t_thrown, t_failed, t_handed, t_there, t_on, t_site, t_met, t_condition, t_code, t_pile, t_globals, t_own, t_actions, t_kind, t_second, t_records, t_target, t_keys, t_key, t_sum, t_least, t_greatest, t_count, t_bins, t_first, t_failures => (if (6 : Int32) ≤ y12 then (if y11 = 0 then (y10, t_recorded, t_lost, t_dropped, t_firings, t_thread, t_thrown, t_failed, t_handed, t_met, t_pile, t_globals, t_own, t_records, t_keys, t_key, t_sum, t_least, t_greatest, t_count, t_bins, t_failures) else (y10, t_recorded, t_lost, t_dropped, t_firings + (1 : Int32), t_thread, t_thrown, t_failed, t_handed, t_met, t_pile, t_globals, t_own, t_records, t_keys, t_key, t_sum, t_least, t_greatest, t_count, t_bins, t_failures)) else (if (t_there y12.toNatClampNeg) = 0 then s_Mo_fire_L95 n y1 y2 y3 y4 y6 y8 y10 y11 (y12 + (1 : Int32)) t_recorded t_lost t_dropped t_firings t_time t_thread t_thrown t_failed t_handed t_there t_on t_site t_met t_condition t_code t_pile t_globals t_own t_actions t_kind t_second t_records t_target t_keys t_key t_sum t_least t_greatest t_count t_bins t_first t_failures else (if (t_on y12.toNatClampNeg) = 0 then s_Mo_fire_L95 n y1 y2 y3 y4 y6 y8 y10 y11 (y12 + (1 : Int32)) t_recorded t_lost t_dropped t_firings t_time t_thread t_thrown t_failed t_handed t_there t_on t_site t_met t_condition t_code t_pile t_globals t_own t_actions t_kind t_second t_records t_target t_keys t_key t_sum t_least t_greatest t_count t_bins t_first t_failures else (if y2 = 0 then (if (t_site y12.toNatClampNeg) = (y1 + (0 : Int32)) then (zl2 (s_Mo_doRule t_recorded t_lost t_dropped t_time t_thread t_failed t_condition t_code t_pile t_handed t_globals t_own t_met t_actions t_kind t_second t_records t_target t_keys t_key t_sum t_least t_greatest t_count t_bins t_first t_failures y12) (fun m86 z_m86 => zl2 z_m86 (fun m87 z_m87 => zl2 z_m87 (fun m88 z_m88 => zl2 z_m88 (fun m89 z_m89 => zl2 z_m89 (fun m90 z_m90 => zl2 z_m90 (fun m91 z_m91 => zl2 z_m91 (fun m92 z_m92 => zl2 z_m92 (fun m93 z_m93 => zl2 z_m93 (fun m94 z_m94 => zl2 z_m94 (fun m95 z_m95 => zl2 z_m95 (fun m96 z_m96 => zl2 z_m96 (fun m97 z_m97 => zl2 z_m97 (fun m98 z_m98 => zl2 z_m98 (fun m99 z_m99 => zl2 z_m99 (fun m100 z_m100 => zl2 z_m100 (fun m101 m102 => s_Mo_fire_L95 n y1 y2 y3 y4 y6 y8 (y10 + ((m93 y12.toNatClampNeg) - (t_met y12.toNatClampNeg))) (1 : Int32) (y12 + (1 : Int32)) m86 m87 m88 t_firings t_time t_thread t_thrown m89 t_handed t_there t_on t_site m93 t_condition t_code m90 m91 m92 t_actions t_kind t_second m94 t_target m95 m96 m97 m98 m99 m100 m101 t_first m102))))))))))))))))) else s_Mo_fire_L95 n y1 y2 y3 y4 y6 y8 y10 y11 (y12 + (1 : Int32)) t_recorded t_lost t_dropped t_firings t_time t_thread t_thrown t_failed t_handed t_there t_on t_site t_met t_condition t_code t_pile t_globals t_own t_actions t_kind t_second t_records t_target t_keys t_key t_sum t_least t_greatest t_count t_bins t_first t_failures) else (if (t_site y12.toNatClampNeg) = (y1 + (8 : Int32)) then (zl2 (s_Mo_doRule t_recorded t_lost t_dropped t_time t_thread t_failed t_condition t_code t_pile t_handed t_globals t_own t_met t_actions t_kind t_second t_records t_target t_keys t_key t_sum t_least t_greatest t_count t_bins t_first t_failures y12) (fun m111 z_m111 => zl2 z_m111 (fun m112 z_m112 => zl2 z_m112 (fun m113 z_m113 => zl2 z_m113 (fun m114 z_m114 => zl2 z_m114 (fun m115 z_m115 => zl2 z_m115 (fun m116 z_m116 => zl2 z_m116 (fun m117 z_m117 => zl2 z_m117 (fun m118 z_m118 => zl2 z_m118 (fun m119 z_m119 => zl2 z_m119 (fun m120 z_m120 => zl2 z_m120 (fun m121 z_m121 => zl2 z_m121 (fun m122 z_m122 => zl2 z_m122 (fun m123 z_m123 => zl2 z_m123 (fun m124 z_m124 => zl2 z_m124 (fun m125 z_m125 => zl2 z_m125 (fun m126 m127 => s_Mo_fire_L95 n y1 y2 y3 y4 y6 y8 (y10 + ((m118 y12.toNatClampNeg) - (t_met y12.toNatClampNeg))) (1 : Int32) (y12 + (1 : Int32)) m111 m112 m113 t_firings t_time t_thread t_thrown m114 t_handed t_there t_on t_site m118 t_condition t_code m115 m116 m117 t_actions t_kind t_second m119 t_target m120 m121 m122 m123 m124 m125 m126 t_first m127))))))))))))))))) else s_Mo_fire_L95 n y1 y2 y3 y4 y6 y8 y10 y11 (y12 + (1 : Int32)) t_recorded t_lost t_dropped t_firings t_time t_thread t_thrown t_failed t_handed t_there t_on t_site t_met t_condition t_code t_pile t_globals t_own t_actions t_kind t_second t_records t_target t_keys t_key t_sum t_least t_greatest t_count t_bins t_first t_failures)))))
def s_Mo_fire (t_recorded : Int32) (t_lost : Int32) (t_dropped : Int32) (t_firings : Int32) (t_time : Int32) (t_thread : Int32) (t_thrown : Int32) (t_failed : Int32) (t_handed : Nat → UInt64) (t_there : Nat → Int32) (t_on : Nat → Int32) (t_site : Nat → Int32) (t_met : Nat → Int32) (t_condition : Nat → Int32) (t_code : Nat → Int32) (t_pile : Nat → UInt64) (t_globals : Nat → UInt64) (t_own : Nat → UInt64) (t_actions : Nat → Int32) (t_kind : Nat → Int32) (t_second : Nat → Int32) (t_records : Nat → UInt64) (t_target : Nat → Int32) (t_keys : Nat → Int32) (t_key : Nat → Int32) (t_sum : Nat → UInt64) (t_least : Nat → UInt64) (t_greatest : Nat → UInt64) (t_count : Nat → Int32) (t_bins : Nat → Int32) (t_first : Nat → Int32) (t_failures : Nat → Int32) (x1 : Int32) (x2 : Int32) (x3 : Int32) (x4 : UInt64) (x6 : UInt64) (x8 : UInt64) : Int32 × Int32 × Int32 × Int32 × Int32 × Int32 × Int32 × Int32 × (Nat → UInt64) × (Nat → Int32) × (Nat → UInt64) × (Nat → UInt64) × (Nat → UInt64) × (Nat → UInt64) × (Nat → Int32) × (Nat → Int32) × (Nat → UInt64) × (Nat → UInt64) × (Nat → UInt64) × (Nat → Int32) × (Nat → Int32) × (Nat → Int32) := (zl1 (s_Mo_in x1 (0 : Int32) (7 : Int32)) fun r1 => (if r1 = 0 then (zl2 (s_Mo_bad t_thrown (0 : Int32)) (fun r7 u8 => (if r7 = 0 then s_Mo_fire_L95 600 x1 x2 x3 x4 x6 x8 (0 : Int32) (0 : Int32) (0 : Int32) t_recorded t_lost t_dropped t_firings t_time x3 u8 t_failed (vf_upd (vf_upd (vf_upd t_handed 0 x4) 1 x6) 2 x8) t_there t_on t_site t_met t_condition t_code t_pile t_globals t_own t_actions t_kind t_second t_records t_target t_keys t_key t_sum t_least t_greatest t_count t_bins t_first t_failures else ((0 : Int32), t_recorded, t_lost, t_dropped, t_firings, t_thread, u8, t_failed, t_handed, t_met, t_pile, t_globals, t_own, t_records, t_keys, t_key, t_sum, t_least, t_greatest, t_count, t_bins, t_failures)))) else (zl1 (s_Mo_in x3 (0 : Int32) (3 : Int32)) fun r13 => (if r13 = 0 then (zl2 (s_Mo_bad t_thrown (0 : Int32)) (fun r19 u20 => (if r19 = 0 then s_Mo_fire_L95 600 x1 x2 x3 x4 x6 x8 (0 : Int32) (0 : Int32) (0 : Int32) t_recorded t_lost t_dropped t_firings t_time x3 u20 t_failed (vf_upd (vf_upd (vf_upd t_handed 0 x4) 1 x6) 2 x8) t_there t_on t_site t_met t_condition t_code t_pile t_globals t_own t_actions t_kind t_second t_records t_target t_keys t_key t_sum t_least t_greatest t_count t_bins t_first t_failures else ((0 : Int32), t_recorded, t_lost, t_dropped, t_firings, t_thread, u20, t_failed, t_handed, t_met, t_pile, t_globals, t_own, t_records, t_keys, t_key, t_sum, t_least, t_greatest, t_count, t_bins, t_failures)))) else (zl1 (s_Mo_fits x4) fun r25 => (if r25 = 0 then (zl2 (s_Mo_bad t_thrown (0 : Int32)) (fun r31 u32 => (if r31 = 0 then s_Mo_fire_L95 600 x1 x2 x3 x4 x6 x8 (0 : Int32) (0 : Int32) (0 : Int32) t_recorded t_lost t_dropped t_firings t_time x3 u32 t_failed (vf_upd (vf_upd (vf_upd t_handed 0 x4) 1 x6) 2 x8) t_there t_on t_site t_met t_condition t_code t_pile t_globals t_own t_actions t_kind t_second t_records t_target t_keys t_key t_sum t_least t_greatest t_count t_bins t_first t_failures else ((0 : Int32), t_recorded, t_lost, t_dropped, t_firings, t_thread, u32, t_failed, t_handed, t_met, t_pile, t_globals, t_own, t_records, t_keys, t_key, t_sum, t_least, t_greatest, t_count, t_bins, t_failures)))) else (zl1 (s_Mo_fits x6) fun r37 => (if r37 = 0 then (zl2 (s_Mo_bad t_thrown (0 : Int32)) (fun r43 u44 => (if r43 = 0 then s_Mo_fire_L95 600 x1 x2 x3 x4 x6 x8 (0 : Int32) (0 : Int32) (0 : Int32) t_recorded t_lost t_dropped t_firings t_time x3 u44 t_failed (vf_upd (vf_upd (vf_upd t_handed 0 x4) 1 x6) 2 x8) t_there t_on t_site t_met t_condition t_code t_pile t_globals t_own t_actions t_kind t_second t_records t_target t_keys t_key t_sum t_least t_greatest t_count t_bins t_first t_failures else ((0 : Int32), t_recorded, t_lost, t_dropped, t_firings, t_thread, u44, t_failed, t_handed, t_met, t_pile, t_globals, t_own, t_records, t_keys, t_key, t_sum, t_least, t_greatest, t_count, t_bins, t_failures)))) else (zl1 (s_Mo_fits x8) fun r49 => (if r49 = 0 then (zl2 (s_Mo_bad t_thrown (0 : Int32)) (fun r55 u56 => (if r55 = 0 then s_Mo_fire_L95 600 x1 x2 x3 x4 x6 x8 (0 : Int32) (0 : Int32) (0 : Int32) t_recorded t_lost t_dropped t_firings t_time x3 u56 t_failed (vf_upd (vf_upd (vf_upd t_handed 0 x4) 1 x6) 2 x8) t_there t_on t_site t_met t_condition t_code t_pile t_globals t_own t_actions t_kind t_second t_records t_target t_keys t_key t_sum t_least t_greatest t_count t_bins t_first t_failures else ((0 : Int32), t_recorded, t_lost, t_dropped, t_firings, t_thread, u56, t_failed, t_handed, t_met, t_pile, t_globals, t_own, t_records, t_keys, t_key, t_sum, t_least, t_greatest, t_count, t_bins, t_failures)))) else (zl2 (s_Mo_bad t_thrown (1 : Int32)) (fun r61 u62 => (if r61 = 0 then s_Mo_fire_L95 600 x1 x2 x3 x4 x6 x8 (0 : Int32) (0 : Int32) (0 : Int32) t_recorded t_lost t_dropped t_firings t_time x3 u62 t_failed (vf_upd (vf_upd (vf_upd t_handed 0 x4) 1 x6) 2 x8) t_there t_on t_site t_met t_condition t_code t_pile t_globals t_own t_actions t_kind t_second t_records t_target t_keys t_key t_sum t_least t_greatest t_count t_bins t_first t_failures else ((0 : Int32), t_recorded, t_lost, t_dropped, t_firings, t_thread, u62, t_failed, t_handed, t_met, t_pile, t_globals, t_own, t_records, t_keys, t_key, t_sum, t_least, t_greatest, t_count, t_bins, t_failures))))))))))))))
def p_Mo_fire (t_recorded : Int32) (t_lost : Int32) (t_dropped : Int32) (t_firings : Int32) (t_time : Int32) (t_thread : Int32) (t_thrown : Int32) (t_failed : Int32) (t_handed : Nat → UInt64) (t_there : Nat → Int32) (t_on : Nat → Int32) (t_site : Nat → Int32) (t_met : Nat → Int32) (t_condition : Nat → Int32) (t_code : Nat → Int32) (t_pile : Nat → UInt64) (t_globals : Nat → UInt64) (t_own : Nat → UInt64) (t_actions : Nat → Int32) (t_kind : Nat → Int32) (t_second : Nat → Int32) (t_records : Nat → UInt64) (t_target : Nat → Int32) (t_keys : Nat → Int32) (t_key : Nat → Int32) (t_sum : Nat → UInt64) (t_least : Nat → UInt64) (t_greatest : Nat → UInt64) (t_count : Nat → Int32) (t_bins : Nat → Int32) (t_first : Nat → Int32) (t_failures : Nat → Int32) (x1 : Int32) (x2 : Int32) (x3 : Int32) (x4 : UInt64) (x6 : UInt64) (x8 : UInt64) : Prop := WP_Mo_fire t_recorded t_lost t_dropped t_firings t_time t_thread t_thrown t_failed t_handed t_there t_on t_site t_met t_condition t_code t_pile t_globals t_own t_actions t_kind t_second t_records t_target t_keys t_key t_sum t_least t_greatest t_count t_bins t_first t_failures x1 x2 x3 x4 x6 x8 (fun _ _ => True)
set_option maxRecDepth 100000 in
theorem v_Mo_fire_L95 : ∀ (n : Nat) (y1 : Int32) (y2 : Int32) (y3 : Int32) (y4 : UInt64) (y6 : UInt64) (y8 : UInt64) (y10 : Int32) (y11 : Int32) (y12 : Int32) (t_recorded : Int32) (t_lost : Int32) (t_dropped : Int32) (t_firings : Int32) (t_time : Int32) (t_thread : Int32) (t_thrown : Int32) (t_failed : Int32) (t_handed : Nat → UInt64) (t_there : Nat → Int32) (t_on : Nat → Int32) (t_site : Nat → Int32) (t_met : Nat → Int32) (t_condition : Nat → Int32) (t_code : Nat → Int32) (t_pile : Nat → UInt64) (t_globals : Nat → UInt64) (t_own : Nat → UInt64) (t_actions : Nat → Int32) (t_kind : Nat → Int32) (t_second : Nat → Int32) (t_records : Nat → UInt64) (t_target : Nat → Int32) (t_keys : Nat → Int32) (t_key : Nat → Int32) (t_sum : Nat → UInt64) (t_least : Nat → UInt64) (t_greatest : Nat → UInt64) (t_count : Nat → Int32) (t_bins : Nat → Int32) (t_first : Nat → Int32) (t_failures : Nat → Int32) (tgt : Int32 × Int32 × Int32 × Int32 × Int32 × Int32 × Int32 × Int32 × (Nat → UInt64) × (Nat → Int32) × (Nat → UInt64) × (Nat → UInt64) × (Nat → UInt64) × (Nat → UInt64) × (Nat → Int32) × (Nat → Int32) × (Nat → UInt64) × (Nat → UInt64) × (Nat → UInt64) × (Nat → Int32) × (Nat → Int32) × (Nat → Int32)), s_Mo_fire_L95 n y1 y2 y3 y4 y6 y8 y10 y11 y12 t_recorded t_lost t_dropped t_firings t_time t_thread t_thrown t_failed t_handed t_there t_on t_site t_met t_condition t_code t_pile t_globals t_own t_actions t_kind t_second t_records t_target t_keys t_key t_sum t_least t_greatest t_count t_bins t_first t_failures = tgt → WP_Mo_fire_L95 n y1 y2 y3 y4 y6 y8 y10 y11 y12 t_recorded t_lost t_dropped t_firings t_time t_thread t_thrown t_failed t_handed t_there t_on t_site t_met t_condition t_code t_pile t_globals t_own t_actions t_kind t_second t_records t_target t_keys t_key t_sum t_least t_greatest t_count t_bins t_first t_failures (fun _ _ => True) → WP_Mo_fire_L95 n y1 y2 y3 y4 y6 y8 y10 y11 y12 t_recorded t_lost t_dropped t_firings t_time t_thread t_thrown t_failed t_handed t_there t_on t_site t_met t_condition t_code t_pile t_globals t_own t_actions t_kind t_second t_records t_target t_keys t_key t_sum t_least t_greatest t_count t_bins t_first t_failures (fun r u => tgt = (r, u.1, u.2.1, u.2.2.1, u.2.2.2.1, u.2.2.2.2.1, u.2.2.2.2.2.1, u.2.2.2.2.2.2.1, u.2.2.2.2.2.2.2.1, u.2.2.2.2.2.2.2.2.1, u.2.2.2.2.2.2.2.2.2.1, u.2.2.2.2.2.2.2.2.2.2.1, u.2.2.2.2.2.2.2.2.2.2.2.1, u.2.2.2.2.2.2.2.2.2.2.2.2.1, u.2.2.2.2.2.2.2.2.2.2.2.2.2.1, u.2.2.2.2.2.2.2.2.2.2.2.2.2.2.1, u.2.2.2.2.2.2.2.2.2.2.2.2.2.2.2.1, u.2.2.2.2.2.2.2.2.2.2.2.2.2.2.2.2.1, u.2.2.2.2.2.2.2.2.2.2.2.2.2.2.2.2.2.1, u.2.2.2.2.2.2.2.2.2.2.2.2.2.2.2.2.2.2.1, u.2.2.2.2.2.2.2.2.2.2.2.2.2.2.2.2.2.2.2.1, u.2.2.2.2.2.2.2.2.2.2.2.2.2.2.2.2.2.2.2.2)) := by
  intro n
  induction n with
  | zero => intros; contradiction
  | succ n ih =>
    intro y1 y2 y3 y4 y6 y8 y10 y11 y12 t_recorded t_lost t_dropped t_firings t_time t_thread t_thrown t_failed t_handed t_there t_on t_site t_met t_condition t_code t_pile t_globals t_own t_actions t_kind t_second t_records t_target t_keys t_key t_sum t_least t_greatest t_count t_bins t_first t_failures tgt f0 hp
    unfold s_Mo_fire_L95 at f0
    unfold WP_Mo_fire_L95 at hp ⊢
    refine ⟨fun c67 => ?_, fun c67 => ?_⟩
    · have f1 := Eq.trans (Eq.symm (if_pos c67)) f0
      have g1 := hp.1 c67
      refine ⟨fun c69 => ?_, fun c69 => ?_⟩
      · have f2 := Eq.trans (Eq.symm (if_pos c69)) f1
        have g2 := g1.1 c69
        exact f2.symm
      · have f2 := Eq.trans (Eq.symm (if_neg c69)) f1
        have g2 := g1.2 c69
        exact f2.symm
    · have f1 := Eq.trans (Eq.symm (if_neg c67)) f0
      have g1 := hp.2 c67
      refine ⟨g1.1, ?_⟩
      have g3 := g1.2
      refine ⟨fun c72 => ?_, fun c72 => ?_⟩
      · have f4 := Eq.trans (Eq.symm (if_pos c72)) f1
        have g4 := g3.1 c72
        exact ih y1 y2 y3 y4 y6 y8 y10 y11 (y12 + (1 : Int32)) t_recorded t_lost t_dropped t_firings t_time t_thread t_thrown t_failed t_handed t_there t_on t_site t_met t_condition t_code t_pile t_globals t_own t_actions t_kind t_second t_records t_target t_keys t_key t_sum t_least t_greatest t_count t_bins t_first t_failures _ f4 g4
      · have f4 := Eq.trans (Eq.symm (if_neg c72)) f1
        have g4 := g3.2 c72
        refine ⟨g4.1, ?_⟩
        have g5 := g4.2
        refine ⟨fun c75 => ?_, fun c75 => ?_⟩
        · have f6 := Eq.trans (Eq.symm (if_pos c75)) f4
          have g6 := g5.1 c75
          exact ih y1 y2 y3 y4 y6 y8 y10 y11 (y12 + (1 : Int32)) t_recorded t_lost t_dropped t_firings t_time t_thread t_thrown t_failed t_handed t_there t_on t_site t_met t_condition t_code t_pile t_globals t_own t_actions t_kind t_second t_records t_target t_keys t_key t_sum t_least t_greatest t_count t_bins t_first t_failures _ f6 g6
        · have f6 := Eq.trans (Eq.symm (if_neg c75)) f4
          have g6 := g5.2 c75
          refine ⟨g6.1, ?_⟩
          have g7 := g6.2
          refine ⟨fun c78 => ?_, fun c78 => ?_⟩
          · have f8 := Eq.trans (Eq.symm (if_pos c78)) f6
            have g8 := g7.1 c78
            refine ⟨fun c80 => ?_, fun c80 => ?_⟩
            · have f9 := Eq.trans (Eq.symm (if_pos c80)) f8
              have g9 := g8.1 c80
              refine ⟨g9.1, ?_⟩
              have g10 := g9.2
              refine ⟨g10.1, ?_⟩
              have g12 := g10.2
              intro m86 m87 m88 m89 m90 m91 m92 m93 m94 m95 m96 m97 m98 m99 m100 m101 m102 e85
              have g11 := g12 m86 m87 m88 m89 m90 m91 m92 m93 m94 m95 m96 m97 m98 m99 m100 m101 m102 e85
              have f11 := Eq.trans (Eq.symm (zl2_eq e85)) f9
              have f11 := Eq.trans (Eq.symm (zl2_eq (Eq.refl (m87, m88, m89, m90, m91, m92, m93, m94, m95, m96, m97, m98, m99, m100, m101, m102)))) f11
              have f11 := Eq.trans (Eq.symm (zl2_eq (Eq.refl (m88, m89, m90, m91, m92, m93, m94, m95, m96, m97, m98, m99, m100, m101, m102)))) f11
              have f11 := Eq.trans (Eq.symm (zl2_eq (Eq.refl (m89, m90, m91, m92, m93, m94, m95, m96, m97, m98, m99, m100, m101, m102)))) f11
              have f11 := Eq.trans (Eq.symm (zl2_eq (Eq.refl (m90, m91, m92, m93, m94, m95, m96, m97, m98, m99, m100, m101, m102)))) f11
              have f11 := Eq.trans (Eq.symm (zl2_eq (Eq.refl (m91, m92, m93, m94, m95, m96, m97, m98, m99, m100, m101, m102)))) f11
              have f11 := Eq.trans (Eq.symm (zl2_eq (Eq.refl (m92, m93, m94, m95, m96, m97, m98, m99, m100, m101, m102)))) f11
              have f11 := Eq.trans (Eq.symm (zl2_eq (Eq.refl (m93, m94, m95, m96, m97, m98, m99, m100, m101, m102)))) f11
              have f11 := Eq.trans (Eq.symm (zl2_eq (Eq.refl (m94, m95, m96, m97, m98, m99, m100, m101, m102)))) f11
              have f11 := Eq.trans (Eq.symm (zl2_eq (Eq.refl (m95, m96, m97, m98, m99, m100, m101, m102)))) f11
              have f11 := Eq.trans (Eq.symm (zl2_eq (Eq.refl (m96, m97, m98, m99, m100, m101, m102)))) f11
              have f11 := Eq.trans (Eq.symm (zl2_eq (Eq.refl (m97, m98, m99, m100, m101, m102)))) f11
              have f11 := Eq.trans (Eq.symm (zl2_eq (Eq.refl (m98, m99, m100, m101, m102)))) f11
              have f11 := Eq.trans (Eq.symm (zl2_eq (Eq.refl (m99, m100, m101, m102)))) f11
              have f11 := Eq.trans (Eq.symm (zl2_eq (Eq.refl (m100, m101, m102)))) f11
              have f11 := Eq.trans (Eq.symm (zl2_eq (Eq.refl (m101, m102)))) f11
              refine ⟨g11.1, ?_⟩
              have g13 := g11.2
              exact ih y1 y2 y3 y4 y6 y8 (y10 + ((m93 y12.toNatClampNeg) - (t_met y12.toNatClampNeg))) (1 : Int32) (y12 + (1 : Int32)) m86 m87 m88 t_firings t_time t_thread t_thrown m89 t_handed t_there t_on t_site m93 t_condition t_code m90 m91 m92 t_actions t_kind t_second m94 t_target m95 m96 m97 m98 m99 m100 m101 t_first m102 _ f11 g13
            · have f9 := Eq.trans (Eq.symm (if_neg c80)) f8
              have g9 := g8.2 c80
              exact ih y1 y2 y3 y4 y6 y8 y10 y11 (y12 + (1 : Int32)) t_recorded t_lost t_dropped t_firings t_time t_thread t_thrown t_failed t_handed t_there t_on t_site t_met t_condition t_code t_pile t_globals t_own t_actions t_kind t_second t_records t_target t_keys t_key t_sum t_least t_greatest t_count t_bins t_first t_failures _ f9 g9
          · have f8 := Eq.trans (Eq.symm (if_neg c78)) f6
            have g8 := g7.2 c78
            refine ⟨fun c105 => ?_, fun c105 => ?_⟩
            · have f14 := Eq.trans (Eq.symm (if_pos c105)) f8
              have g14 := g8.1 c105
              refine ⟨g14.1, ?_⟩
              have g15 := g14.2
              refine ⟨g15.1, ?_⟩
              have g17 := g15.2
              intro m111 m112 m113 m114 m115 m116 m117 m118 m119 m120 m121 m122 m123 m124 m125 m126 m127 e110
              have g16 := g17 m111 m112 m113 m114 m115 m116 m117 m118 m119 m120 m121 m122 m123 m124 m125 m126 m127 e110
              have f16 := Eq.trans (Eq.symm (zl2_eq e110)) f14
              have f16 := Eq.trans (Eq.symm (zl2_eq (Eq.refl (m112, m113, m114, m115, m116, m117, m118, m119, m120, m121, m122, m123, m124, m125, m126, m127)))) f16
              have f16 := Eq.trans (Eq.symm (zl2_eq (Eq.refl (m113, m114, m115, m116, m117, m118, m119, m120, m121, m122, m123, m124, m125, m126, m127)))) f16
              have f16 := Eq.trans (Eq.symm (zl2_eq (Eq.refl (m114, m115, m116, m117, m118, m119, m120, m121, m122, m123, m124, m125, m126, m127)))) f16
              have f16 := Eq.trans (Eq.symm (zl2_eq (Eq.refl (m115, m116, m117, m118, m119, m120, m121, m122, m123, m124, m125, m126, m127)))) f16
              have f16 := Eq.trans (Eq.symm (zl2_eq (Eq.refl (m116, m117, m118, m119, m120, m121, m122, m123, m124, m125, m126, m127)))) f16
              have f16 := Eq.trans (Eq.symm (zl2_eq (Eq.refl (m117, m118, m119, m120, m121, m122, m123, m124, m125, m126, m127)))) f16
              have f16 := Eq.trans (Eq.symm (zl2_eq (Eq.refl (m118, m119, m120, m121, m122, m123, m124, m125, m126, m127)))) f16
              have f16 := Eq.trans (Eq.symm (zl2_eq (Eq.refl (m119, m120, m121, m122, m123, m124, m125, m126, m127)))) f16
              have f16 := Eq.trans (Eq.symm (zl2_eq (Eq.refl (m120, m121, m122, m123, m124, m125, m126, m127)))) f16
              have f16 := Eq.trans (Eq.symm (zl2_eq (Eq.refl (m121, m122, m123, m124, m125, m126, m127)))) f16
              have f16 := Eq.trans (Eq.symm (zl2_eq (Eq.refl (m122, m123, m124, m125, m126, m127)))) f16
              have f16 := Eq.trans (Eq.symm (zl2_eq (Eq.refl (m123, m124, m125, m126, m127)))) f16
              have f16 := Eq.trans (Eq.symm (zl2_eq (Eq.refl (m124, m125, m126, m127)))) f16
              have f16 := Eq.trans (Eq.symm (zl2_eq (Eq.refl (m125, m126, m127)))) f16
              have f16 := Eq.trans (Eq.symm (zl2_eq (Eq.refl (m126, m127)))) f16
              refine ⟨g16.1, ?_⟩
              have g18 := g16.2
              exact ih y1 y2 y3 y4 y6 y8 (y10 + ((m118 y12.toNatClampNeg) - (t_met y12.toNatClampNeg))) (1 : Int32) (y12 + (1 : Int32)) m111 m112 m113 t_firings t_time t_thread t_thrown m114 t_handed t_there t_on t_site m118 t_condition t_code m115 m116 m117 t_actions t_kind t_second m119 t_target m120 m121 m122 m123 m124 m125 m126 t_first m127 _ f16 g18
            · have f14 := Eq.trans (Eq.symm (if_neg c105)) f8
              have g14 := g8.2 c105
              exact ih y1 y2 y3 y4 y6 y8 y10 y11 (y12 + (1 : Int32)) t_recorded t_lost t_dropped t_firings t_time t_thread t_thrown t_failed t_handed t_there t_on t_site t_met t_condition t_code t_pile t_globals t_own t_actions t_kind t_second t_records t_target t_keys t_key t_sum t_least t_greatest t_count t_bins t_first t_failures _ f14 g14
set_option maxRecDepth 100000 in
theorem v_Mo_fire (t_recorded : Int32) (t_lost : Int32) (t_dropped : Int32) (t_firings : Int32) (t_time : Int32) (t_thread : Int32) (t_thrown : Int32) (t_failed : Int32) (t_handed : Nat → UInt64) (t_there : Nat → Int32) (t_on : Nat → Int32) (t_site : Nat → Int32) (t_met : Nat → Int32) (t_condition : Nat → Int32) (t_code : Nat → Int32) (t_pile : Nat → UInt64) (t_globals : Nat → UInt64) (t_own : Nat → UInt64) (t_actions : Nat → Int32) (t_kind : Nat → Int32) (t_second : Nat → Int32) (t_records : Nat → UInt64) (t_target : Nat → Int32) (t_keys : Nat → Int32) (t_key : Nat → Int32) (t_sum : Nat → UInt64) (t_least : Nat → UInt64) (t_greatest : Nat → UInt64) (t_count : Nat → Int32) (t_bins : Nat → Int32) (t_first : Nat → Int32) (t_failures : Nat → Int32) (x1 : Int32) (x2 : Int32) (x3 : Int32) (x4 : UInt64) (x6 : UInt64) (x8 : UInt64) (hp : p_Mo_fire t_recorded t_lost t_dropped t_firings t_time t_thread t_thrown t_failed t_handed t_there t_on t_site t_met t_condition t_code t_pile t_globals t_own t_actions t_kind t_second t_records t_target t_keys t_key t_sum t_least t_greatest t_count t_bins t_first t_failures x1 x2 x3 x4 x6 x8) : WP_Mo_fire t_recorded t_lost t_dropped t_firings t_time t_thread t_thrown t_failed t_handed t_there t_on t_site t_met t_condition t_code t_pile t_globals t_own t_actions t_kind t_second t_records t_target t_keys t_key t_sum t_least t_greatest t_count t_bins t_first t_failures x1 x2 x3 x4 x6 x8 (fun r u => s_Mo_fire t_recorded t_lost t_dropped t_firings t_time t_thread t_thrown t_failed t_handed t_there t_on t_site t_met t_condition t_code t_pile t_globals t_own t_actions t_kind t_second t_records t_target t_keys t_key t_sum t_least t_greatest t_count t_bins t_first t_failures x1 x2 x3 x4 x6 x8 = (r, u.1, u.2.1, u.2.2.1, u.2.2.2.1, u.2.2.2.2.1, u.2.2.2.2.2.1, u.2.2.2.2.2.2.1, u.2.2.2.2.2.2.2.1, u.2.2.2.2.2.2.2.2.1, u.2.2.2.2.2.2.2.2.2.1, u.2.2.2.2.2.2.2.2.2.2.1, u.2.2.2.2.2.2.2.2.2.2.2.1, u.2.2.2.2.2.2.2.2.2.2.2.2.1, u.2.2.2.2.2.2.2.2.2.2.2.2.2.1, u.2.2.2.2.2.2.2.2.2.2.2.2.2.2.1, u.2.2.2.2.2.2.2.2.2.2.2.2.2.2.2.1, u.2.2.2.2.2.2.2.2.2.2.2.2.2.2.2.2.1, u.2.2.2.2.2.2.2.2.2.2.2.2.2.2.2.2.2.1, u.2.2.2.2.2.2.2.2.2.2.2.2.2.2.2.2.2.2.1, u.2.2.2.2.2.2.2.2.2.2.2.2.2.2.2.2.2.2.2.1, u.2.2.2.2.2.2.2.2.2.2.2.2.2.2.2.2.2.2.2.2)) := by
  unfold p_Mo_fire WP_Mo_fire at hp
  obtain ⟨tgt, f0⟩ : ∃ tgt, s_Mo_fire t_recorded t_lost t_dropped t_firings t_time t_thread t_thrown t_failed t_handed t_there t_on t_site t_met t_condition t_code t_pile t_globals t_own t_actions t_kind t_second t_records t_target t_keys t_key t_sum t_least t_greatest t_count t_bins t_first t_failures x1 x2 x3 x4 x6 x8 = tgt := ⟨_, rfl⟩
  rw [f0]
  unfold s_Mo_fire at f0
  unfold WP_Mo_fire
  intro r1 e3
  have g1 := hp r1 e3
  have f1 := Eq.trans (Eq.symm (zl1_eq e3)) f0
  refine ⟨fun c5 => ?_, fun c5 => ?_⟩
  · have f2 := Eq.trans (Eq.symm (if_pos c5)) f1
    have g2 := g1.1 c5
    intro r7 u8 e9
    have g3 := g2 r7 u8 e9
    have f3 := Eq.trans (Eq.symm (zl2_eq e9)) f2
    refine ⟨fun c11 => ?_, fun c11 => ?_⟩
    · have f4 := Eq.trans (Eq.symm (if_pos c11)) f3
      have g4 := g3.1 c11
      exact v_Mo_fire_L95 600 x1 x2 x3 x4 x6 x8 (0 : Int32) (0 : Int32) (0 : Int32) t_recorded t_lost t_dropped t_firings t_time x3 u8 t_failed (vf_upd (vf_upd (vf_upd t_handed 0 x4) 1 x6) 2 x8) t_there t_on t_site t_met t_condition t_code t_pile t_globals t_own t_actions t_kind t_second t_records t_target t_keys t_key t_sum t_least t_greatest t_count t_bins t_first t_failures _ f4 g4
    · have f4 := Eq.trans (Eq.symm (if_neg c11)) f3
      have g4 := g3.2 c11
      exact f4.symm
  · have f2 := Eq.trans (Eq.symm (if_neg c5)) f1
    have g2 := g1.2 c5
    intro r13 e15
    have g5 := g2 r13 e15
    have f5 := Eq.trans (Eq.symm (zl1_eq e15)) f2
    refine ⟨fun c17 => ?_, fun c17 => ?_⟩
    · have f6 := Eq.trans (Eq.symm (if_pos c17)) f5
      have g6 := g5.1 c17
      intro r19 u20 e21
      have g7 := g6 r19 u20 e21
      have f7 := Eq.trans (Eq.symm (zl2_eq e21)) f6
      refine ⟨fun c23 => ?_, fun c23 => ?_⟩
      · have f8 := Eq.trans (Eq.symm (if_pos c23)) f7
        have g8 := g7.1 c23
        exact v_Mo_fire_L95 600 x1 x2 x3 x4 x6 x8 (0 : Int32) (0 : Int32) (0 : Int32) t_recorded t_lost t_dropped t_firings t_time x3 u20 t_failed (vf_upd (vf_upd (vf_upd t_handed 0 x4) 1 x6) 2 x8) t_there t_on t_site t_met t_condition t_code t_pile t_globals t_own t_actions t_kind t_second t_records t_target t_keys t_key t_sum t_least t_greatest t_count t_bins t_first t_failures _ f8 g8
      · have f8 := Eq.trans (Eq.symm (if_neg c23)) f7
        have g8 := g7.2 c23
        exact f8.symm
    · have f6 := Eq.trans (Eq.symm (if_neg c17)) f5
      have g6 := g5.2 c17
      intro r25 e27
      have g9 := g6 r25 e27
      have f9 := Eq.trans (Eq.symm (zl1_eq e27)) f6
      refine ⟨fun c29 => ?_, fun c29 => ?_⟩
      · have f10 := Eq.trans (Eq.symm (if_pos c29)) f9
        have g10 := g9.1 c29
        intro r31 u32 e33
        have g11 := g10 r31 u32 e33
        have f11 := Eq.trans (Eq.symm (zl2_eq e33)) f10
        refine ⟨fun c35 => ?_, fun c35 => ?_⟩
        · have f12 := Eq.trans (Eq.symm (if_pos c35)) f11
          have g12 := g11.1 c35
          exact v_Mo_fire_L95 600 x1 x2 x3 x4 x6 x8 (0 : Int32) (0 : Int32) (0 : Int32) t_recorded t_lost t_dropped t_firings t_time x3 u32 t_failed (vf_upd (vf_upd (vf_upd t_handed 0 x4) 1 x6) 2 x8) t_there t_on t_site t_met t_condition t_code t_pile t_globals t_own t_actions t_kind t_second t_records t_target t_keys t_key t_sum t_least t_greatest t_count t_bins t_first t_failures _ f12 g12
        · have f12 := Eq.trans (Eq.symm (if_neg c35)) f11
          have g12 := g11.2 c35
          exact f12.symm
      · have f10 := Eq.trans (Eq.symm (if_neg c29)) f9
        have g10 := g9.2 c29
        intro r37 e39
        have g13 := g10 r37 e39
        have f13 := Eq.trans (Eq.symm (zl1_eq e39)) f10
        refine ⟨fun c41 => ?_, fun c41 => ?_⟩
        · have f14 := Eq.trans (Eq.symm (if_pos c41)) f13
          have g14 := g13.1 c41
          intro r43 u44 e45
          have g15 := g14 r43 u44 e45
          have f15 := Eq.trans (Eq.symm (zl2_eq e45)) f14
          refine ⟨fun c47 => ?_, fun c47 => ?_⟩
          · have f16 := Eq.trans (Eq.symm (if_pos c47)) f15
            have g16 := g15.1 c47
            exact v_Mo_fire_L95 600 x1 x2 x3 x4 x6 x8 (0 : Int32) (0 : Int32) (0 : Int32) t_recorded t_lost t_dropped t_firings t_time x3 u44 t_failed (vf_upd (vf_upd (vf_upd t_handed 0 x4) 1 x6) 2 x8) t_there t_on t_site t_met t_condition t_code t_pile t_globals t_own t_actions t_kind t_second t_records t_target t_keys t_key t_sum t_least t_greatest t_count t_bins t_first t_failures _ f16 g16
          · have f16 := Eq.trans (Eq.symm (if_neg c47)) f15
            have g16 := g15.2 c47
            exact f16.symm
        · have f14 := Eq.trans (Eq.symm (if_neg c41)) f13
          have g14 := g13.2 c41
          intro r49 e51
          have g17 := g14 r49 e51
          have f17 := Eq.trans (Eq.symm (zl1_eq e51)) f14
          refine ⟨fun c53 => ?_, fun c53 => ?_⟩
          · have f18 := Eq.trans (Eq.symm (if_pos c53)) f17
            have g18 := g17.1 c53
            intro r55 u56 e57
            have g19 := g18 r55 u56 e57
            have f19 := Eq.trans (Eq.symm (zl2_eq e57)) f18
            refine ⟨fun c59 => ?_, fun c59 => ?_⟩
            · have f20 := Eq.trans (Eq.symm (if_pos c59)) f19
              have g20 := g19.1 c59
              exact v_Mo_fire_L95 600 x1 x2 x3 x4 x6 x8 (0 : Int32) (0 : Int32) (0 : Int32) t_recorded t_lost t_dropped t_firings t_time x3 u56 t_failed (vf_upd (vf_upd (vf_upd t_handed 0 x4) 1 x6) 2 x8) t_there t_on t_site t_met t_condition t_code t_pile t_globals t_own t_actions t_kind t_second t_records t_target t_keys t_key t_sum t_least t_greatest t_count t_bins t_first t_failures _ f20 g20
            · have f20 := Eq.trans (Eq.symm (if_neg c59)) f19
              have g20 := g19.2 c59
              exact f20.symm
          · have f18 := Eq.trans (Eq.symm (if_neg c53)) f17
            have g18 := g17.2 c53
            intro r61 u62 e63
            have g21 := g18 r61 u62 e63
            have f21 := Eq.trans (Eq.symm (zl2_eq e63)) f18
            refine ⟨fun c65 => ?_, fun c65 => ?_⟩
            · have f22 := Eq.trans (Eq.symm (if_pos c65)) f21
              have g22 := g21.1 c65
              exact v_Mo_fire_L95 600 x1 x2 x3 x4 x6 x8 (0 : Int32) (0 : Int32) (0 : Int32) t_recorded t_lost t_dropped t_firings t_time x3 u62 t_failed (vf_upd (vf_upd (vf_upd t_handed 0 x4) 1 x6) 2 x8) t_there t_on t_site t_met t_condition t_code t_pile t_globals t_own t_actions t_kind t_second t_records t_target t_keys t_key t_sum t_least t_greatest t_count t_bins t_first t_failures _ f22 g22
            · have f22 := Eq.trans (Eq.symm (if_neg c65)) f21
              have g22 := g21.2 c65
              exact f22.symm
theorem c_Mo_fire (l : Launch) (D : va_G) (K : Nat → ClassId) (q_t : Nat) (q_t_text : Nat) (q_t_code : Nat) (q_t_site : Nat) (q_t_condition : Nat) (q_t_actions : Nat) (q_t_kind : Nat) (q_t_target : Nat) (q_t_first : Nat) (q_t_second : Nat) (q_t_failures : Nat) (q_t_met : Nat) (q_t_there : Nat) (q_t_on : Nat) (q_t_compared : Nat) (q_t_globals : Nat) (q_t_own : Nat) (q_t_records : Nat) (q_t_pile : Nat) (q_t_handed : Nat) (q_t_keys : Nat) (q_t_key : Nat) (q_t_count : Nat) (q_t_bins : Nat) (q_t_operator : Nat) (q_t_starts : Nat) (q_t_sum : Nat) (q_t_least : Nat) (q_t_greatest : Nat) (t_newSite : Int32) (t_newCondition : Int32) (t_newActions : Int32) (t_size : Int32) (t_place : Int32) (t_pos : Int32) (t_at : Int32) (t_operators : Int32) (t_recorded : Int32) (t_lost : Int32) (t_dropped : Int32) (t_firings : Int32) (t_time : Int32) (t_thread : Int32) (t_thrown : Int32) (t_failed : Int32) (t_handed : Nat → UInt64) (t_there : Nat → Int32) (t_on : Nat → Int32) (t_site : Nat → Int32) (t_met : Nat → Int32) (t_condition : Nat → Int32) (t_code : Nat → Int32) (t_pile : Nat → UInt64) (t_globals : Nat → UInt64) (t_own : Nat → UInt64) (t_actions : Nat → Int32) (t_kind : Nat → Int32) (t_second : Nat → Int32) (t_records : Nat → UInt64) (t_target : Nat → Int32) (t_keys : Nat → Int32) (t_key : Nat → Int32) (t_sum : Nat → UInt64) (t_least : Nat → UInt64) (t_greatest : Nat → UInt64) (t_count : Nat → Int32) (t_bins : Nat → Int32) (t_first : Nat → Int32) (t_failures : Nat → Int32) (x1 : Int32) (x2 : Int32) (x3 : Int32) (x4 : UInt64) (x6 : UInt64) (x8 : UInt64) (hp : p_Mo_fire t_recorded t_lost t_dropped t_firings t_time t_thread t_thrown t_failed t_handed t_there t_on t_site t_met t_condition t_code t_pile t_globals t_own t_actions t_kind t_second t_records t_target t_keys t_key t_sum t_least t_greatest t_count t_bins t_first t_failures x1 x2 x3 x4 x6 x8) : zCi l y_Mo_fire wy_Mo_fire rm_Mo_fire D zcl (zT K) [.ref q_t, .int x1, .int x2, .int x3, .double x4, .double x6, .double x8] (w_Mo_fire K q_t q_t_text q_t_code q_t_site q_t_condition q_t_actions q_t_kind q_t_target q_t_first q_t_second q_t_failures q_t_met q_t_there q_t_on q_t_compared q_t_globals q_t_own q_t_records q_t_pile q_t_handed q_t_keys q_t_key q_t_count q_t_bins q_t_operator q_t_starts q_t_sum q_t_least q_t_greatest t_newSite t_newCondition t_newActions t_size t_place t_pos t_at t_operators t_time t_there t_on t_site t_condition t_code t_actions t_kind t_second t_target t_first (t_recorded, t_lost, t_dropped, t_firings, t_thread, t_thrown, t_failed, t_handed, t_met, t_pile, t_globals, t_own, t_records, t_keys, t_key, t_sum, t_least, t_greatest, t_count, t_bins, t_failures)) (w_Mo_fire K q_t q_t_text q_t_code q_t_site q_t_condition q_t_actions q_t_kind q_t_target q_t_first q_t_second q_t_failures q_t_met q_t_there q_t_on q_t_compared q_t_globals q_t_own q_t_records q_t_pile q_t_handed q_t_keys q_t_key q_t_count q_t_bins q_t_operator q_t_starts q_t_sum q_t_least q_t_greatest t_newSite t_newCondition t_newActions t_size t_place t_pos t_at t_operators t_time t_there t_on t_site t_condition t_code t_actions t_kind t_second t_target t_first) (fun r u => s_Mo_fire t_recorded t_lost t_dropped t_firings t_time t_thread t_thrown t_failed t_handed t_there t_on t_site t_met t_condition t_code t_pile t_globals t_own t_actions t_kind t_second t_records t_target t_keys t_key t_sum t_least t_greatest t_count t_bins t_first t_failures x1 x2 x3 x4 x6 x8 = (r, u.1, u.2.1, u.2.2.1, u.2.2.2.1, u.2.2.2.2.1, u.2.2.2.2.2.1, u.2.2.2.2.2.2.1, u.2.2.2.2.2.2.2.1, u.2.2.2.2.2.2.2.2.1, u.2.2.2.2.2.2.2.2.2.1, u.2.2.2.2.2.2.2.2.2.2.1, u.2.2.2.2.2.2.2.2.2.2.2.1, u.2.2.2.2.2.2.2.2.2.2.2.2.1, u.2.2.2.2.2.2.2.2.2.2.2.2.2.1, u.2.2.2.2.2.2.2.2.2.2.2.2.2.2.1, u.2.2.2.2.2.2.2.2.2.2.2.2.2.2.2.1, u.2.2.2.2.2.2.2.2.2.2.2.2.2.2.2.2.1, u.2.2.2.2.2.2.2.2.2.2.2.2.2.2.2.2.2.1, u.2.2.2.2.2.2.2.2.2.2.2.2.2.2.2.2.2.2.1, u.2.2.2.2.2.2.2.2.2.2.2.2.2.2.2.2.2.2.2.1, u.2.2.2.2.2.2.2.2.2.2.2.2.2.2.2.2.2.2.2.2)) 0 0 := cw_Mo_fire l D K q_t q_t_text q_t_code q_t_site q_t_condition q_t_actions q_t_kind q_t_target q_t_first q_t_second q_t_failures q_t_met q_t_there q_t_on q_t_compared q_t_globals q_t_own q_t_records q_t_pile q_t_handed q_t_keys q_t_key q_t_count q_t_bins q_t_operator q_t_starts q_t_sum q_t_least q_t_greatest t_newSite t_newCondition t_newActions t_size t_place t_pos t_at t_operators t_recorded t_lost t_dropped t_firings t_time t_thread t_thrown t_failed t_handed t_there t_on t_site t_met t_condition t_code t_pile t_globals t_own t_actions t_kind t_second t_records t_target t_keys t_key t_sum t_least t_greatest t_count t_bins t_first t_failures x1 x2 x3 x4 x6 x8 (v_Mo_fire t_recorded t_lost t_dropped t_firings t_time t_thread t_thrown t_failed t_handed t_there t_on t_site t_met t_condition t_code t_pile t_globals t_own t_actions t_kind t_second t_records t_target t_keys t_key t_sum t_least t_greatest t_count t_bins t_first t_failures x1 x2 x3 x4 x6 x8 hp)
-- RuleTracerModel.rulesOn()I: reads ['t.there', 't.on'], changes []
abbrev w_Mo_rulesOn (K : Nat → ClassId) (q_t : Nat) (q_t_text : Nat) (q_t_code : Nat) (q_t_site : Nat) (q_t_condition : Nat) (q_t_actions : Nat) (q_t_kind : Nat) (q_t_target : Nat) (q_t_first : Nat) (q_t_second : Nat) (q_t_failures : Nat) (q_t_met : Nat) (q_t_there : Nat) (q_t_on : Nat) (q_t_compared : Nat) (q_t_globals : Nat) (q_t_own : Nat) (q_t_records : Nat) (q_t_pile : Nat) (q_t_handed : Nat) (q_t_keys : Nat) (q_t_key : Nat) (q_t_count : Nat) (q_t_bins : Nat) (q_t_operator : Nat) (q_t_starts : Nat) (q_t_sum : Nat) (q_t_least : Nat) (q_t_greatest : Nat) (t_newSite : Int32) (t_newCondition : Int32) (t_newActions : Int32) (t_size : Int32) (t_place : Int32) (t_pos : Int32) (t_at : Int32) (t_operators : Int32) (t_recorded : Int32) (t_lost : Int32) (t_dropped : Int32) (t_firings : Int32) (t_time : Int32) (t_thread : Int32) (t_thrown : Int32) (t_failed : Int32) (t_there : Nat → Int32) (t_on : Nat → Int32) (u : Unit) : va_W := [zo 6 q_t [.ref q_t_text, .ref q_t_code, .ref q_t_site, .ref q_t_condition, .ref q_t_actions, .ref q_t_kind, .ref q_t_target, .ref q_t_first, .ref q_t_second, .ref q_t_failures, .ref q_t_met, .ref q_t_there, .ref q_t_on, .ref q_t_compared, .ref q_t_globals, .ref q_t_own, .ref q_t_records, .ref q_t_pile, .ref q_t_handed, .ref q_t_keys, .ref q_t_key, .ref q_t_count, .ref q_t_bins, .ref q_t_operator, .ref q_t_starts, .ref q_t_sum, .ref q_t_least, .ref q_t_greatest, .int t_newSite, .int t_newCondition, .int t_newActions, .int t_size, .int t_place, .int t_pos, .int t_at, .int t_operators, .int t_recorded, .int t_lost, .int t_dropped, .int t_firings, .int t_time, .int t_thread, .int t_thrown, .int t_failed], zaZ K q_t_there 6 t_there, zaZ K q_t_on 6 t_on]
abbrev rm_Mo_rulesOn : Room := { frames := 0, cells := 0, slots := 0, locals := 0 }
abbrev wy_Mo_rulesOn : List Cond := .code y_Mo_rulesOn b_Mo_rulesOn 3 (some .int) :: zWT
def WP_Mo_rulesOn_L4 : Nat → Int32 → Int32 → (Nat → Int32) → (Nat → Int32) → (Int32 → Unit → Prop) → Prop
  | 0, _, _, _, _, _ => False
  | n + 1, y1, y2, t_there, t_on, Q => (((6 : Int32) ≤ y2) → Q y1 ()) ∧ ((¬ (6 : Int32) ≤ y2) → vp_in y2 6 ∧ (((t_there y2.toNatClampNeg) = 0) → WP_Mo_rulesOn_L4 n y1 (y2 + (1 : Int32)) t_there t_on Q) ∧ ((¬ (t_there y2.toNatClampNeg) = 0) → vp_in y2 6 ∧ (((t_on y2.toNatClampNeg) = 0) → WP_Mo_rulesOn_L4 n y1 (y2 + (1 : Int32)) t_there t_on Q) ∧ ((¬ (t_on y2.toNatClampNeg) = 0) → WP_Mo_rulesOn_L4 n (y1 + (1 : Int32)) (y2 + (1 : Int32)) t_there t_on Q)))
def WP_Mo_rulesOn (t_there : Nat → Int32) (t_on : Nat → Int32) (Q : Int32 → Unit → Prop) : Prop := WP_Mo_rulesOn_L4 600 (0 : Int32) (0 : Int32) t_there t_on Q
set_option maxHeartbeats 4000000 in
set_option maxRecDepth 100000 in
theorem lw_Mo_rulesOn_L4 {p : Program} {e : Env} {s : State} {m : MethodId} {args : Array Value} {below : List Frame} {meth : Method} {c : Code} {A : Nat → Prop} (l : Launch) (D : va_G) (K : Nat → ClassId) (q_t : Nat) (q_t_text : Nat) (q_t_code : Nat) (q_t_site : Nat) (q_t_condition : Nat) (q_t_actions : Nat) (q_t_kind : Nat) (q_t_target : Nat) (q_t_first : Nat) (q_t_second : Nat) (q_t_failures : Nat) (q_t_met : Nat) (q_t_there : Nat) (q_t_on : Nat) (q_t_compared : Nat) (q_t_globals : Nat) (q_t_own : Nat) (q_t_records : Nat) (q_t_pile : Nat) (q_t_handed : Nat) (q_t_keys : Nat) (q_t_key : Nat) (q_t_count : Nat) (q_t_bins : Nat) (q_t_operator : Nat) (q_t_starts : Nat) (q_t_sum : Nat) (q_t_least : Nat) (q_t_greatest : Nat) (t_newSite : Int32) (t_newCondition : Int32) (t_newActions : Int32) (t_size : Int32) (t_place : Int32) (t_pos : Int32) (t_at : Int32) (t_operators : Int32) (t_recorded : Int32) (t_lost : Int32) (t_dropped : Int32) (t_firings : Int32) (t_time : Int32) (t_thread : Int32) (t_thrown : Int32) (t_failed : Int32) (t_there : Nat → Int32) (t_on : Nat → Int32) {Q : Int32 → Unit → Prop} (C : zCx p s m args c b_Mo_rulesOn 3 R_Mo zWT D zcl (zT K) A) (hr : meth.sig.returnType = (some .int)) (hlk : meth.locks = false) : ∀ (n : Nat) (y1 : Int32) (y2 : Int32), WP_Mo_rulesOn_L4 n y1 y2 t_there t_on Q → zW p l e (headSpec wy_Mo_rulesOn rm_Mo_rulesOn).room s m args below meth c D zcl A 3 0 0 (MQ below (va_Qi Q (zB D zcl (zT K) (w_Mo_rulesOn K q_t q_t_text q_t_code q_t_site q_t_condition q_t_actions q_t_kind q_t_target q_t_first q_t_second q_t_failures q_t_met q_t_there q_t_on q_t_compared q_t_globals q_t_own q_t_records q_t_pile q_t_handed q_t_keys q_t_key q_t_count q_t_bins q_t_operator q_t_starts q_t_sum q_t_least q_t_greatest t_newSite t_newCondition t_newActions t_size t_place t_pos t_at t_operators t_recorded t_lost t_dropped t_firings t_time t_thread t_thrown t_failed t_there t_on) A) A) args s 0 0 A) [(0, .ref q_t), (1, .int y1), (2, .int y2)] [zo 6 q_t [.ref q_t_text, .ref q_t_code, .ref q_t_site, .ref q_t_condition, .ref q_t_actions, .ref q_t_kind, .ref q_t_target, .ref q_t_first, .ref q_t_second, .ref q_t_failures, .ref q_t_met, .ref q_t_there, .ref q_t_on, .ref q_t_compared, .ref q_t_globals, .ref q_t_own, .ref q_t_records, .ref q_t_pile, .ref q_t_handed, .ref q_t_keys, .ref q_t_key, .ref q_t_count, .ref q_t_bins, .ref q_t_operator, .ref q_t_starts, .ref q_t_sum, .ref q_t_least, .ref q_t_greatest, .int t_newSite, .int t_newCondition, .int t_newActions, .int t_size, .int t_place, .int t_pos, .int t_at, .int t_operators, .int t_recorded, .int t_lost, .int t_dropped, .int t_firings, .int t_time, .int t_thread, .int t_thrown, .int t_failed], zaZ K q_t_there 6 t_there, zaZ K q_t_on 6 t_on] 4 [] := by
  intro n
  induction n with
  | zero => intros; contradiction
  | succ n ih =>
    intro y1 y2 hS0
    refine z_iload_n C d_Mo_rulesOn_4 rfl 2 rfl ?_
    refine z_bipush (v := (6 : Int32)) C d_Mo_rulesOn_5 (by decide) ?_
    refine z_icmp_ge (tgt := 37) C d_Mo_rulesOn_7 (by decide) (fun c1 => ?_) (fun c1 => ?_)
    · have hS2 := hS0.1 c1
      refine z_iload_n C d_Mo_rulesOn_37 rfl 1 rfl ?_
      exact z_iret C hr hlk () rfl hS2 d_Mo_rulesOn_38
    · have hS2 := hS0.2 c1
      refine z_aload_n C d_Mo_rulesOn_10 rfl 0 rfl ?_
      refine z_get C 0 rfl rfl in_Mo 11 (by decide) rfl wf_Mo_43 rfl d_Mo_rulesOn_11 ?_
      refine z_iload_n C d_Mo_rulesOn_14 rfl 2 rfl ?_
      refine z_zald C 1 4 rfl rfl hS2.1 d_Mo_rulesOn_15 ?_
      have hS3 := hS2.2
      refine z_if_eq (tgt := 31) C d_Mo_rulesOn_16 (by decide) (fun c4 => ?_) (fun c4 => ?_)
      · have hS5 := hS3.1 c4
        refine z_iinc (j := 2) (v := y2 + (1 : Int32)) (lv' := [(2, .int (y2 + (1 : Int32))), (0, .ref q_t), (1, .int y1)]) C d_Mo_rulesOn_31 rfl rfl (by decide) rfl ?_
        refine z_goto (tgt := 4) C d_Mo_rulesOn_34 (by decide) ?_
        refine z_lpick (lv' := [(0, .ref q_t), (1, .int y1), (2, .int (y2 + (1 : Int32)))]) [1, 2, 0] rfl ?_
        exact ih y1 (y2 + (1 : Int32)) hS5
      · have hS5 := hS3.2 c4
        refine z_aload_n C d_Mo_rulesOn_19 rfl 0 rfl ?_
        refine z_get C 0 rfl rfl in_Mo 12 (by decide) rfl wf_Mo_47 rfl d_Mo_rulesOn_20 ?_
        refine z_iload_n C d_Mo_rulesOn_23 rfl 2 rfl ?_
        refine z_zald C 2 4 rfl rfl hS5.1 d_Mo_rulesOn_24 ?_
        have hS6 := hS5.2
        refine z_if_eq (tgt := 31) C d_Mo_rulesOn_25 (by decide) (fun c7 => ?_) (fun c7 => ?_)
        · have hS8 := hS6.1 c7
          refine z_iinc (j := 2) (v := y2 + (1 : Int32)) (lv' := [(2, .int (y2 + (1 : Int32))), (0, .ref q_t), (1, .int y1)]) C d_Mo_rulesOn_31 rfl rfl (by decide) rfl ?_
          refine z_goto (tgt := 4) C d_Mo_rulesOn_34 (by decide) ?_
          refine z_lpick (lv' := [(0, .ref q_t), (1, .int y1), (2, .int (y2 + (1 : Int32)))]) [1, 2, 0] rfl ?_
          exact ih y1 (y2 + (1 : Int32)) hS8
        · have hS8 := hS6.2 c7
          refine z_iinc (j := 1) (v := y1 + (1 : Int32)) (lv' := [(1, .int (y1 + (1 : Int32))), (0, .ref q_t), (2, .int y2)]) C d_Mo_rulesOn_28 rfl rfl (by decide) rfl ?_
          refine z_iinc (j := 2) (v := y2 + (1 : Int32)) (lv' := [(2, .int (y2 + (1 : Int32))), (1, .int (y1 + (1 : Int32))), (0, .ref q_t)]) C d_Mo_rulesOn_31 rfl rfl (by decide) rfl ?_
          refine z_goto (tgt := 4) C d_Mo_rulesOn_34 (by decide) ?_
          refine z_lpick (lv' := [(0, .ref q_t), (1, .int (y1 + (1 : Int32))), (2, .int (y2 + (1 : Int32)))]) [2, 1, 0] rfl ?_
          exact ih (y1 + (1 : Int32)) (y2 + (1 : Int32)) hS8
set_option maxHeartbeats 4000000 in
set_option maxRecDepth 100000 in
theorem cw_Mo_rulesOn (l : Launch) (D : va_G) (K : Nat → ClassId) (q_t : Nat) (q_t_text : Nat) (q_t_code : Nat) (q_t_site : Nat) (q_t_condition : Nat) (q_t_actions : Nat) (q_t_kind : Nat) (q_t_target : Nat) (q_t_first : Nat) (q_t_second : Nat) (q_t_failures : Nat) (q_t_met : Nat) (q_t_there : Nat) (q_t_on : Nat) (q_t_compared : Nat) (q_t_globals : Nat) (q_t_own : Nat) (q_t_records : Nat) (q_t_pile : Nat) (q_t_handed : Nat) (q_t_keys : Nat) (q_t_key : Nat) (q_t_count : Nat) (q_t_bins : Nat) (q_t_operator : Nat) (q_t_starts : Nat) (q_t_sum : Nat) (q_t_least : Nat) (q_t_greatest : Nat) (t_newSite : Int32) (t_newCondition : Int32) (t_newActions : Int32) (t_size : Int32) (t_place : Int32) (t_pos : Int32) (t_at : Int32) (t_operators : Int32) (t_recorded : Int32) (t_lost : Int32) (t_dropped : Int32) (t_firings : Int32) (t_time : Int32) (t_thread : Int32) (t_thrown : Int32) (t_failed : Int32) (t_there : Nat → Int32) (t_on : Nat → Int32) {Q : Int32 → Unit → Prop} (hS0 : WP_Mo_rulesOn t_there t_on Q) : zCi l y_Mo_rulesOn wy_Mo_rulesOn rm_Mo_rulesOn D zcl (zT K) [.ref q_t] (w_Mo_rulesOn K q_t q_t_text q_t_code q_t_site q_t_condition q_t_actions q_t_kind q_t_target q_t_first q_t_second q_t_failures q_t_met q_t_there q_t_on q_t_compared q_t_globals q_t_own q_t_records q_t_pile q_t_handed q_t_keys q_t_key q_t_count q_t_bins q_t_operator q_t_starts q_t_sum q_t_least q_t_greatest t_newSite t_newCondition t_newActions t_size t_place t_pos t_at t_operators t_recorded t_lost t_dropped t_firings t_time t_thread t_thrown t_failed t_there t_on ()) (w_Mo_rulesOn K q_t q_t_text q_t_code q_t_site q_t_condition q_t_actions q_t_kind q_t_target q_t_first q_t_second q_t_failures q_t_met q_t_there q_t_on q_t_compared q_t_globals q_t_own q_t_records q_t_pile q_t_handed q_t_keys q_t_key q_t_count q_t_bins q_t_operator q_t_starts q_t_sum q_t_least q_t_greatest t_newSite t_newCondition t_newActions t_size t_place t_pos t_at t_operators t_recorded t_lost t_dropped t_firings t_time t_thread t_thrown t_failed t_there t_on) Q 0 0 := by
  refine z_meti (cc := b_Mo_rulesOn) (maxL := 3) (ret := (some .int)) (by decide) rfl (Nat.le_of_ble_eq_true rfl) ?_
  intro p e s m args below meth c A C hr hlk hnm
  refine z_lpick (lv' := [(0, .ref q_t)]) [0] rfl ?_
  refine z_weq (ws' := [zo 6 q_t [.ref q_t_text, .ref q_t_code, .ref q_t_site, .ref q_t_condition, .ref q_t_actions, .ref q_t_kind, .ref q_t_target, .ref q_t_first, .ref q_t_second, .ref q_t_failures, .ref q_t_met, .ref q_t_there, .ref q_t_on, .ref q_t_compared, .ref q_t_globals, .ref q_t_own, .ref q_t_records, .ref q_t_pile, .ref q_t_handed, .ref q_t_keys, .ref q_t_key, .ref q_t_count, .ref q_t_bins, .ref q_t_operator, .ref q_t_starts, .ref q_t_sum, .ref q_t_least, .ref q_t_greatest, .int t_newSite, .int t_newCondition, .int t_newActions, .int t_size, .int t_place, .int t_pos, .int t_at, .int t_operators, .int t_recorded, .int t_lost, .int t_dropped, .int t_firings, .int t_time, .int t_thread, .int t_thrown, .int t_failed], zaZ K q_t_there 6 t_there, zaZ K q_t_on 6 t_on]) rfl ?_
  refine z_iconst (v := (0 : Int32)) C d_Mo_rulesOn_0 (by decide) ?_
  refine z_istore_n (lv' := [(1, .int (0 : Int32)), (0, .ref q_t)]) C d_Mo_rulesOn_1 rfl (by decide) rfl ?_
  refine z_iconst (v := (0 : Int32)) C d_Mo_rulesOn_2 (by decide) ?_
  refine z_istore_n (lv' := [(2, .int (0 : Int32)), (1, .int (0 : Int32)), (0, .ref q_t)]) C d_Mo_rulesOn_3 rfl (by decide) rfl ?_
  refine z_lpick (lv' := [(0, .ref q_t), (1, .int (0 : Int32)), (2, .int (0 : Int32))]) [2, 1, 0] rfl ?_
  exact lw_Mo_rulesOn_L4 l D K q_t q_t_text q_t_code q_t_site q_t_condition q_t_actions q_t_kind q_t_target q_t_first q_t_second q_t_failures q_t_met q_t_there q_t_on q_t_compared q_t_globals q_t_own q_t_records q_t_pile q_t_handed q_t_keys q_t_key q_t_count q_t_bins q_t_operator q_t_starts q_t_sum q_t_least q_t_greatest t_newSite t_newCondition t_newActions t_size t_place t_pos t_at t_operators t_recorded t_lost t_dropped t_firings t_time t_thread t_thrown t_failed t_there t_on C hr hlk 600 (0 : Int32) (0 : Int32) hS0
def s_Mo_rulesOn_L4 : Nat → Int32 → Int32 → (Nat → Int32) → (Nat → Int32) → Int32
  | 0, _, _, _, _ => 0
  | n + 1, y1, y2, t_there, t_on => (if (6 : Int32) ≤ y2 then y1 else (if (t_there y2.toNatClampNeg) = 0 then s_Mo_rulesOn_L4 n y1 (y2 + (1 : Int32)) t_there t_on else (if (t_on y2.toNatClampNeg) = 0 then s_Mo_rulesOn_L4 n y1 (y2 + (1 : Int32)) t_there t_on else s_Mo_rulesOn_L4 n (y1 + (1 : Int32)) (y2 + (1 : Int32)) t_there t_on)))
def s_Mo_rulesOn (t_there : Nat → Int32) (t_on : Nat → Int32) : Int32 := s_Mo_rulesOn_L4 600 (0 : Int32) (0 : Int32) t_there t_on
def p_Mo_rulesOn (t_there : Nat → Int32) (t_on : Nat → Int32) : Prop := WP_Mo_rulesOn t_there t_on (fun _ _ => True)
set_option maxRecDepth 100000 in
theorem v_Mo_rulesOn_L4 : ∀ (n : Nat) (y1 : Int32) (y2 : Int32) (t_there : Nat → Int32) (t_on : Nat → Int32) (tgt : Int32), s_Mo_rulesOn_L4 n y1 y2 t_there t_on = tgt → WP_Mo_rulesOn_L4 n y1 y2 t_there t_on (fun _ _ => True) → WP_Mo_rulesOn_L4 n y1 y2 t_there t_on (fun r u => tgt = r) := by
  intro n
  induction n with
  | zero => intros; contradiction
  | succ n ih =>
    intro y1 y2 t_there t_on tgt f0 hp
    unfold s_Mo_rulesOn_L4 at f0
    unfold WP_Mo_rulesOn_L4 at hp ⊢
    refine ⟨fun c1 => ?_, fun c1 => ?_⟩
    · have f1 := Eq.trans (Eq.symm (if_pos c1)) f0
      have g1 := hp.1 c1
      exact f1.symm
    · have f1 := Eq.trans (Eq.symm (if_neg c1)) f0
      have g1 := hp.2 c1
      refine ⟨g1.1, ?_⟩
      have g2 := g1.2
      refine ⟨fun c4 => ?_, fun c4 => ?_⟩
      · have f3 := Eq.trans (Eq.symm (if_pos c4)) f1
        have g3 := g2.1 c4
        exact ih y1 (y2 + (1 : Int32)) t_there t_on _ f3 g3
      · have f3 := Eq.trans (Eq.symm (if_neg c4)) f1
        have g3 := g2.2 c4
        refine ⟨g3.1, ?_⟩
        have g4 := g3.2
        refine ⟨fun c7 => ?_, fun c7 => ?_⟩
        · have f5 := Eq.trans (Eq.symm (if_pos c7)) f3
          have g5 := g4.1 c7
          exact ih y1 (y2 + (1 : Int32)) t_there t_on _ f5 g5
        · have f5 := Eq.trans (Eq.symm (if_neg c7)) f3
          have g5 := g4.2 c7
          exact ih (y1 + (1 : Int32)) (y2 + (1 : Int32)) t_there t_on _ f5 g5
set_option maxRecDepth 100000 in
theorem v_Mo_rulesOn (t_there : Nat → Int32) (t_on : Nat → Int32) (hp : p_Mo_rulesOn t_there t_on) : WP_Mo_rulesOn t_there t_on (fun r u => s_Mo_rulesOn t_there t_on = r) := by
  unfold p_Mo_rulesOn WP_Mo_rulesOn at hp
  obtain ⟨tgt, f0⟩ : ∃ tgt, s_Mo_rulesOn t_there t_on = tgt := ⟨_, rfl⟩
  rw [f0]
  unfold s_Mo_rulesOn at f0
  unfold WP_Mo_rulesOn
  exact v_Mo_rulesOn_L4 600 (0 : Int32) (0 : Int32) t_there t_on _ f0 hp
theorem c_Mo_rulesOn (l : Launch) (D : va_G) (K : Nat → ClassId) (q_t : Nat) (q_t_text : Nat) (q_t_code : Nat) (q_t_site : Nat) (q_t_condition : Nat) (q_t_actions : Nat) (q_t_kind : Nat) (q_t_target : Nat) (q_t_first : Nat) (q_t_second : Nat) (q_t_failures : Nat) (q_t_met : Nat) (q_t_there : Nat) (q_t_on : Nat) (q_t_compared : Nat) (q_t_globals : Nat) (q_t_own : Nat) (q_t_records : Nat) (q_t_pile : Nat) (q_t_handed : Nat) (q_t_keys : Nat) (q_t_key : Nat) (q_t_count : Nat) (q_t_bins : Nat) (q_t_operator : Nat) (q_t_starts : Nat) (q_t_sum : Nat) (q_t_least : Nat) (q_t_greatest : Nat) (t_newSite : Int32) (t_newCondition : Int32) (t_newActions : Int32) (t_size : Int32) (t_place : Int32) (t_pos : Int32) (t_at : Int32) (t_operators : Int32) (t_recorded : Int32) (t_lost : Int32) (t_dropped : Int32) (t_firings : Int32) (t_time : Int32) (t_thread : Int32) (t_thrown : Int32) (t_failed : Int32) (t_there : Nat → Int32) (t_on : Nat → Int32) (hp : p_Mo_rulesOn t_there t_on) : zCi l y_Mo_rulesOn wy_Mo_rulesOn rm_Mo_rulesOn D zcl (zT K) [.ref q_t] (w_Mo_rulesOn K q_t q_t_text q_t_code q_t_site q_t_condition q_t_actions q_t_kind q_t_target q_t_first q_t_second q_t_failures q_t_met q_t_there q_t_on q_t_compared q_t_globals q_t_own q_t_records q_t_pile q_t_handed q_t_keys q_t_key q_t_count q_t_bins q_t_operator q_t_starts q_t_sum q_t_least q_t_greatest t_newSite t_newCondition t_newActions t_size t_place t_pos t_at t_operators t_recorded t_lost t_dropped t_firings t_time t_thread t_thrown t_failed t_there t_on ()) (w_Mo_rulesOn K q_t q_t_text q_t_code q_t_site q_t_condition q_t_actions q_t_kind q_t_target q_t_first q_t_second q_t_failures q_t_met q_t_there q_t_on q_t_compared q_t_globals q_t_own q_t_records q_t_pile q_t_handed q_t_keys q_t_key q_t_count q_t_bins q_t_operator q_t_starts q_t_sum q_t_least q_t_greatest t_newSite t_newCondition t_newActions t_size t_place t_pos t_at t_operators t_recorded t_lost t_dropped t_firings t_time t_thread t_thrown t_failed t_there t_on) (fun r u => s_Mo_rulesOn t_there t_on = r) 0 0 := cw_Mo_rulesOn l D K q_t q_t_text q_t_code q_t_site q_t_condition q_t_actions q_t_kind q_t_target q_t_first q_t_second q_t_failures q_t_met q_t_there q_t_on q_t_compared q_t_globals q_t_own q_t_records q_t_pile q_t_handed q_t_keys q_t_key q_t_count q_t_bins q_t_operator q_t_starts q_t_sum q_t_least q_t_greatest t_newSite t_newCondition t_newActions t_size t_place t_pos t_at t_operators t_recorded t_lost t_dropped t_firings t_time t_thread t_thrown t_failed t_there t_on (v_Mo_rulesOn t_there t_on hp)
-- RuleTracerModel.turn(IZ)I: reads ['t.thrown', 't.there', 't.on'], changes ['t.thrown', 't.on']
abbrev w_Mo_turn (K : Nat → ClassId) (q_t : Nat) (q_t_text : Nat) (q_t_code : Nat) (q_t_site : Nat) (q_t_condition : Nat) (q_t_actions : Nat) (q_t_kind : Nat) (q_t_target : Nat) (q_t_first : Nat) (q_t_second : Nat) (q_t_failures : Nat) (q_t_met : Nat) (q_t_there : Nat) (q_t_on : Nat) (q_t_compared : Nat) (q_t_globals : Nat) (q_t_own : Nat) (q_t_records : Nat) (q_t_pile : Nat) (q_t_handed : Nat) (q_t_keys : Nat) (q_t_key : Nat) (q_t_count : Nat) (q_t_bins : Nat) (q_t_operator : Nat) (q_t_starts : Nat) (q_t_sum : Nat) (q_t_least : Nat) (q_t_greatest : Nat) (t_newSite : Int32) (t_newCondition : Int32) (t_newActions : Int32) (t_size : Int32) (t_place : Int32) (t_pos : Int32) (t_at : Int32) (t_operators : Int32) (t_recorded : Int32) (t_lost : Int32) (t_dropped : Int32) (t_firings : Int32) (t_time : Int32) (t_thread : Int32) (t_failed : Int32) (t_there : Nat → Int32) (u : Int32 × (Nat → Int32)) : va_W := [zo 6 q_t [.ref q_t_text, .ref q_t_code, .ref q_t_site, .ref q_t_condition, .ref q_t_actions, .ref q_t_kind, .ref q_t_target, .ref q_t_first, .ref q_t_second, .ref q_t_failures, .ref q_t_met, .ref q_t_there, .ref q_t_on, .ref q_t_compared, .ref q_t_globals, .ref q_t_own, .ref q_t_records, .ref q_t_pile, .ref q_t_handed, .ref q_t_keys, .ref q_t_key, .ref q_t_count, .ref q_t_bins, .ref q_t_operator, .ref q_t_starts, .ref q_t_sum, .ref q_t_least, .ref q_t_greatest, .int t_newSite, .int t_newCondition, .int t_newActions, .int t_size, .int t_place, .int t_pos, .int t_at, .int t_operators, .int t_recorded, .int t_lost, .int t_dropped, .int t_firings, .int t_time, .int t_thread, .int u.1, .int t_failed], zaZ K q_t_there 6 t_there, zaZ K q_t_on 6 u.2]
abbrev rm_Mo_turn : Room := { frames := 1, cells := 0, slots := 0, locals := 22 }
abbrev wy_Mo_turn : List Cond := .code y_Mo_turn b_Mo_turn 3 (some .int) :: zWT
def WP_Mo_turn (t_thrown : Int32) (t_there : Nat → Int32) (t_on : Nat → Int32) (x1 : Int32) (x2 : Int32) (Q : Int32 → (Int32 × (Nat → Int32)) → Prop) : Prop := (∀ (r1 : Int32), s_Mo_in x1 (0 : Int32) (5 : Int32) = r1 → (∀ (r5 : Int32) (u6 : Int32), s_Mo_bad t_thrown r1 = (r5, u6) → ((r5 = 0) → vp_in x1 6 ∧ ((¬ (t_there x1.toNatClampNeg) = 0) → vp_in x1 6 ∧ p_Mo_rulesOn t_there (upd t_on x1.toNatClampNeg (vp_nar .boolean x2)) ∧ (∀ (r15 : Int32), s_Mo_rulesOn t_there (upd t_on x1.toNatClampNeg (vp_nar .boolean x2)) = r15 → Q r15 (u6, upd t_on x1.toNatClampNeg (vp_nar .boolean x2)))) ∧ (((t_there x1.toNatClampNeg) = 0) → Q (0 : Int32) ((2 : Int32), t_on))) ∧ ((¬ r5 = 0) → Q (0 : Int32) (u6, t_on))))
set_option maxHeartbeats 4000000 in
set_option maxRecDepth 100000 in
theorem cw_Mo_turn (l : Launch) (D : va_G) (K : Nat → ClassId) (q_t : Nat) (q_t_text : Nat) (q_t_code : Nat) (q_t_site : Nat) (q_t_condition : Nat) (q_t_actions : Nat) (q_t_kind : Nat) (q_t_target : Nat) (q_t_first : Nat) (q_t_second : Nat) (q_t_failures : Nat) (q_t_met : Nat) (q_t_there : Nat) (q_t_on : Nat) (q_t_compared : Nat) (q_t_globals : Nat) (q_t_own : Nat) (q_t_records : Nat) (q_t_pile : Nat) (q_t_handed : Nat) (q_t_keys : Nat) (q_t_key : Nat) (q_t_count : Nat) (q_t_bins : Nat) (q_t_operator : Nat) (q_t_starts : Nat) (q_t_sum : Nat) (q_t_least : Nat) (q_t_greatest : Nat) (t_newSite : Int32) (t_newCondition : Int32) (t_newActions : Int32) (t_size : Int32) (t_place : Int32) (t_pos : Int32) (t_at : Int32) (t_operators : Int32) (t_recorded : Int32) (t_lost : Int32) (t_dropped : Int32) (t_firings : Int32) (t_time : Int32) (t_thread : Int32) (t_thrown : Int32) (t_failed : Int32) (t_there : Nat → Int32) (t_on : Nat → Int32) (x1 : Int32) (x2 : Int32) {Q : Int32 → (Int32 × (Nat → Int32)) → Prop} (hS0 : WP_Mo_turn t_thrown t_there t_on x1 x2 Q) : zCi l y_Mo_turn wy_Mo_turn rm_Mo_turn D zcl (zT K) [.ref q_t, .int x1, .int x2] (w_Mo_turn K q_t q_t_text q_t_code q_t_site q_t_condition q_t_actions q_t_kind q_t_target q_t_first q_t_second q_t_failures q_t_met q_t_there q_t_on q_t_compared q_t_globals q_t_own q_t_records q_t_pile q_t_handed q_t_keys q_t_key q_t_count q_t_bins q_t_operator q_t_starts q_t_sum q_t_least q_t_greatest t_newSite t_newCondition t_newActions t_size t_place t_pos t_at t_operators t_recorded t_lost t_dropped t_firings t_time t_thread t_failed t_there (t_thrown, t_on)) (w_Mo_turn K q_t q_t_text q_t_code q_t_site q_t_condition q_t_actions q_t_kind q_t_target q_t_first q_t_second q_t_failures q_t_met q_t_there q_t_on q_t_compared q_t_globals q_t_own q_t_records q_t_pile q_t_handed q_t_keys q_t_key q_t_count q_t_bins q_t_operator q_t_starts q_t_sum q_t_least q_t_greatest t_newSite t_newCondition t_newActions t_size t_place t_pos t_at t_operators t_recorded t_lost t_dropped t_firings t_time t_thread t_failed t_there) Q 0 0 := by
  refine z_meti (cc := b_Mo_turn) (maxL := 3) (ret := (some .int)) (by decide) rfl (Nat.le_of_ble_eq_true rfl) ?_
  intro p e s m args below meth c A C hr hlk hnm
  refine z_lpick (lv' := [(0, .ref q_t), (1, .int x1), (2, .int x2)]) [0, 1, 2] rfl ?_
  refine z_weq (ws' := [zo 6 q_t [.ref q_t_text, .ref q_t_code, .ref q_t_site, .ref q_t_condition, .ref q_t_actions, .ref q_t_kind, .ref q_t_target, .ref q_t_first, .ref q_t_second, .ref q_t_failures, .ref q_t_met, .ref q_t_there, .ref q_t_on, .ref q_t_compared, .ref q_t_globals, .ref q_t_own, .ref q_t_records, .ref q_t_pile, .ref q_t_handed, .ref q_t_keys, .ref q_t_key, .ref q_t_count, .ref q_t_bins, .ref q_t_operator, .ref q_t_starts, .ref q_t_sum, .ref q_t_least, .ref q_t_greatest, .int t_newSite, .int t_newCondition, .int t_newActions, .int t_size, .int t_place, .int t_pos, .int t_at, .int t_operators, .int t_recorded, .int t_lost, .int t_dropped, .int t_firings, .int t_time, .int t_thread, .int t_thrown, .int t_failed], zaZ K q_t_there 6 t_there, zaZ K q_t_on 6 t_on]) rfl ?_
  refine z_aload_n C d_Mo_turn_0 rfl 0 rfl ?_
  refine z_iload_n C d_Mo_turn_1 rfl 1 rfl ?_
  refine z_iconst (v := (0 : Int32)) C d_Mo_turn_2 (by decide) ?_
  refine z_iconst (v := (5 : Int32)) C d_Mo_turn_3 (by decide) ?_
  refine z_callSi (As := [.int x1, .int (0 : Int32), .int (5 : Int32)]) (st := [.ref q_t]) (wr := [zo 6 q_t [.ref q_t_text, .ref q_t_code, .ref q_t_site, .ref q_t_condition, .ref q_t_actions, .ref q_t_kind, .ref q_t_target, .ref q_t_first, .ref q_t_second, .ref q_t_failures, .ref q_t_met, .ref q_t_there, .ref q_t_on, .ref q_t_compared, .ref q_t_globals, .ref q_t_own, .ref q_t_records, .ref q_t_pile, .ref q_t_handed, .ref q_t_keys, .ref q_t_key, .ref q_t_count, .ref q_t_bins, .ref q_t_operator, .ref q_t_starts, .ref q_t_sum, .ref q_t_least, .ref q_t_greatest, .int t_newSite, .int t_newCondition, .int t_newActions, .int t_size, .int t_place, .int t_pos, .int t_at, .int t_operators, .int t_recorded, .int t_lost, .int t_dropped, .int t_firings, .int t_time, .int t_thread, .int t_thrown, .int t_failed], zaZ K q_t_there 6 t_there, zaZ K q_t_on 6 t_on]) (wj := fun u => [zo 6 q_t [.ref q_t_text, .ref q_t_code, .ref q_t_site, .ref q_t_condition, .ref q_t_actions, .ref q_t_kind, .ref q_t_target, .ref q_t_first, .ref q_t_second, .ref q_t_failures, .ref q_t_met, .ref q_t_there, .ref q_t_on, .ref q_t_compared, .ref q_t_globals, .ref q_t_own, .ref q_t_records, .ref q_t_pile, .ref q_t_handed, .ref q_t_keys, .ref q_t_key, .ref q_t_count, .ref q_t_bins, .ref q_t_operator, .ref q_t_starts, .ref q_t_sum, .ref q_t_least, .ref q_t_greatest, .int t_newSite, .int t_newCondition, .int t_newActions, .int t_size, .int t_place, .int t_pos, .int t_at, .int t_operators, .int t_recorded, .int t_lost, .int t_dropped, .int t_firings, .int t_time, .int t_thread, .int t_thrown, .int t_failed], zaZ K q_t_there 6 t_there, zaZ K q_t_on 6 t_on]) C (c_Mo_in l D K x1 (0 : Int32) (5 : Int32)) (cwS 3 C.2.2.2.2.1 (z_gS wl_Mo_103 ws_Mo_in wz_Mo wk_Mo_in) rfl rfl rfl (by decide +kernel) ⟨Nat.le_of_ble_eq_true rfl, Nat.le_of_ble_eq_true rfl⟩) [] [0, 1, 2] [0, 1, 2] rfl rfl rfl rfl (by decide) (fun _ => rfl) rfl rfl rfl (Nat.le_of_ble_eq_true rfl) d_Mo_turn_4 ⟨Nat.le_of_ble_eq_true rfl, Nat.le_of_ble_eq_true rfl⟩ (fun r1 u2 e3 => ?_)
  have hS4 := hS0 r1 e3
  refine z_callVi (As := [.int r1]) (b := q_t) (st := []) (wr := [zaZ K q_t_there 6 t_there, zaZ K q_t_on 6 t_on]) (wj := fun u => [zo 6 q_t [.ref q_t_text, .ref q_t_code, .ref q_t_site, .ref q_t_condition, .ref q_t_actions, .ref q_t_kind, .ref q_t_target, .ref q_t_first, .ref q_t_second, .ref q_t_failures, .ref q_t_met, .ref q_t_there, .ref q_t_on, .ref q_t_compared, .ref q_t_globals, .ref q_t_own, .ref q_t_records, .ref q_t_pile, .ref q_t_handed, .ref q_t_keys, .ref q_t_key, .ref q_t_count, .ref q_t_bins, .ref q_t_operator, .ref q_t_starts, .ref q_t_sum, .ref q_t_least, .ref q_t_greatest, .int t_newSite, .int t_newCondition, .int t_newActions, .int t_size, .int t_place, .int t_pos, .int t_at, .int t_operators, .int t_recorded, .int t_lost, .int t_dropped, .int t_firings, .int t_time, .int t_thread, .int u, .int t_failed], zaZ K q_t_there 6 t_there, zaZ K q_t_on 6 t_on]) C 0 rfl rfl (c_Mo_bad l D K q_t q_t_text q_t_code q_t_site q_t_condition q_t_actions q_t_kind q_t_target q_t_first q_t_second q_t_failures q_t_met q_t_there q_t_on q_t_compared q_t_globals q_t_own q_t_records q_t_pile q_t_handed q_t_keys q_t_key q_t_count q_t_bins q_t_operator q_t_starts q_t_sum q_t_least q_t_greatest t_newSite t_newCondition t_newActions t_size t_place t_pos t_at t_operators t_recorded t_lost t_dropped t_firings t_time t_thread t_thrown t_failed r1) (cwV 1 C.2.2.2.2.1 (z_gV wl_Mo_107 wi_Mo_bad wv_Mo_bad wz_Mo wk_Mo_bad) rfl rfl rfl (by decide +kernel) ⟨Nat.le_of_ble_eq_true rfl, Nat.le_of_ble_eq_true rfl⟩) [0] [1, 2] [2, 0, 1] rfl rfl rfl rfl (by decide) (fun _ => rfl) rfl rfl rfl (Nat.le_of_ble_eq_true rfl) d_Mo_turn_7 ⟨Nat.le_of_ble_eq_true rfl, Nat.le_of_ble_eq_true rfl⟩ (fun r5 u6 e7 => ?_)
  have hS8 := hS4 r5 u6 e7
  refine z_if_eq (tgt := 15) C d_Mo_turn_10 (by decide) (fun c9 => ?_) (fun c9 => ?_)
  · have hS10 := hS8.1 c9
    refine z_aload_n C d_Mo_turn_15 rfl 0 rfl ?_
    refine z_get C 0 rfl rfl in_Mo 11 (by decide) rfl wf_Mo_43 rfl d_Mo_turn_16 ?_
    refine z_iload_n C d_Mo_turn_19 rfl 1 rfl ?_
    refine z_zald C 1 4 rfl rfl hS10.1 d_Mo_turn_20 ?_
    have hS11 := hS10.2
    refine z_if_ne (tgt := 31) C d_Mo_turn_21 (by decide) (fun c12 => ?_) (fun c12 => ?_)
    · have hS13 := hS11.1 c12
      refine z_aload_n C d_Mo_turn_31 rfl 0 rfl ?_
      refine z_get C 0 rfl rfl in_Mo 12 (by decide) rfl wf_Mo_47 rfl d_Mo_turn_32 ?_
      refine z_iload_n C d_Mo_turn_35 rfl 1 rfl ?_
      refine z_iload_n C d_Mo_turn_36 rfl 2 rfl ?_
      refine z_zast (ws' := [zo 6 q_t [.ref q_t_text, .ref q_t_code, .ref q_t_site, .ref q_t_condition, .ref q_t_actions, .ref q_t_kind, .ref q_t_target, .ref q_t_first, .ref q_t_second, .ref q_t_failures, .ref q_t_met, .ref q_t_there, .ref q_t_on, .ref q_t_compared, .ref q_t_globals, .ref q_t_own, .ref q_t_records, .ref q_t_pile, .ref q_t_handed, .ref q_t_keys, .ref q_t_key, .ref q_t_count, .ref q_t_bins, .ref q_t_operator, .ref q_t_starts, .ref q_t_sum, .ref q_t_least, .ref q_t_greatest, .int t_newSite, .int t_newCondition, .int t_newActions, .int t_size, .int t_place, .int t_pos, .int t_at, .int t_operators, .int t_recorded, .int t_lost, .int t_dropped, .int t_firings, .int t_time, .int t_thread, .int u6, .int t_failed], zaZ K q_t_there 6 t_there, zaZ K q_t_on 6 (upd t_on x1.toNatClampNeg (vp_nar .boolean x2))]) C 2 4 rfl rfl hS13.1 rfl d_Mo_turn_37 ?_
      have hS14 := hS13.2
      refine z_aload_n C d_Mo_turn_38 rfl 0 rfl ?_
      refine z_callVi (As := []) (b := q_t) (st := []) (wr := []) (wj := fun u => [zo 6 q_t [.ref q_t_text, .ref q_t_code, .ref q_t_site, .ref q_t_condition, .ref q_t_actions, .ref q_t_kind, .ref q_t_target, .ref q_t_first, .ref q_t_second, .ref q_t_failures, .ref q_t_met, .ref q_t_there, .ref q_t_on, .ref q_t_compared, .ref q_t_globals, .ref q_t_own, .ref q_t_records, .ref q_t_pile, .ref q_t_handed, .ref q_t_keys, .ref q_t_key, .ref q_t_count, .ref q_t_bins, .ref q_t_operator, .ref q_t_starts, .ref q_t_sum, .ref q_t_least, .ref q_t_greatest, .int t_newSite, .int t_newCondition, .int t_newActions, .int t_size, .int t_place, .int t_pos, .int t_at, .int t_operators, .int t_recorded, .int t_lost, .int t_dropped, .int t_firings, .int t_time, .int t_thread, .int u6, .int t_failed], zaZ K q_t_there 6 t_there, zaZ K q_t_on 6 (upd t_on x1.toNatClampNeg (vp_nar .boolean x2))]) C 0 rfl rfl (c_Mo_rulesOn l D K q_t q_t_text q_t_code q_t_site q_t_condition q_t_actions q_t_kind q_t_target q_t_first q_t_second q_t_failures q_t_met q_t_there q_t_on q_t_compared q_t_globals q_t_own q_t_records q_t_pile q_t_handed q_t_keys q_t_key q_t_count q_t_bins q_t_operator q_t_starts q_t_sum q_t_least q_t_greatest t_newSite t_newCondition t_newActions t_size t_place t_pos t_at t_operators t_recorded t_lost t_dropped t_firings t_time t_thread u6 t_failed t_there (upd t_on x1.toNatClampNeg (vp_nar .boolean x2)) hS14.1) (cwV 0 C.2.2.2.2.1 (z_gV wl_Mo_237 wi_Mo_rulesOn wv_Mo_rulesOn wz_Mo wk_Mo_rulesOn) rfl rfl rfl (by decide +kernel) ⟨Nat.le_of_ble_eq_true rfl, Nat.le_of_ble_eq_true rfl⟩) [0, 1, 2] [] [0, 1, 2] rfl rfl rfl rfl (by decide) (fun _ => rfl) rfl rfl rfl (Nat.le_of_ble_eq_true rfl) d_Mo_turn_39 ⟨Nat.le_of_ble_eq_true rfl, Nat.le_of_ble_eq_true rfl⟩ (fun r15 u16 e17 => ?_)
      have hS18 := hS14.2 r15 e17
      exact z_iret C hr hlk (u6, upd t_on x1.toNatClampNeg (vp_nar .boolean x2)) rfl hS18 d_Mo_turn_42
    · have hS13 := hS11.2 c12
      refine z_aload_n C d_Mo_turn_24 rfl 0 rfl ?_
      refine z_iconst (v := (2 : Int32)) C d_Mo_turn_25 (by decide) ?_
      refine z_put (ty := .int) (ws' := [zo 6 q_t [.ref q_t_text, .ref q_t_code, .ref q_t_site, .ref q_t_condition, .ref q_t_actions, .ref q_t_kind, .ref q_t_target, .ref q_t_first, .ref q_t_second, .ref q_t_failures, .ref q_t_met, .ref q_t_there, .ref q_t_on, .ref q_t_compared, .ref q_t_globals, .ref q_t_own, .ref q_t_records, .ref q_t_pile, .ref q_t_handed, .ref q_t_keys, .ref q_t_key, .ref q_t_count, .ref q_t_bins, .ref q_t_operator, .ref q_t_starts, .ref q_t_sum, .ref q_t_least, .ref q_t_greatest, .int t_newSite, .int t_newCondition, .int t_newActions, .int t_size, .int t_place, .int t_pos, .int t_at, .int t_operators, .int t_recorded, .int t_lost, .int t_dropped, .int t_firings, .int t_time, .int t_thread, .int (2 : Int32), .int t_failed], zaZ K q_t_there 6 t_there, zaZ K q_t_on 6 t_on]) C ty_Mo to_Mo nm_Mo 0 rfl rfl in_Mo 42 (by decide) rfl wf_Mo_100 rfl rfl rfl rfl (Nat.le_of_ble_eq_true rfl) rfl d_Mo_turn_26 ?_
      refine z_iconst (v := (0 : Int32)) C d_Mo_turn_29 (by decide) ?_
      exact z_iret C hr hlk ((2 : Int32), t_on) rfl hS13 d_Mo_turn_30
  · have hS10 := hS8.2 c9
    refine z_iconst (v := (0 : Int32)) C d_Mo_turn_13 (by decide) ?_
    exact z_iret C hr hlk (u6, t_on) rfl hS10 d_Mo_turn_14
def s_Mo_turn (t_thrown : Int32) (t_there : Nat → Int32) (t_on : Nat → Int32) (x1 : Int32) (x2 : Int32) : Int32 × Int32 × (Nat → Int32) := (zl1 (s_Mo_in x1 (0 : Int32) (5 : Int32)) fun r1 => (zl2 (s_Mo_bad t_thrown r1) (fun r5 u6 => (if r5 = 0 then (if (t_there x1.toNatClampNeg) = 0 then ((0 : Int32), (2 : Int32), t_on) else (zl1 (s_Mo_rulesOn t_there (upd t_on x1.toNatClampNeg (vp_nar .boolean x2))) fun r15 => (r15, u6, upd t_on x1.toNatClampNeg (vp_nar .boolean x2)))) else ((0 : Int32), u6, t_on)))))
def p_Mo_turn (t_thrown : Int32) (t_there : Nat → Int32) (t_on : Nat → Int32) (x1 : Int32) (x2 : Int32) : Prop := WP_Mo_turn t_thrown t_there t_on x1 x2 (fun _ _ => True)
set_option maxRecDepth 100000 in
theorem v_Mo_turn (t_thrown : Int32) (t_there : Nat → Int32) (t_on : Nat → Int32) (x1 : Int32) (x2 : Int32) (hp : p_Mo_turn t_thrown t_there t_on x1 x2) : WP_Mo_turn t_thrown t_there t_on x1 x2 (fun r u => s_Mo_turn t_thrown t_there t_on x1 x2 = (r, u.1, u.2)) := by
  unfold p_Mo_turn WP_Mo_turn at hp
  obtain ⟨tgt, f0⟩ : ∃ tgt, s_Mo_turn t_thrown t_there t_on x1 x2 = tgt := ⟨_, rfl⟩
  rw [f0]
  unfold s_Mo_turn at f0
  unfold WP_Mo_turn
  intro r1 e3
  have g1 := hp r1 e3
  have f1 := Eq.trans (Eq.symm (zl1_eq e3)) f0
  intro r5 u6 e7
  have g2 := g1 r5 u6 e7
  have f2 := Eq.trans (Eq.symm (zl2_eq e7)) f1
  refine ⟨fun c9 => ?_, fun c9 => ?_⟩
  · have f3 := Eq.trans (Eq.symm (if_pos c9)) f2
    have g3 := g2.1 c9
    refine ⟨g3.1, ?_⟩
    have g4 := g3.2
    refine ⟨fun c12 => ?_, fun c12 => ?_⟩
    · have f5 := Eq.trans (Eq.symm (if_neg c12)) f3
      have g5 := g4.1 c12
      refine ⟨g5.1, ?_⟩
      have g6 := g5.2
      refine ⟨g6.1, ?_⟩
      have g8 := g6.2
      intro r15 e17
      have g7 := g8 r15 e17
      have f7 := Eq.trans (Eq.symm (zl1_eq e17)) f5
      exact f7.symm
    · have f5 := Eq.trans (Eq.symm (if_pos c12)) f3
      have g5 := g4.2 c12
      exact f5.symm
  · have f3 := Eq.trans (Eq.symm (if_neg c9)) f2
    have g3 := g2.2 c9
    exact f3.symm
theorem c_Mo_turn (l : Launch) (D : va_G) (K : Nat → ClassId) (q_t : Nat) (q_t_text : Nat) (q_t_code : Nat) (q_t_site : Nat) (q_t_condition : Nat) (q_t_actions : Nat) (q_t_kind : Nat) (q_t_target : Nat) (q_t_first : Nat) (q_t_second : Nat) (q_t_failures : Nat) (q_t_met : Nat) (q_t_there : Nat) (q_t_on : Nat) (q_t_compared : Nat) (q_t_globals : Nat) (q_t_own : Nat) (q_t_records : Nat) (q_t_pile : Nat) (q_t_handed : Nat) (q_t_keys : Nat) (q_t_key : Nat) (q_t_count : Nat) (q_t_bins : Nat) (q_t_operator : Nat) (q_t_starts : Nat) (q_t_sum : Nat) (q_t_least : Nat) (q_t_greatest : Nat) (t_newSite : Int32) (t_newCondition : Int32) (t_newActions : Int32) (t_size : Int32) (t_place : Int32) (t_pos : Int32) (t_at : Int32) (t_operators : Int32) (t_recorded : Int32) (t_lost : Int32) (t_dropped : Int32) (t_firings : Int32) (t_time : Int32) (t_thread : Int32) (t_thrown : Int32) (t_failed : Int32) (t_there : Nat → Int32) (t_on : Nat → Int32) (x1 : Int32) (x2 : Int32) (hp : p_Mo_turn t_thrown t_there t_on x1 x2) : zCi l y_Mo_turn wy_Mo_turn rm_Mo_turn D zcl (zT K) [.ref q_t, .int x1, .int x2] (w_Mo_turn K q_t q_t_text q_t_code q_t_site q_t_condition q_t_actions q_t_kind q_t_target q_t_first q_t_second q_t_failures q_t_met q_t_there q_t_on q_t_compared q_t_globals q_t_own q_t_records q_t_pile q_t_handed q_t_keys q_t_key q_t_count q_t_bins q_t_operator q_t_starts q_t_sum q_t_least q_t_greatest t_newSite t_newCondition t_newActions t_size t_place t_pos t_at t_operators t_recorded t_lost t_dropped t_firings t_time t_thread t_failed t_there (t_thrown, t_on)) (w_Mo_turn K q_t q_t_text q_t_code q_t_site q_t_condition q_t_actions q_t_kind q_t_target q_t_first q_t_second q_t_failures q_t_met q_t_there q_t_on q_t_compared q_t_globals q_t_own q_t_records q_t_pile q_t_handed q_t_keys q_t_key q_t_count q_t_bins q_t_operator q_t_starts q_t_sum q_t_least q_t_greatest t_newSite t_newCondition t_newActions t_size t_place t_pos t_at t_operators t_recorded t_lost t_dropped t_firings t_time t_thread t_failed t_there) (fun r u => s_Mo_turn t_thrown t_there t_on x1 x2 = (r, u.1, u.2)) 0 0 := cw_Mo_turn l D K q_t q_t_text q_t_code q_t_site q_t_condition q_t_actions q_t_kind q_t_target q_t_first q_t_second q_t_failures q_t_met q_t_there q_t_on q_t_compared q_t_globals q_t_own q_t_records q_t_pile q_t_handed q_t_keys q_t_key q_t_count q_t_bins q_t_operator q_t_starts q_t_sum q_t_least q_t_greatest t_newSite t_newCondition t_newActions t_size t_place t_pos t_at t_operators t_recorded t_lost t_dropped t_firings t_time t_thread t_thrown t_failed t_there t_on x1 x2 (v_Mo_turn t_thrown t_there t_on x1 x2 hp)
-- RuleTracerModel.tick(I)I: reads ['t.time', 't.thrown'], changes ['t.time', 't.thrown']
abbrev w_Mo_tick (K : Nat → ClassId) (q_t : Nat) (q_t_text : Nat) (q_t_code : Nat) (q_t_site : Nat) (q_t_condition : Nat) (q_t_actions : Nat) (q_t_kind : Nat) (q_t_target : Nat) (q_t_first : Nat) (q_t_second : Nat) (q_t_failures : Nat) (q_t_met : Nat) (q_t_there : Nat) (q_t_on : Nat) (q_t_compared : Nat) (q_t_globals : Nat) (q_t_own : Nat) (q_t_records : Nat) (q_t_pile : Nat) (q_t_handed : Nat) (q_t_keys : Nat) (q_t_key : Nat) (q_t_count : Nat) (q_t_bins : Nat) (q_t_operator : Nat) (q_t_starts : Nat) (q_t_sum : Nat) (q_t_least : Nat) (q_t_greatest : Nat) (t_newSite : Int32) (t_newCondition : Int32) (t_newActions : Int32) (t_size : Int32) (t_place : Int32) (t_pos : Int32) (t_at : Int32) (t_operators : Int32) (t_recorded : Int32) (t_lost : Int32) (t_dropped : Int32) (t_firings : Int32) (t_thread : Int32) (t_failed : Int32) (u : Int32 × Int32) : va_W := [zo 6 q_t [.ref q_t_text, .ref q_t_code, .ref q_t_site, .ref q_t_condition, .ref q_t_actions, .ref q_t_kind, .ref q_t_target, .ref q_t_first, .ref q_t_second, .ref q_t_failures, .ref q_t_met, .ref q_t_there, .ref q_t_on, .ref q_t_compared, .ref q_t_globals, .ref q_t_own, .ref q_t_records, .ref q_t_pile, .ref q_t_handed, .ref q_t_keys, .ref q_t_key, .ref q_t_count, .ref q_t_bins, .ref q_t_operator, .ref q_t_starts, .ref q_t_sum, .ref q_t_least, .ref q_t_greatest, .int t_newSite, .int t_newCondition, .int t_newActions, .int t_size, .int t_place, .int t_pos, .int t_at, .int t_operators, .int t_recorded, .int t_lost, .int t_dropped, .int t_firings, .int u.1, .int t_thread, .int u.2, .int t_failed]]
abbrev rm_Mo_tick : Room := { frames := 1, cells := 0, slots := 0, locals := 22 }
abbrev wy_Mo_tick : List Cond := .code y_Mo_tick b_Mo_tick 2 (some .int) :: zWT
def WP_Mo_tick (t_time : Int32) (t_thrown : Int32) (x1 : Int32) (Q : Int32 → (Int32 × Int32) → Prop) : Prop := (∀ (r1 : Int32), s_Mo_in x1 (1 : Int32) (100 : Int32) = r1 → (∀ (r5 : Int32) (u6 : Int32), s_Mo_bad t_thrown r1 = (r5, u6) → ((r5 = 0) → Q (t_time + x1) (t_time + x1, u6)) ∧ ((¬ r5 = 0) → Q (0 : Int32) (t_time, u6))))
set_option maxHeartbeats 4000000 in
set_option maxRecDepth 100000 in
theorem cw_Mo_tick (l : Launch) (D : va_G) (K : Nat → ClassId) (q_t : Nat) (q_t_text : Nat) (q_t_code : Nat) (q_t_site : Nat) (q_t_condition : Nat) (q_t_actions : Nat) (q_t_kind : Nat) (q_t_target : Nat) (q_t_first : Nat) (q_t_second : Nat) (q_t_failures : Nat) (q_t_met : Nat) (q_t_there : Nat) (q_t_on : Nat) (q_t_compared : Nat) (q_t_globals : Nat) (q_t_own : Nat) (q_t_records : Nat) (q_t_pile : Nat) (q_t_handed : Nat) (q_t_keys : Nat) (q_t_key : Nat) (q_t_count : Nat) (q_t_bins : Nat) (q_t_operator : Nat) (q_t_starts : Nat) (q_t_sum : Nat) (q_t_least : Nat) (q_t_greatest : Nat) (t_newSite : Int32) (t_newCondition : Int32) (t_newActions : Int32) (t_size : Int32) (t_place : Int32) (t_pos : Int32) (t_at : Int32) (t_operators : Int32) (t_recorded : Int32) (t_lost : Int32) (t_dropped : Int32) (t_firings : Int32) (t_time : Int32) (t_thread : Int32) (t_thrown : Int32) (t_failed : Int32) (x1 : Int32) {Q : Int32 → (Int32 × Int32) → Prop} (hS0 : WP_Mo_tick t_time t_thrown x1 Q) : zCi l y_Mo_tick wy_Mo_tick rm_Mo_tick D zcl (zT K) [.ref q_t, .int x1] (w_Mo_tick K q_t q_t_text q_t_code q_t_site q_t_condition q_t_actions q_t_kind q_t_target q_t_first q_t_second q_t_failures q_t_met q_t_there q_t_on q_t_compared q_t_globals q_t_own q_t_records q_t_pile q_t_handed q_t_keys q_t_key q_t_count q_t_bins q_t_operator q_t_starts q_t_sum q_t_least q_t_greatest t_newSite t_newCondition t_newActions t_size t_place t_pos t_at t_operators t_recorded t_lost t_dropped t_firings t_thread t_failed (t_time, t_thrown)) (w_Mo_tick K q_t q_t_text q_t_code q_t_site q_t_condition q_t_actions q_t_kind q_t_target q_t_first q_t_second q_t_failures q_t_met q_t_there q_t_on q_t_compared q_t_globals q_t_own q_t_records q_t_pile q_t_handed q_t_keys q_t_key q_t_count q_t_bins q_t_operator q_t_starts q_t_sum q_t_least q_t_greatest t_newSite t_newCondition t_newActions t_size t_place t_pos t_at t_operators t_recorded t_lost t_dropped t_firings t_thread t_failed) Q 0 0 := by
  refine z_meti (cc := b_Mo_tick) (maxL := 2) (ret := (some .int)) (by decide) rfl (Nat.le_of_ble_eq_true rfl) ?_
  intro p e s m args below meth c A C hr hlk hnm
  refine z_lpick (lv' := [(0, .ref q_t), (1, .int x1)]) [0, 1] rfl ?_
  refine z_weq (ws' := [zo 6 q_t [.ref q_t_text, .ref q_t_code, .ref q_t_site, .ref q_t_condition, .ref q_t_actions, .ref q_t_kind, .ref q_t_target, .ref q_t_first, .ref q_t_second, .ref q_t_failures, .ref q_t_met, .ref q_t_there, .ref q_t_on, .ref q_t_compared, .ref q_t_globals, .ref q_t_own, .ref q_t_records, .ref q_t_pile, .ref q_t_handed, .ref q_t_keys, .ref q_t_key, .ref q_t_count, .ref q_t_bins, .ref q_t_operator, .ref q_t_starts, .ref q_t_sum, .ref q_t_least, .ref q_t_greatest, .int t_newSite, .int t_newCondition, .int t_newActions, .int t_size, .int t_place, .int t_pos, .int t_at, .int t_operators, .int t_recorded, .int t_lost, .int t_dropped, .int t_firings, .int t_time, .int t_thread, .int t_thrown, .int t_failed]]) rfl ?_
  refine z_aload_n C d_Mo_tick_0 rfl 0 rfl ?_
  refine z_iload_n C d_Mo_tick_1 rfl 1 rfl ?_
  refine z_iconst (v := (1 : Int32)) C d_Mo_tick_2 (by decide) ?_
  refine z_bipush (v := (100 : Int32)) C d_Mo_tick_3 (by decide) ?_
  refine z_callSi (As := [.int x1, .int (1 : Int32), .int (100 : Int32)]) (st := [.ref q_t]) (wr := [zo 6 q_t [.ref q_t_text, .ref q_t_code, .ref q_t_site, .ref q_t_condition, .ref q_t_actions, .ref q_t_kind, .ref q_t_target, .ref q_t_first, .ref q_t_second, .ref q_t_failures, .ref q_t_met, .ref q_t_there, .ref q_t_on, .ref q_t_compared, .ref q_t_globals, .ref q_t_own, .ref q_t_records, .ref q_t_pile, .ref q_t_handed, .ref q_t_keys, .ref q_t_key, .ref q_t_count, .ref q_t_bins, .ref q_t_operator, .ref q_t_starts, .ref q_t_sum, .ref q_t_least, .ref q_t_greatest, .int t_newSite, .int t_newCondition, .int t_newActions, .int t_size, .int t_place, .int t_pos, .int t_at, .int t_operators, .int t_recorded, .int t_lost, .int t_dropped, .int t_firings, .int t_time, .int t_thread, .int t_thrown, .int t_failed]]) (wj := fun u => [zo 6 q_t [.ref q_t_text, .ref q_t_code, .ref q_t_site, .ref q_t_condition, .ref q_t_actions, .ref q_t_kind, .ref q_t_target, .ref q_t_first, .ref q_t_second, .ref q_t_failures, .ref q_t_met, .ref q_t_there, .ref q_t_on, .ref q_t_compared, .ref q_t_globals, .ref q_t_own, .ref q_t_records, .ref q_t_pile, .ref q_t_handed, .ref q_t_keys, .ref q_t_key, .ref q_t_count, .ref q_t_bins, .ref q_t_operator, .ref q_t_starts, .ref q_t_sum, .ref q_t_least, .ref q_t_greatest, .int t_newSite, .int t_newCondition, .int t_newActions, .int t_size, .int t_place, .int t_pos, .int t_at, .int t_operators, .int t_recorded, .int t_lost, .int t_dropped, .int t_firings, .int t_time, .int t_thread, .int t_thrown, .int t_failed]]) C (c_Mo_in l D K x1 (1 : Int32) (100 : Int32)) (cwS 3 C.2.2.2.2.1 (z_gS wl_Mo_103 ws_Mo_in wz_Mo wk_Mo_in) rfl rfl rfl (by decide +kernel) ⟨Nat.le_of_ble_eq_true rfl, Nat.le_of_ble_eq_true rfl⟩) [] [0] [0] rfl rfl rfl rfl (by decide) (fun _ => rfl) rfl rfl rfl (Nat.le_of_ble_eq_true rfl) d_Mo_tick_5 ⟨Nat.le_of_ble_eq_true rfl, Nat.le_of_ble_eq_true rfl⟩ (fun r1 u2 e3 => ?_)
  have hS4 := hS0 r1 e3
  refine z_callVi (As := [.int r1]) (b := q_t) (st := []) (wr := []) (wj := fun u => [zo 6 q_t [.ref q_t_text, .ref q_t_code, .ref q_t_site, .ref q_t_condition, .ref q_t_actions, .ref q_t_kind, .ref q_t_target, .ref q_t_first, .ref q_t_second, .ref q_t_failures, .ref q_t_met, .ref q_t_there, .ref q_t_on, .ref q_t_compared, .ref q_t_globals, .ref q_t_own, .ref q_t_records, .ref q_t_pile, .ref q_t_handed, .ref q_t_keys, .ref q_t_key, .ref q_t_count, .ref q_t_bins, .ref q_t_operator, .ref q_t_starts, .ref q_t_sum, .ref q_t_least, .ref q_t_greatest, .int t_newSite, .int t_newCondition, .int t_newActions, .int t_size, .int t_place, .int t_pos, .int t_at, .int t_operators, .int t_recorded, .int t_lost, .int t_dropped, .int t_firings, .int t_time, .int t_thread, .int u, .int t_failed]]) C 0 rfl rfl (c_Mo_bad l D K q_t q_t_text q_t_code q_t_site q_t_condition q_t_actions q_t_kind q_t_target q_t_first q_t_second q_t_failures q_t_met q_t_there q_t_on q_t_compared q_t_globals q_t_own q_t_records q_t_pile q_t_handed q_t_keys q_t_key q_t_count q_t_bins q_t_operator q_t_starts q_t_sum q_t_least q_t_greatest t_newSite t_newCondition t_newActions t_size t_place t_pos t_at t_operators t_recorded t_lost t_dropped t_firings t_time t_thread t_thrown t_failed r1) (cwV 1 C.2.2.2.2.1 (z_gV wl_Mo_107 wi_Mo_bad wv_Mo_bad wz_Mo wk_Mo_bad) rfl rfl rfl (by decide +kernel) ⟨Nat.le_of_ble_eq_true rfl, Nat.le_of_ble_eq_true rfl⟩) [0] [] [0] rfl rfl rfl rfl (by decide) (fun _ => rfl) rfl rfl rfl (Nat.le_of_ble_eq_true rfl) d_Mo_tick_8 ⟨Nat.le_of_ble_eq_true rfl, Nat.le_of_ble_eq_true rfl⟩ (fun r5 u6 e7 => ?_)
  have hS8 := hS4 r5 u6 e7
  refine z_if_eq (tgt := 16) C d_Mo_tick_11 (by decide) (fun c9 => ?_) (fun c9 => ?_)
  · have hS10 := hS8.1 c9
    refine z_aload_n C d_Mo_tick_16 rfl 0 rfl ?_
    refine z_dup C d_Mo_tick_17 rfl ?_
    refine z_get C 0 rfl rfl in_Mo 40 (by decide) rfl wf_Mo_167 rfl d_Mo_tick_18 ?_
    refine z_iload_n C d_Mo_tick_21 rfl 1 rfl ?_
    refine z_iadd C d_Mo_tick_22 ?_
    refine z_put (ty := .int) (ws' := [zo 6 q_t [.ref q_t_text, .ref q_t_code, .ref q_t_site, .ref q_t_condition, .ref q_t_actions, .ref q_t_kind, .ref q_t_target, .ref q_t_first, .ref q_t_second, .ref q_t_failures, .ref q_t_met, .ref q_t_there, .ref q_t_on, .ref q_t_compared, .ref q_t_globals, .ref q_t_own, .ref q_t_records, .ref q_t_pile, .ref q_t_handed, .ref q_t_keys, .ref q_t_key, .ref q_t_count, .ref q_t_bins, .ref q_t_operator, .ref q_t_starts, .ref q_t_sum, .ref q_t_least, .ref q_t_greatest, .int t_newSite, .int t_newCondition, .int t_newActions, .int t_size, .int t_place, .int t_pos, .int t_at, .int t_operators, .int t_recorded, .int t_lost, .int t_dropped, .int t_firings, .int (t_time + x1), .int t_thread, .int u6, .int t_failed]]) C ty_Mo to_Mo nm_Mo 0 rfl rfl in_Mo 40 (by decide) rfl wf_Mo_167 rfl rfl rfl rfl (Nat.le_of_ble_eq_true rfl) rfl d_Mo_tick_23 ?_
    refine z_aload_n C d_Mo_tick_26 rfl 0 rfl ?_
    refine z_get C 0 rfl rfl in_Mo 40 (by decide) rfl wf_Mo_167 rfl d_Mo_tick_27 ?_
    exact z_iret C hr hlk (t_time + x1, u6) rfl hS10 d_Mo_tick_30
  · have hS10 := hS8.2 c9
    refine z_iconst (v := (0 : Int32)) C d_Mo_tick_14 (by decide) ?_
    exact z_iret C hr hlk (t_time, u6) rfl hS10 d_Mo_tick_15
def s_Mo_tick (t_time : Int32) (t_thrown : Int32) (x1 : Int32) : Int32 × Int32 × Int32 := (zl1 (s_Mo_in x1 (1 : Int32) (100 : Int32)) fun r1 => (zl2 (s_Mo_bad t_thrown r1) (fun r5 u6 => (if r5 = 0 then (t_time + x1, t_time + x1, u6) else ((0 : Int32), t_time, u6)))))
set_option maxRecDepth 100000 in
theorem v_Mo_tick (t_time : Int32) (t_thrown : Int32) (x1 : Int32) : WP_Mo_tick t_time t_thrown x1 (fun r u => s_Mo_tick t_time t_thrown x1 = (r, u.1, u.2)) := by
  obtain ⟨tgt, f0⟩ : ∃ tgt, s_Mo_tick t_time t_thrown x1 = tgt := ⟨_, rfl⟩
  rw [f0]
  unfold s_Mo_tick at f0
  unfold WP_Mo_tick
  intro r1 e3
  have f1 := Eq.trans (Eq.symm (zl1_eq e3)) f0
  intro r5 u6 e7
  have f2 := Eq.trans (Eq.symm (zl2_eq e7)) f1
  refine ⟨fun c9 => ?_, fun c9 => ?_⟩
  · have f3 := Eq.trans (Eq.symm (if_pos c9)) f2
    exact f3.symm
  · have f3 := Eq.trans (Eq.symm (if_neg c9)) f2
    exact f3.symm
theorem c_Mo_tick (l : Launch) (D : va_G) (K : Nat → ClassId) (q_t : Nat) (q_t_text : Nat) (q_t_code : Nat) (q_t_site : Nat) (q_t_condition : Nat) (q_t_actions : Nat) (q_t_kind : Nat) (q_t_target : Nat) (q_t_first : Nat) (q_t_second : Nat) (q_t_failures : Nat) (q_t_met : Nat) (q_t_there : Nat) (q_t_on : Nat) (q_t_compared : Nat) (q_t_globals : Nat) (q_t_own : Nat) (q_t_records : Nat) (q_t_pile : Nat) (q_t_handed : Nat) (q_t_keys : Nat) (q_t_key : Nat) (q_t_count : Nat) (q_t_bins : Nat) (q_t_operator : Nat) (q_t_starts : Nat) (q_t_sum : Nat) (q_t_least : Nat) (q_t_greatest : Nat) (t_newSite : Int32) (t_newCondition : Int32) (t_newActions : Int32) (t_size : Int32) (t_place : Int32) (t_pos : Int32) (t_at : Int32) (t_operators : Int32) (t_recorded : Int32) (t_lost : Int32) (t_dropped : Int32) (t_firings : Int32) (t_time : Int32) (t_thread : Int32) (t_thrown : Int32) (t_failed : Int32) (x1 : Int32) : zCi l y_Mo_tick wy_Mo_tick rm_Mo_tick D zcl (zT K) [.ref q_t, .int x1] (w_Mo_tick K q_t q_t_text q_t_code q_t_site q_t_condition q_t_actions q_t_kind q_t_target q_t_first q_t_second q_t_failures q_t_met q_t_there q_t_on q_t_compared q_t_globals q_t_own q_t_records q_t_pile q_t_handed q_t_keys q_t_key q_t_count q_t_bins q_t_operator q_t_starts q_t_sum q_t_least q_t_greatest t_newSite t_newCondition t_newActions t_size t_place t_pos t_at t_operators t_recorded t_lost t_dropped t_firings t_thread t_failed (t_time, t_thrown)) (w_Mo_tick K q_t q_t_text q_t_code q_t_site q_t_condition q_t_actions q_t_kind q_t_target q_t_first q_t_second q_t_failures q_t_met q_t_there q_t_on q_t_compared q_t_globals q_t_own q_t_records q_t_pile q_t_handed q_t_keys q_t_key q_t_count q_t_bins q_t_operator q_t_starts q_t_sum q_t_least q_t_greatest t_newSite t_newCondition t_newActions t_size t_place t_pos t_at t_operators t_recorded t_lost t_dropped t_firings t_thread t_failed) (fun r u => s_Mo_tick t_time t_thrown x1 = (r, u.1, u.2)) 0 0 := cw_Mo_tick l D K q_t q_t_text q_t_code q_t_site q_t_condition q_t_actions q_t_kind q_t_target q_t_first q_t_second q_t_failures q_t_met q_t_there q_t_on q_t_compared q_t_globals q_t_own q_t_records q_t_pile q_t_handed q_t_keys q_t_key q_t_count q_t_bins q_t_operator q_t_starts q_t_sum q_t_least q_t_greatest t_newSite t_newCondition t_newActions t_size t_place t_pos t_at t_operators t_recorded t_lost t_dropped t_firings t_time t_thread t_thrown t_failed x1 (v_Mo_tick t_time t_thrown x1)
-- RuleTracerModel.variable(II)D: reads ['t.thrown', 't.globals', 't.own'], changes ['t.thrown']
abbrev w_Mo_variable (K : Nat → ClassId) (q_t : Nat) (q_t_text : Nat) (q_t_code : Nat) (q_t_site : Nat) (q_t_condition : Nat) (q_t_actions : Nat) (q_t_kind : Nat) (q_t_target : Nat) (q_t_first : Nat) (q_t_second : Nat) (q_t_failures : Nat) (q_t_met : Nat) (q_t_there : Nat) (q_t_on : Nat) (q_t_compared : Nat) (q_t_globals : Nat) (q_t_own : Nat) (q_t_records : Nat) (q_t_pile : Nat) (q_t_handed : Nat) (q_t_keys : Nat) (q_t_key : Nat) (q_t_count : Nat) (q_t_bins : Nat) (q_t_operator : Nat) (q_t_starts : Nat) (q_t_sum : Nat) (q_t_least : Nat) (q_t_greatest : Nat) (t_newSite : Int32) (t_newCondition : Int32) (t_newActions : Int32) (t_size : Int32) (t_place : Int32) (t_pos : Int32) (t_at : Int32) (t_operators : Int32) (t_recorded : Int32) (t_lost : Int32) (t_dropped : Int32) (t_firings : Int32) (t_time : Int32) (t_thread : Int32) (t_failed : Int32) (t_globals : Nat → UInt64) (t_own : Nat → UInt64) (u : Int32) : va_W := [zo 6 q_t [.ref q_t_text, .ref q_t_code, .ref q_t_site, .ref q_t_condition, .ref q_t_actions, .ref q_t_kind, .ref q_t_target, .ref q_t_first, .ref q_t_second, .ref q_t_failures, .ref q_t_met, .ref q_t_there, .ref q_t_on, .ref q_t_compared, .ref q_t_globals, .ref q_t_own, .ref q_t_records, .ref q_t_pile, .ref q_t_handed, .ref q_t_keys, .ref q_t_key, .ref q_t_count, .ref q_t_bins, .ref q_t_operator, .ref q_t_starts, .ref q_t_sum, .ref q_t_least, .ref q_t_greatest, .int t_newSite, .int t_newCondition, .int t_newActions, .int t_size, .int t_place, .int t_pos, .int t_at, .int t_operators, .int t_recorded, .int t_lost, .int t_dropped, .int t_firings, .int t_time, .int t_thread, .int u, .int t_failed], zaD K q_t_globals 3 t_globals, zaD K q_t_own 12 t_own]
abbrev rm_Mo_variable : Room := { frames := 1, cells := 0, slots := 0, locals := 22 }
abbrev wy_Mo_variable : List Cond := .code y_Mo_variable b_Mo_variable 3 (some .double) :: zWT
def WP_Mo_variable (t_thrown : Int32) (t_globals : Nat → UInt64) (t_own : Nat → UInt64) (x1 : Int32) (x2 : Int32) (Q : UInt64 → Int32 → Prop) : Prop := (∀ (r1 : Int32), s_Mo_in x1 (0 : Int32) (2 : Int32) = r1 → ((¬ r1 = 0) → (∀ (r7 : Int32) (u8 : Int32), s_Mo_bad t_thrown (1 : Int32) = (r7, u8) → ((r7 = 0) → (((3 : Int32) ≤ x1) → vp_in (((x2 * (3 : Int32)) + x1) - (3 : Int32)) 12 ∧ Q (t_own (((x2 * (3 : Int32)) + x1) - (3 : Int32)).toNatClampNeg) u8) ∧ ((¬ (3 : Int32) ≤ x1) → vp_in x1 3 ∧ Q (t_globals x1.toNatClampNeg) u8)) ∧ ((¬ r7 = 0) → Q FP.dconst0 u8))) ∧ ((r1 = 0) → (∀ (r17 : Int32), s_Mo_in x1 (3 : Int32) (5 : Int32) = r17 → ((r17 = 0) → (∀ (r23 : Int32) (u24 : Int32), s_Mo_bad t_thrown (0 : Int32) = (r23, u24) → ((r23 = 0) → (((3 : Int32) ≤ x1) → vp_in (((x2 * (3 : Int32)) + x1) - (3 : Int32)) 12 ∧ Q (t_own (((x2 * (3 : Int32)) + x1) - (3 : Int32)).toNatClampNeg) u24) ∧ ((¬ (3 : Int32) ≤ x1) → vp_in x1 3 ∧ Q (t_globals x1.toNatClampNeg) u24)) ∧ ((¬ r23 = 0) → Q FP.dconst0 u24))) ∧ ((¬ r17 = 0) → (∀ (r33 : Int32), s_Mo_in x2 (0 : Int32) (3 : Int32) = r33 → ((r33 = 0) → (∀ (r39 : Int32) (u40 : Int32), s_Mo_bad t_thrown (0 : Int32) = (r39, u40) → ((r39 = 0) → (((3 : Int32) ≤ x1) → vp_in (((x2 * (3 : Int32)) + x1) - (3 : Int32)) 12 ∧ Q (t_own (((x2 * (3 : Int32)) + x1) - (3 : Int32)).toNatClampNeg) u40) ∧ ((¬ (3 : Int32) ≤ x1) → vp_in x1 3 ∧ Q (t_globals x1.toNatClampNeg) u40)) ∧ ((¬ r39 = 0) → Q FP.dconst0 u40))) ∧ ((¬ r33 = 0) → (∀ (r49 : Int32) (u50 : Int32), s_Mo_bad t_thrown (1 : Int32) = (r49, u50) → ((r49 = 0) → (((3 : Int32) ≤ x1) → vp_in (((x2 * (3 : Int32)) + x1) - (3 : Int32)) 12 ∧ Q (t_own (((x2 * (3 : Int32)) + x1) - (3 : Int32)).toNatClampNeg) u50) ∧ ((¬ (3 : Int32) ≤ x1) → vp_in x1 3 ∧ Q (t_globals x1.toNatClampNeg) u50)) ∧ ((¬ r49 = 0) → Q FP.dconst0 u50))))))))
set_option maxHeartbeats 4000000 in
set_option maxRecDepth 100000 in
theorem cw_Mo_variable (l : Launch) (D : va_G) (K : Nat → ClassId) (q_t : Nat) (q_t_text : Nat) (q_t_code : Nat) (q_t_site : Nat) (q_t_condition : Nat) (q_t_actions : Nat) (q_t_kind : Nat) (q_t_target : Nat) (q_t_first : Nat) (q_t_second : Nat) (q_t_failures : Nat) (q_t_met : Nat) (q_t_there : Nat) (q_t_on : Nat) (q_t_compared : Nat) (q_t_globals : Nat) (q_t_own : Nat) (q_t_records : Nat) (q_t_pile : Nat) (q_t_handed : Nat) (q_t_keys : Nat) (q_t_key : Nat) (q_t_count : Nat) (q_t_bins : Nat) (q_t_operator : Nat) (q_t_starts : Nat) (q_t_sum : Nat) (q_t_least : Nat) (q_t_greatest : Nat) (t_newSite : Int32) (t_newCondition : Int32) (t_newActions : Int32) (t_size : Int32) (t_place : Int32) (t_pos : Int32) (t_at : Int32) (t_operators : Int32) (t_recorded : Int32) (t_lost : Int32) (t_dropped : Int32) (t_firings : Int32) (t_time : Int32) (t_thread : Int32) (t_thrown : Int32) (t_failed : Int32) (t_globals : Nat → UInt64) (t_own : Nat → UInt64) (x1 : Int32) (x2 : Int32) {Q : UInt64 → Int32 → Prop} (hS0 : WP_Mo_variable t_thrown t_globals t_own x1 x2 Q) : zCd l y_Mo_variable wy_Mo_variable rm_Mo_variable D zcl (zT K) [.ref q_t, .int x1, .int x2] (w_Mo_variable K q_t q_t_text q_t_code q_t_site q_t_condition q_t_actions q_t_kind q_t_target q_t_first q_t_second q_t_failures q_t_met q_t_there q_t_on q_t_compared q_t_globals q_t_own q_t_records q_t_pile q_t_handed q_t_keys q_t_key q_t_count q_t_bins q_t_operator q_t_starts q_t_sum q_t_least q_t_greatest t_newSite t_newCondition t_newActions t_size t_place t_pos t_at t_operators t_recorded t_lost t_dropped t_firings t_time t_thread t_failed t_globals t_own t_thrown) (w_Mo_variable K q_t q_t_text q_t_code q_t_site q_t_condition q_t_actions q_t_kind q_t_target q_t_first q_t_second q_t_failures q_t_met q_t_there q_t_on q_t_compared q_t_globals q_t_own q_t_records q_t_pile q_t_handed q_t_keys q_t_key q_t_count q_t_bins q_t_operator q_t_starts q_t_sum q_t_least q_t_greatest t_newSite t_newCondition t_newActions t_size t_place t_pos t_at t_operators t_recorded t_lost t_dropped t_firings t_time t_thread t_failed t_globals t_own) Q 0 0 := by
  refine z_metd (cc := b_Mo_variable) (maxL := 3) (ret := (some .double)) (by decide) rfl (Nat.le_of_ble_eq_true rfl) ?_
  intro p e s m args below meth c A C hr hlk hnm
  refine z_lpick (lv' := [(0, .ref q_t), (1, .int x1), (2, .int x2)]) [0, 1, 2] rfl ?_
  refine z_weq (ws' := [zo 6 q_t [.ref q_t_text, .ref q_t_code, .ref q_t_site, .ref q_t_condition, .ref q_t_actions, .ref q_t_kind, .ref q_t_target, .ref q_t_first, .ref q_t_second, .ref q_t_failures, .ref q_t_met, .ref q_t_there, .ref q_t_on, .ref q_t_compared, .ref q_t_globals, .ref q_t_own, .ref q_t_records, .ref q_t_pile, .ref q_t_handed, .ref q_t_keys, .ref q_t_key, .ref q_t_count, .ref q_t_bins, .ref q_t_operator, .ref q_t_starts, .ref q_t_sum, .ref q_t_least, .ref q_t_greatest, .int t_newSite, .int t_newCondition, .int t_newActions, .int t_size, .int t_place, .int t_pos, .int t_at, .int t_operators, .int t_recorded, .int t_lost, .int t_dropped, .int t_firings, .int t_time, .int t_thread, .int t_thrown, .int t_failed], zaD K q_t_globals 3 t_globals, zaD K q_t_own 12 t_own]) rfl ?_
  refine z_aload_n C d_Mo_variable_0 rfl 0 rfl ?_
  refine z_iload_n C d_Mo_variable_1 rfl 1 rfl ?_
  refine z_iconst (v := (0 : Int32)) C d_Mo_variable_2 (by decide) ?_
  refine z_iconst (v := (2 : Int32)) C d_Mo_variable_3 (by decide) ?_
  refine z_callSi (As := [.int x1, .int (0 : Int32), .int (2 : Int32)]) (st := [.ref q_t]) (wr := [zo 6 q_t [.ref q_t_text, .ref q_t_code, .ref q_t_site, .ref q_t_condition, .ref q_t_actions, .ref q_t_kind, .ref q_t_target, .ref q_t_first, .ref q_t_second, .ref q_t_failures, .ref q_t_met, .ref q_t_there, .ref q_t_on, .ref q_t_compared, .ref q_t_globals, .ref q_t_own, .ref q_t_records, .ref q_t_pile, .ref q_t_handed, .ref q_t_keys, .ref q_t_key, .ref q_t_count, .ref q_t_bins, .ref q_t_operator, .ref q_t_starts, .ref q_t_sum, .ref q_t_least, .ref q_t_greatest, .int t_newSite, .int t_newCondition, .int t_newActions, .int t_size, .int t_place, .int t_pos, .int t_at, .int t_operators, .int t_recorded, .int t_lost, .int t_dropped, .int t_firings, .int t_time, .int t_thread, .int t_thrown, .int t_failed], zaD K q_t_globals 3 t_globals, zaD K q_t_own 12 t_own]) (wj := fun u => [zo 6 q_t [.ref q_t_text, .ref q_t_code, .ref q_t_site, .ref q_t_condition, .ref q_t_actions, .ref q_t_kind, .ref q_t_target, .ref q_t_first, .ref q_t_second, .ref q_t_failures, .ref q_t_met, .ref q_t_there, .ref q_t_on, .ref q_t_compared, .ref q_t_globals, .ref q_t_own, .ref q_t_records, .ref q_t_pile, .ref q_t_handed, .ref q_t_keys, .ref q_t_key, .ref q_t_count, .ref q_t_bins, .ref q_t_operator, .ref q_t_starts, .ref q_t_sum, .ref q_t_least, .ref q_t_greatest, .int t_newSite, .int t_newCondition, .int t_newActions, .int t_size, .int t_place, .int t_pos, .int t_at, .int t_operators, .int t_recorded, .int t_lost, .int t_dropped, .int t_firings, .int t_time, .int t_thread, .int t_thrown, .int t_failed], zaD K q_t_globals 3 t_globals, zaD K q_t_own 12 t_own]) C (c_Mo_in l D K x1 (0 : Int32) (2 : Int32)) (cwS 3 C.2.2.2.2.1 (z_gS wl_Mo_103 ws_Mo_in wz_Mo wk_Mo_in) rfl rfl rfl (by decide +kernel) ⟨Nat.le_of_ble_eq_true rfl, Nat.le_of_ble_eq_true rfl⟩) [] [0, 1, 2] [0, 1, 2] rfl rfl rfl rfl (by decide) (fun _ => rfl) rfl rfl rfl (Nat.le_of_ble_eq_true rfl) d_Mo_variable_4 ⟨Nat.le_of_ble_eq_true rfl, Nat.le_of_ble_eq_true rfl⟩ (fun r1 u2 e3 => ?_)
  have hS4 := hS0 r1 e3
  refine z_if_ne (tgt := 28) C d_Mo_variable_7 (by decide) (fun c5 => ?_) (fun c5 => ?_)
  · have hS6 := hS4.1 c5
    refine z_iconst (v := (1 : Int32)) C d_Mo_variable_28 (by decide) ?_
    refine z_goto (tgt := 33) C d_Mo_variable_29 (by decide) ?_
    refine z_callVi (As := [.int (1 : Int32)]) (b := q_t) (st := []) (wr := [zaD K q_t_globals 3 t_globals, zaD K q_t_own 12 t_own]) (wj := fun u => [zo 6 q_t [.ref q_t_text, .ref q_t_code, .ref q_t_site, .ref q_t_condition, .ref q_t_actions, .ref q_t_kind, .ref q_t_target, .ref q_t_first, .ref q_t_second, .ref q_t_failures, .ref q_t_met, .ref q_t_there, .ref q_t_on, .ref q_t_compared, .ref q_t_globals, .ref q_t_own, .ref q_t_records, .ref q_t_pile, .ref q_t_handed, .ref q_t_keys, .ref q_t_key, .ref q_t_count, .ref q_t_bins, .ref q_t_operator, .ref q_t_starts, .ref q_t_sum, .ref q_t_least, .ref q_t_greatest, .int t_newSite, .int t_newCondition, .int t_newActions, .int t_size, .int t_place, .int t_pos, .int t_at, .int t_operators, .int t_recorded, .int t_lost, .int t_dropped, .int t_firings, .int t_time, .int t_thread, .int u, .int t_failed], zaD K q_t_globals 3 t_globals, zaD K q_t_own 12 t_own]) C 0 rfl rfl (c_Mo_bad l D K q_t q_t_text q_t_code q_t_site q_t_condition q_t_actions q_t_kind q_t_target q_t_first q_t_second q_t_failures q_t_met q_t_there q_t_on q_t_compared q_t_globals q_t_own q_t_records q_t_pile q_t_handed q_t_keys q_t_key q_t_count q_t_bins q_t_operator q_t_starts q_t_sum q_t_least q_t_greatest t_newSite t_newCondition t_newActions t_size t_place t_pos t_at t_operators t_recorded t_lost t_dropped t_firings t_time t_thread t_thrown t_failed (1 : Int32)) (cwV 1 C.2.2.2.2.1 (z_gV wl_Mo_107 wi_Mo_bad wv_Mo_bad wz_Mo wk_Mo_bad) rfl rfl rfl (by decide +kernel) ⟨Nat.le_of_ble_eq_true rfl, Nat.le_of_ble_eq_true rfl⟩) [0] [1, 2] [2, 0, 1] rfl rfl rfl rfl (by decide) (fun _ => rfl) rfl rfl rfl (Nat.le_of_ble_eq_true rfl) d_Mo_variable_33 ⟨Nat.le_of_ble_eq_true rfl, Nat.le_of_ble_eq_true rfl⟩ (fun r7 u8 e9 => ?_)
    have hS10 := hS6 r7 u8 e9
    refine z_if_eq (tgt := 41) C d_Mo_variable_36 (by decide) (fun c11 => ?_) (fun c11 => ?_)
    · have hS12 := hS10.1 c11
      refine z_iload_n C d_Mo_variable_41 rfl 1 rfl ?_
      refine z_iconst (v := (3 : Int32)) C d_Mo_variable_42 (by decide) ?_
      refine z_icmp_ge (tgt := 55) C d_Mo_variable_43 (by decide) (fun c13 => ?_) (fun c13 => ?_)
      · have hS14 := hS12.1 c13
        refine z_aload_n C d_Mo_variable_55 rfl 0 rfl ?_
        refine z_get C 0 rfl rfl in_Mo 15 (by decide) rfl wf_Mo_57 rfl d_Mo_variable_56 ?_
        refine z_iload_n C d_Mo_variable_59 rfl 2 rfl ?_
        refine z_iconst (v := (3 : Int32)) C d_Mo_variable_60 (by decide) ?_
        refine z_imul C d_Mo_variable_61 ?_
        refine z_iload_n C d_Mo_variable_62 rfl 1 rfl ?_
        refine z_iadd C d_Mo_variable_63 ?_
        refine z_iconst (v := (3 : Int32)) C d_Mo_variable_64 (by decide) ?_
        refine z_isub C d_Mo_variable_65 ?_
        refine z_dald C 2 1 rfl rfl hS14.1 d_Mo_variable_66 ?_
        have hS15 := hS14.2
        exact z_dret C hr hlk u8 rfl hS15 d_Mo_variable_67
      · have hS14 := hS12.2 c13
        refine z_aload_n C d_Mo_variable_46 rfl 0 rfl ?_
        refine z_get C 0 rfl rfl in_Mo 14 (by decide) rfl wf_Mo_53 rfl d_Mo_variable_47 ?_
        refine z_iload_n C d_Mo_variable_50 rfl 1 rfl ?_
        refine z_dald C 1 1 rfl rfl hS14.1 d_Mo_variable_51 ?_
        have hS16 := hS14.2
        refine z_goto (tgt := 67) C d_Mo_variable_52 (by decide) ?_
        exact z_dret C hr hlk u8 rfl hS16 d_Mo_variable_67
    · have hS12 := hS10.2 c11
      refine z_dconst0 C d_Mo_variable_39 ?_
      exact z_dret C hr hlk u8 rfl hS12 d_Mo_variable_40
  · have hS6 := hS4.2 c5
    refine z_iload_n C d_Mo_variable_10 rfl 1 rfl ?_
    refine z_iconst (v := (3 : Int32)) C d_Mo_variable_11 (by decide) ?_
    refine z_iconst (v := (5 : Int32)) C d_Mo_variable_12 (by decide) ?_
    refine z_callSi (As := [.int x1, .int (3 : Int32), .int (5 : Int32)]) (st := [.ref q_t]) (wr := [zo 6 q_t [.ref q_t_text, .ref q_t_code, .ref q_t_site, .ref q_t_condition, .ref q_t_actions, .ref q_t_kind, .ref q_t_target, .ref q_t_first, .ref q_t_second, .ref q_t_failures, .ref q_t_met, .ref q_t_there, .ref q_t_on, .ref q_t_compared, .ref q_t_globals, .ref q_t_own, .ref q_t_records, .ref q_t_pile, .ref q_t_handed, .ref q_t_keys, .ref q_t_key, .ref q_t_count, .ref q_t_bins, .ref q_t_operator, .ref q_t_starts, .ref q_t_sum, .ref q_t_least, .ref q_t_greatest, .int t_newSite, .int t_newCondition, .int t_newActions, .int t_size, .int t_place, .int t_pos, .int t_at, .int t_operators, .int t_recorded, .int t_lost, .int t_dropped, .int t_firings, .int t_time, .int t_thread, .int t_thrown, .int t_failed], zaD K q_t_globals 3 t_globals, zaD K q_t_own 12 t_own]) (wj := fun u => [zo 6 q_t [.ref q_t_text, .ref q_t_code, .ref q_t_site, .ref q_t_condition, .ref q_t_actions, .ref q_t_kind, .ref q_t_target, .ref q_t_first, .ref q_t_second, .ref q_t_failures, .ref q_t_met, .ref q_t_there, .ref q_t_on, .ref q_t_compared, .ref q_t_globals, .ref q_t_own, .ref q_t_records, .ref q_t_pile, .ref q_t_handed, .ref q_t_keys, .ref q_t_key, .ref q_t_count, .ref q_t_bins, .ref q_t_operator, .ref q_t_starts, .ref q_t_sum, .ref q_t_least, .ref q_t_greatest, .int t_newSite, .int t_newCondition, .int t_newActions, .int t_size, .int t_place, .int t_pos, .int t_at, .int t_operators, .int t_recorded, .int t_lost, .int t_dropped, .int t_firings, .int t_time, .int t_thread, .int t_thrown, .int t_failed], zaD K q_t_globals 3 t_globals, zaD K q_t_own 12 t_own]) C (c_Mo_in l D K x1 (3 : Int32) (5 : Int32)) (cwS 3 C.2.2.2.2.1 (z_gS wl_Mo_103 ws_Mo_in wz_Mo wk_Mo_in) rfl rfl rfl (by decide +kernel) ⟨Nat.le_of_ble_eq_true rfl, Nat.le_of_ble_eq_true rfl⟩) [] [0, 1, 2] [0, 1, 2] rfl rfl rfl rfl (by decide) (fun _ => rfl) rfl rfl rfl (Nat.le_of_ble_eq_true rfl) d_Mo_variable_13 ⟨Nat.le_of_ble_eq_true rfl, Nat.le_of_ble_eq_true rfl⟩ (fun r17 u18 e19 => ?_)
    have hS20 := hS6 r17 e19
    refine z_if_eq (tgt := 32) C d_Mo_variable_16 (by decide) (fun c21 => ?_) (fun c21 => ?_)
    · have hS22 := hS20.1 c21
      refine z_iconst (v := (0 : Int32)) C d_Mo_variable_32 (by decide) ?_
      refine z_callVi (As := [.int (0 : Int32)]) (b := q_t) (st := []) (wr := [zaD K q_t_globals 3 t_globals, zaD K q_t_own 12 t_own]) (wj := fun u => [zo 6 q_t [.ref q_t_text, .ref q_t_code, .ref q_t_site, .ref q_t_condition, .ref q_t_actions, .ref q_t_kind, .ref q_t_target, .ref q_t_first, .ref q_t_second, .ref q_t_failures, .ref q_t_met, .ref q_t_there, .ref q_t_on, .ref q_t_compared, .ref q_t_globals, .ref q_t_own, .ref q_t_records, .ref q_t_pile, .ref q_t_handed, .ref q_t_keys, .ref q_t_key, .ref q_t_count, .ref q_t_bins, .ref q_t_operator, .ref q_t_starts, .ref q_t_sum, .ref q_t_least, .ref q_t_greatest, .int t_newSite, .int t_newCondition, .int t_newActions, .int t_size, .int t_place, .int t_pos, .int t_at, .int t_operators, .int t_recorded, .int t_lost, .int t_dropped, .int t_firings, .int t_time, .int t_thread, .int u, .int t_failed], zaD K q_t_globals 3 t_globals, zaD K q_t_own 12 t_own]) C 0 rfl rfl (c_Mo_bad l D K q_t q_t_text q_t_code q_t_site q_t_condition q_t_actions q_t_kind q_t_target q_t_first q_t_second q_t_failures q_t_met q_t_there q_t_on q_t_compared q_t_globals q_t_own q_t_records q_t_pile q_t_handed q_t_keys q_t_key q_t_count q_t_bins q_t_operator q_t_starts q_t_sum q_t_least q_t_greatest t_newSite t_newCondition t_newActions t_size t_place t_pos t_at t_operators t_recorded t_lost t_dropped t_firings t_time t_thread t_thrown t_failed (0 : Int32)) (cwV 1 C.2.2.2.2.1 (z_gV wl_Mo_107 wi_Mo_bad wv_Mo_bad wz_Mo wk_Mo_bad) rfl rfl rfl (by decide +kernel) ⟨Nat.le_of_ble_eq_true rfl, Nat.le_of_ble_eq_true rfl⟩) [0] [1, 2] [2, 0, 1] rfl rfl rfl rfl (by decide) (fun _ => rfl) rfl rfl rfl (Nat.le_of_ble_eq_true rfl) d_Mo_variable_33 ⟨Nat.le_of_ble_eq_true rfl, Nat.le_of_ble_eq_true rfl⟩ (fun r23 u24 e25 => ?_)
      have hS26 := hS22 r23 u24 e25
      refine z_if_eq (tgt := 41) C d_Mo_variable_36 (by decide) (fun c27 => ?_) (fun c27 => ?_)
      · have hS28 := hS26.1 c27
        refine z_iload_n C d_Mo_variable_41 rfl 1 rfl ?_
        refine z_iconst (v := (3 : Int32)) C d_Mo_variable_42 (by decide) ?_
        refine z_icmp_ge (tgt := 55) C d_Mo_variable_43 (by decide) (fun c29 => ?_) (fun c29 => ?_)
        · have hS30 := hS28.1 c29
          refine z_aload_n C d_Mo_variable_55 rfl 0 rfl ?_
          refine z_get C 0 rfl rfl in_Mo 15 (by decide) rfl wf_Mo_57 rfl d_Mo_variable_56 ?_
          refine z_iload_n C d_Mo_variable_59 rfl 2 rfl ?_
          refine z_iconst (v := (3 : Int32)) C d_Mo_variable_60 (by decide) ?_
          refine z_imul C d_Mo_variable_61 ?_
          refine z_iload_n C d_Mo_variable_62 rfl 1 rfl ?_
          refine z_iadd C d_Mo_variable_63 ?_
          refine z_iconst (v := (3 : Int32)) C d_Mo_variable_64 (by decide) ?_
          refine z_isub C d_Mo_variable_65 ?_
          refine z_dald C 2 1 rfl rfl hS30.1 d_Mo_variable_66 ?_
          have hS31 := hS30.2
          exact z_dret C hr hlk u24 rfl hS31 d_Mo_variable_67
        · have hS30 := hS28.2 c29
          refine z_aload_n C d_Mo_variable_46 rfl 0 rfl ?_
          refine z_get C 0 rfl rfl in_Mo 14 (by decide) rfl wf_Mo_53 rfl d_Mo_variable_47 ?_
          refine z_iload_n C d_Mo_variable_50 rfl 1 rfl ?_
          refine z_dald C 1 1 rfl rfl hS30.1 d_Mo_variable_51 ?_
          have hS32 := hS30.2
          refine z_goto (tgt := 67) C d_Mo_variable_52 (by decide) ?_
          exact z_dret C hr hlk u24 rfl hS32 d_Mo_variable_67
      · have hS28 := hS26.2 c27
        refine z_dconst0 C d_Mo_variable_39 ?_
        exact z_dret C hr hlk u24 rfl hS28 d_Mo_variable_40
    · have hS22 := hS20.2 c21
      refine z_iload_n C d_Mo_variable_19 rfl 2 rfl ?_
      refine z_iconst (v := (0 : Int32)) C d_Mo_variable_20 (by decide) ?_
      refine z_iconst (v := (3 : Int32)) C d_Mo_variable_21 (by decide) ?_
      refine z_callSi (As := [.int x2, .int (0 : Int32), .int (3 : Int32)]) (st := [.ref q_t]) (wr := [zo 6 q_t [.ref q_t_text, .ref q_t_code, .ref q_t_site, .ref q_t_condition, .ref q_t_actions, .ref q_t_kind, .ref q_t_target, .ref q_t_first, .ref q_t_second, .ref q_t_failures, .ref q_t_met, .ref q_t_there, .ref q_t_on, .ref q_t_compared, .ref q_t_globals, .ref q_t_own, .ref q_t_records, .ref q_t_pile, .ref q_t_handed, .ref q_t_keys, .ref q_t_key, .ref q_t_count, .ref q_t_bins, .ref q_t_operator, .ref q_t_starts, .ref q_t_sum, .ref q_t_least, .ref q_t_greatest, .int t_newSite, .int t_newCondition, .int t_newActions, .int t_size, .int t_place, .int t_pos, .int t_at, .int t_operators, .int t_recorded, .int t_lost, .int t_dropped, .int t_firings, .int t_time, .int t_thread, .int t_thrown, .int t_failed], zaD K q_t_globals 3 t_globals, zaD K q_t_own 12 t_own]) (wj := fun u => [zo 6 q_t [.ref q_t_text, .ref q_t_code, .ref q_t_site, .ref q_t_condition, .ref q_t_actions, .ref q_t_kind, .ref q_t_target, .ref q_t_first, .ref q_t_second, .ref q_t_failures, .ref q_t_met, .ref q_t_there, .ref q_t_on, .ref q_t_compared, .ref q_t_globals, .ref q_t_own, .ref q_t_records, .ref q_t_pile, .ref q_t_handed, .ref q_t_keys, .ref q_t_key, .ref q_t_count, .ref q_t_bins, .ref q_t_operator, .ref q_t_starts, .ref q_t_sum, .ref q_t_least, .ref q_t_greatest, .int t_newSite, .int t_newCondition, .int t_newActions, .int t_size, .int t_place, .int t_pos, .int t_at, .int t_operators, .int t_recorded, .int t_lost, .int t_dropped, .int t_firings, .int t_time, .int t_thread, .int t_thrown, .int t_failed], zaD K q_t_globals 3 t_globals, zaD K q_t_own 12 t_own]) C (c_Mo_in l D K x2 (0 : Int32) (3 : Int32)) (cwS 3 C.2.2.2.2.1 (z_gS wl_Mo_103 ws_Mo_in wz_Mo wk_Mo_in) rfl rfl rfl (by decide +kernel) ⟨Nat.le_of_ble_eq_true rfl, Nat.le_of_ble_eq_true rfl⟩) [] [0, 1, 2] [0, 1, 2] rfl rfl rfl rfl (by decide) (fun _ => rfl) rfl rfl rfl (Nat.le_of_ble_eq_true rfl) d_Mo_variable_22 ⟨Nat.le_of_ble_eq_true rfl, Nat.le_of_ble_eq_true rfl⟩ (fun r33 u34 e35 => ?_)
      have hS36 := hS22 r33 e35
      refine z_if_eq (tgt := 32) C d_Mo_variable_25 (by decide) (fun c37 => ?_) (fun c37 => ?_)
      · have hS38 := hS36.1 c37
        refine z_iconst (v := (0 : Int32)) C d_Mo_variable_32 (by decide) ?_
        refine z_callVi (As := [.int (0 : Int32)]) (b := q_t) (st := []) (wr := [zaD K q_t_globals 3 t_globals, zaD K q_t_own 12 t_own]) (wj := fun u => [zo 6 q_t [.ref q_t_text, .ref q_t_code, .ref q_t_site, .ref q_t_condition, .ref q_t_actions, .ref q_t_kind, .ref q_t_target, .ref q_t_first, .ref q_t_second, .ref q_t_failures, .ref q_t_met, .ref q_t_there, .ref q_t_on, .ref q_t_compared, .ref q_t_globals, .ref q_t_own, .ref q_t_records, .ref q_t_pile, .ref q_t_handed, .ref q_t_keys, .ref q_t_key, .ref q_t_count, .ref q_t_bins, .ref q_t_operator, .ref q_t_starts, .ref q_t_sum, .ref q_t_least, .ref q_t_greatest, .int t_newSite, .int t_newCondition, .int t_newActions, .int t_size, .int t_place, .int t_pos, .int t_at, .int t_operators, .int t_recorded, .int t_lost, .int t_dropped, .int t_firings, .int t_time, .int t_thread, .int u, .int t_failed], zaD K q_t_globals 3 t_globals, zaD K q_t_own 12 t_own]) C 0 rfl rfl (c_Mo_bad l D K q_t q_t_text q_t_code q_t_site q_t_condition q_t_actions q_t_kind q_t_target q_t_first q_t_second q_t_failures q_t_met q_t_there q_t_on q_t_compared q_t_globals q_t_own q_t_records q_t_pile q_t_handed q_t_keys q_t_key q_t_count q_t_bins q_t_operator q_t_starts q_t_sum q_t_least q_t_greatest t_newSite t_newCondition t_newActions t_size t_place t_pos t_at t_operators t_recorded t_lost t_dropped t_firings t_time t_thread t_thrown t_failed (0 : Int32)) (cwV 1 C.2.2.2.2.1 (z_gV wl_Mo_107 wi_Mo_bad wv_Mo_bad wz_Mo wk_Mo_bad) rfl rfl rfl (by decide +kernel) ⟨Nat.le_of_ble_eq_true rfl, Nat.le_of_ble_eq_true rfl⟩) [0] [1, 2] [2, 0, 1] rfl rfl rfl rfl (by decide) (fun _ => rfl) rfl rfl rfl (Nat.le_of_ble_eq_true rfl) d_Mo_variable_33 ⟨Nat.le_of_ble_eq_true rfl, Nat.le_of_ble_eq_true rfl⟩ (fun r39 u40 e41 => ?_)
        have hS42 := hS38 r39 u40 e41
        refine z_if_eq (tgt := 41) C d_Mo_variable_36 (by decide) (fun c43 => ?_) (fun c43 => ?_)
        · have hS44 := hS42.1 c43
          refine z_iload_n C d_Mo_variable_41 rfl 1 rfl ?_
          refine z_iconst (v := (3 : Int32)) C d_Mo_variable_42 (by decide) ?_
          refine z_icmp_ge (tgt := 55) C d_Mo_variable_43 (by decide) (fun c45 => ?_) (fun c45 => ?_)
          · have hS46 := hS44.1 c45
            refine z_aload_n C d_Mo_variable_55 rfl 0 rfl ?_
            refine z_get C 0 rfl rfl in_Mo 15 (by decide) rfl wf_Mo_57 rfl d_Mo_variable_56 ?_
            refine z_iload_n C d_Mo_variable_59 rfl 2 rfl ?_
            refine z_iconst (v := (3 : Int32)) C d_Mo_variable_60 (by decide) ?_
            refine z_imul C d_Mo_variable_61 ?_
            refine z_iload_n C d_Mo_variable_62 rfl 1 rfl ?_
            refine z_iadd C d_Mo_variable_63 ?_
            refine z_iconst (v := (3 : Int32)) C d_Mo_variable_64 (by decide) ?_
            refine z_isub C d_Mo_variable_65 ?_
            refine z_dald C 2 1 rfl rfl hS46.1 d_Mo_variable_66 ?_
            have hS47 := hS46.2
            exact z_dret C hr hlk u40 rfl hS47 d_Mo_variable_67
          · have hS46 := hS44.2 c45
            refine z_aload_n C d_Mo_variable_46 rfl 0 rfl ?_
            refine z_get C 0 rfl rfl in_Mo 14 (by decide) rfl wf_Mo_53 rfl d_Mo_variable_47 ?_
            refine z_iload_n C d_Mo_variable_50 rfl 1 rfl ?_
            refine z_dald C 1 1 rfl rfl hS46.1 d_Mo_variable_51 ?_
            have hS48 := hS46.2
            refine z_goto (tgt := 67) C d_Mo_variable_52 (by decide) ?_
            exact z_dret C hr hlk u40 rfl hS48 d_Mo_variable_67
        · have hS44 := hS42.2 c43
          refine z_dconst0 C d_Mo_variable_39 ?_
          exact z_dret C hr hlk u40 rfl hS44 d_Mo_variable_40
      · have hS38 := hS36.2 c37
        refine z_iconst (v := (1 : Int32)) C d_Mo_variable_28 (by decide) ?_
        refine z_goto (tgt := 33) C d_Mo_variable_29 (by decide) ?_
        refine z_callVi (As := [.int (1 : Int32)]) (b := q_t) (st := []) (wr := [zaD K q_t_globals 3 t_globals, zaD K q_t_own 12 t_own]) (wj := fun u => [zo 6 q_t [.ref q_t_text, .ref q_t_code, .ref q_t_site, .ref q_t_condition, .ref q_t_actions, .ref q_t_kind, .ref q_t_target, .ref q_t_first, .ref q_t_second, .ref q_t_failures, .ref q_t_met, .ref q_t_there, .ref q_t_on, .ref q_t_compared, .ref q_t_globals, .ref q_t_own, .ref q_t_records, .ref q_t_pile, .ref q_t_handed, .ref q_t_keys, .ref q_t_key, .ref q_t_count, .ref q_t_bins, .ref q_t_operator, .ref q_t_starts, .ref q_t_sum, .ref q_t_least, .ref q_t_greatest, .int t_newSite, .int t_newCondition, .int t_newActions, .int t_size, .int t_place, .int t_pos, .int t_at, .int t_operators, .int t_recorded, .int t_lost, .int t_dropped, .int t_firings, .int t_time, .int t_thread, .int u, .int t_failed], zaD K q_t_globals 3 t_globals, zaD K q_t_own 12 t_own]) C 0 rfl rfl (c_Mo_bad l D K q_t q_t_text q_t_code q_t_site q_t_condition q_t_actions q_t_kind q_t_target q_t_first q_t_second q_t_failures q_t_met q_t_there q_t_on q_t_compared q_t_globals q_t_own q_t_records q_t_pile q_t_handed q_t_keys q_t_key q_t_count q_t_bins q_t_operator q_t_starts q_t_sum q_t_least q_t_greatest t_newSite t_newCondition t_newActions t_size t_place t_pos t_at t_operators t_recorded t_lost t_dropped t_firings t_time t_thread t_thrown t_failed (1 : Int32)) (cwV 1 C.2.2.2.2.1 (z_gV wl_Mo_107 wi_Mo_bad wv_Mo_bad wz_Mo wk_Mo_bad) rfl rfl rfl (by decide +kernel) ⟨Nat.le_of_ble_eq_true rfl, Nat.le_of_ble_eq_true rfl⟩) [0] [1, 2] [2, 0, 1] rfl rfl rfl rfl (by decide) (fun _ => rfl) rfl rfl rfl (Nat.le_of_ble_eq_true rfl) d_Mo_variable_33 ⟨Nat.le_of_ble_eq_true rfl, Nat.le_of_ble_eq_true rfl⟩ (fun r49 u50 e51 => ?_)
        have hS52 := hS38 r49 u50 e51
        refine z_if_eq (tgt := 41) C d_Mo_variable_36 (by decide) (fun c53 => ?_) (fun c53 => ?_)
        · have hS54 := hS52.1 c53
          refine z_iload_n C d_Mo_variable_41 rfl 1 rfl ?_
          refine z_iconst (v := (3 : Int32)) C d_Mo_variable_42 (by decide) ?_
          refine z_icmp_ge (tgt := 55) C d_Mo_variable_43 (by decide) (fun c55 => ?_) (fun c55 => ?_)
          · have hS56 := hS54.1 c55
            refine z_aload_n C d_Mo_variable_55 rfl 0 rfl ?_
            refine z_get C 0 rfl rfl in_Mo 15 (by decide) rfl wf_Mo_57 rfl d_Mo_variable_56 ?_
            refine z_iload_n C d_Mo_variable_59 rfl 2 rfl ?_
            refine z_iconst (v := (3 : Int32)) C d_Mo_variable_60 (by decide) ?_
            refine z_imul C d_Mo_variable_61 ?_
            refine z_iload_n C d_Mo_variable_62 rfl 1 rfl ?_
            refine z_iadd C d_Mo_variable_63 ?_
            refine z_iconst (v := (3 : Int32)) C d_Mo_variable_64 (by decide) ?_
            refine z_isub C d_Mo_variable_65 ?_
            refine z_dald C 2 1 rfl rfl hS56.1 d_Mo_variable_66 ?_
            have hS57 := hS56.2
            exact z_dret C hr hlk u50 rfl hS57 d_Mo_variable_67
          · have hS56 := hS54.2 c55
            refine z_aload_n C d_Mo_variable_46 rfl 0 rfl ?_
            refine z_get C 0 rfl rfl in_Mo 14 (by decide) rfl wf_Mo_53 rfl d_Mo_variable_47 ?_
            refine z_iload_n C d_Mo_variable_50 rfl 1 rfl ?_
            refine z_dald C 1 1 rfl rfl hS56.1 d_Mo_variable_51 ?_
            have hS58 := hS56.2
            refine z_goto (tgt := 67) C d_Mo_variable_52 (by decide) ?_
            exact z_dret C hr hlk u50 rfl hS58 d_Mo_variable_67
        · have hS54 := hS52.2 c53
          refine z_dconst0 C d_Mo_variable_39 ?_
          exact z_dret C hr hlk u50 rfl hS54 d_Mo_variable_40
def s_Mo_variable (t_thrown : Int32) (t_globals : Nat → UInt64) (t_own : Nat → UInt64) (x1 : Int32) (x2 : Int32) : UInt64 × Int32 := (zl1 (s_Mo_in x1 (0 : Int32) (2 : Int32)) fun r1 => (if r1 = 0 then (zl1 (s_Mo_in x1 (3 : Int32) (5 : Int32)) fun r17 => (if r17 = 0 then (zl2 (s_Mo_bad t_thrown (0 : Int32)) (fun r23 u24 => (if r23 = 0 then (if (3 : Int32) ≤ x1 then (t_own (((x2 * (3 : Int32)) + x1) - (3 : Int32)).toNatClampNeg, u24) else (t_globals x1.toNatClampNeg, u24)) else (FP.dconst0, u24)))) else (zl1 (s_Mo_in x2 (0 : Int32) (3 : Int32)) fun r33 => (if r33 = 0 then (zl2 (s_Mo_bad t_thrown (0 : Int32)) (fun r39 u40 => (if r39 = 0 then (if (3 : Int32) ≤ x1 then (t_own (((x2 * (3 : Int32)) + x1) - (3 : Int32)).toNatClampNeg, u40) else (t_globals x1.toNatClampNeg, u40)) else (FP.dconst0, u40)))) else (zl2 (s_Mo_bad t_thrown (1 : Int32)) (fun r49 u50 => (if r49 = 0 then (if (3 : Int32) ≤ x1 then (t_own (((x2 * (3 : Int32)) + x1) - (3 : Int32)).toNatClampNeg, u50) else (t_globals x1.toNatClampNeg, u50)) else (FP.dconst0, u50)))))))) else (zl2 (s_Mo_bad t_thrown (1 : Int32)) (fun r7 u8 => (if r7 = 0 then (if (3 : Int32) ≤ x1 then (t_own (((x2 * (3 : Int32)) + x1) - (3 : Int32)).toNatClampNeg, u8) else (t_globals x1.toNatClampNeg, u8)) else (FP.dconst0, u8))))))
def p_Mo_variable (t_thrown : Int32) (t_globals : Nat → UInt64) (t_own : Nat → UInt64) (x1 : Int32) (x2 : Int32) : Prop := WP_Mo_variable t_thrown t_globals t_own x1 x2 (fun _ _ => True)
set_option maxRecDepth 100000 in
theorem v_Mo_variable (t_thrown : Int32) (t_globals : Nat → UInt64) (t_own : Nat → UInt64) (x1 : Int32) (x2 : Int32) (hp : p_Mo_variable t_thrown t_globals t_own x1 x2) : WP_Mo_variable t_thrown t_globals t_own x1 x2 (fun r u => s_Mo_variable t_thrown t_globals t_own x1 x2 = (r, u)) := by
  unfold p_Mo_variable WP_Mo_variable at hp
  obtain ⟨tgt, f0⟩ : ∃ tgt, s_Mo_variable t_thrown t_globals t_own x1 x2 = tgt := ⟨_, rfl⟩
  rw [f0]
  unfold s_Mo_variable at f0
  unfold WP_Mo_variable
  intro r1 e3
  have g1 := hp r1 e3
  have f1 := Eq.trans (Eq.symm (zl1_eq e3)) f0
  refine ⟨fun c5 => ?_, fun c5 => ?_⟩
  · have f2 := Eq.trans (Eq.symm (if_neg c5)) f1
    have g2 := g1.1 c5
    intro r7 u8 e9
    have g3 := g2 r7 u8 e9
    have f3 := Eq.trans (Eq.symm (zl2_eq e9)) f2
    refine ⟨fun c11 => ?_, fun c11 => ?_⟩
    · have f4 := Eq.trans (Eq.symm (if_pos c11)) f3
      have g4 := g3.1 c11
      refine ⟨fun c13 => ?_, fun c13 => ?_⟩
      · have f5 := Eq.trans (Eq.symm (if_pos c13)) f4
        have g5 := g4.1 c13
        refine ⟨g5.1, ?_⟩
        have g6 := g5.2
        exact f5.symm
      · have f5 := Eq.trans (Eq.symm (if_neg c13)) f4
        have g5 := g4.2 c13
        refine ⟨g5.1, ?_⟩
        have g7 := g5.2
        exact f5.symm
    · have f4 := Eq.trans (Eq.symm (if_neg c11)) f3
      have g4 := g3.2 c11
      exact f4.symm
  · have f2 := Eq.trans (Eq.symm (if_pos c5)) f1
    have g2 := g1.2 c5
    intro r17 e19
    have g8 := g2 r17 e19
    have f8 := Eq.trans (Eq.symm (zl1_eq e19)) f2
    refine ⟨fun c21 => ?_, fun c21 => ?_⟩
    · have f9 := Eq.trans (Eq.symm (if_pos c21)) f8
      have g9 := g8.1 c21
      intro r23 u24 e25
      have g10 := g9 r23 u24 e25
      have f10 := Eq.trans (Eq.symm (zl2_eq e25)) f9
      refine ⟨fun c27 => ?_, fun c27 => ?_⟩
      · have f11 := Eq.trans (Eq.symm (if_pos c27)) f10
        have g11 := g10.1 c27
        refine ⟨fun c29 => ?_, fun c29 => ?_⟩
        · have f12 := Eq.trans (Eq.symm (if_pos c29)) f11
          have g12 := g11.1 c29
          refine ⟨g12.1, ?_⟩
          have g13 := g12.2
          exact f12.symm
        · have f12 := Eq.trans (Eq.symm (if_neg c29)) f11
          have g12 := g11.2 c29
          refine ⟨g12.1, ?_⟩
          have g14 := g12.2
          exact f12.symm
      · have f11 := Eq.trans (Eq.symm (if_neg c27)) f10
        have g11 := g10.2 c27
        exact f11.symm
    · have f9 := Eq.trans (Eq.symm (if_neg c21)) f8
      have g9 := g8.2 c21
      intro r33 e35
      have g15 := g9 r33 e35
      have f15 := Eq.trans (Eq.symm (zl1_eq e35)) f9
      refine ⟨fun c37 => ?_, fun c37 => ?_⟩
      · have f16 := Eq.trans (Eq.symm (if_pos c37)) f15
        have g16 := g15.1 c37
        intro r39 u40 e41
        have g17 := g16 r39 u40 e41
        have f17 := Eq.trans (Eq.symm (zl2_eq e41)) f16
        refine ⟨fun c43 => ?_, fun c43 => ?_⟩
        · have f18 := Eq.trans (Eq.symm (if_pos c43)) f17
          have g18 := g17.1 c43
          refine ⟨fun c45 => ?_, fun c45 => ?_⟩
          · have f19 := Eq.trans (Eq.symm (if_pos c45)) f18
            have g19 := g18.1 c45
            refine ⟨g19.1, ?_⟩
            have g20 := g19.2
            exact f19.symm
          · have f19 := Eq.trans (Eq.symm (if_neg c45)) f18
            have g19 := g18.2 c45
            refine ⟨g19.1, ?_⟩
            have g21 := g19.2
            exact f19.symm
        · have f18 := Eq.trans (Eq.symm (if_neg c43)) f17
          have g18 := g17.2 c43
          exact f18.symm
      · have f16 := Eq.trans (Eq.symm (if_neg c37)) f15
        have g16 := g15.2 c37
        intro r49 u50 e51
        have g22 := g16 r49 u50 e51
        have f22 := Eq.trans (Eq.symm (zl2_eq e51)) f16
        refine ⟨fun c53 => ?_, fun c53 => ?_⟩
        · have f23 := Eq.trans (Eq.symm (if_pos c53)) f22
          have g23 := g22.1 c53
          refine ⟨fun c55 => ?_, fun c55 => ?_⟩
          · have f24 := Eq.trans (Eq.symm (if_pos c55)) f23
            have g24 := g23.1 c55
            refine ⟨g24.1, ?_⟩
            have g25 := g24.2
            exact f24.symm
          · have f24 := Eq.trans (Eq.symm (if_neg c55)) f23
            have g24 := g23.2 c55
            refine ⟨g24.1, ?_⟩
            have g26 := g24.2
            exact f24.symm
        · have f23 := Eq.trans (Eq.symm (if_neg c53)) f22
          have g23 := g22.2 c53
          exact f23.symm
theorem c_Mo_variable (l : Launch) (D : va_G) (K : Nat → ClassId) (q_t : Nat) (q_t_text : Nat) (q_t_code : Nat) (q_t_site : Nat) (q_t_condition : Nat) (q_t_actions : Nat) (q_t_kind : Nat) (q_t_target : Nat) (q_t_first : Nat) (q_t_second : Nat) (q_t_failures : Nat) (q_t_met : Nat) (q_t_there : Nat) (q_t_on : Nat) (q_t_compared : Nat) (q_t_globals : Nat) (q_t_own : Nat) (q_t_records : Nat) (q_t_pile : Nat) (q_t_handed : Nat) (q_t_keys : Nat) (q_t_key : Nat) (q_t_count : Nat) (q_t_bins : Nat) (q_t_operator : Nat) (q_t_starts : Nat) (q_t_sum : Nat) (q_t_least : Nat) (q_t_greatest : Nat) (t_newSite : Int32) (t_newCondition : Int32) (t_newActions : Int32) (t_size : Int32) (t_place : Int32) (t_pos : Int32) (t_at : Int32) (t_operators : Int32) (t_recorded : Int32) (t_lost : Int32) (t_dropped : Int32) (t_firings : Int32) (t_time : Int32) (t_thread : Int32) (t_thrown : Int32) (t_failed : Int32) (t_globals : Nat → UInt64) (t_own : Nat → UInt64) (x1 : Int32) (x2 : Int32) (hp : p_Mo_variable t_thrown t_globals t_own x1 x2) : zCd l y_Mo_variable wy_Mo_variable rm_Mo_variable D zcl (zT K) [.ref q_t, .int x1, .int x2] (w_Mo_variable K q_t q_t_text q_t_code q_t_site q_t_condition q_t_actions q_t_kind q_t_target q_t_first q_t_second q_t_failures q_t_met q_t_there q_t_on q_t_compared q_t_globals q_t_own q_t_records q_t_pile q_t_handed q_t_keys q_t_key q_t_count q_t_bins q_t_operator q_t_starts q_t_sum q_t_least q_t_greatest t_newSite t_newCondition t_newActions t_size t_place t_pos t_at t_operators t_recorded t_lost t_dropped t_firings t_time t_thread t_failed t_globals t_own t_thrown) (w_Mo_variable K q_t q_t_text q_t_code q_t_site q_t_condition q_t_actions q_t_kind q_t_target q_t_first q_t_second q_t_failures q_t_met q_t_there q_t_on q_t_compared q_t_globals q_t_own q_t_records q_t_pile q_t_handed q_t_keys q_t_key q_t_count q_t_bins q_t_operator q_t_starts q_t_sum q_t_least q_t_greatest t_newSite t_newCondition t_newActions t_size t_place t_pos t_at t_operators t_recorded t_lost t_dropped t_firings t_time t_thread t_failed t_globals t_own) (fun r u => s_Mo_variable t_thrown t_globals t_own x1 x2 = (r, u)) 0 0 := cw_Mo_variable l D K q_t q_t_text q_t_code q_t_site q_t_condition q_t_actions q_t_kind q_t_target q_t_first q_t_second q_t_failures q_t_met q_t_there q_t_on q_t_compared q_t_globals q_t_own q_t_records q_t_pile q_t_handed q_t_keys q_t_key q_t_count q_t_bins q_t_operator q_t_starts q_t_sum q_t_least q_t_greatest t_newSite t_newCondition t_newActions t_size t_place t_pos t_at t_operators t_recorded t_lost t_dropped t_firings t_time t_thread t_thrown t_failed t_globals t_own x1 x2 (v_Mo_variable t_thrown t_globals t_own x1 x2 hp)
-- RuleTracerModel.gathered(III)D: reads ['t.thrown', 't.keys', 't.key', 't.sum', 't.least', 't.greatest', 't.count'], changes ['t.thrown']
abbrev w_Mo_gathered (K : Nat → ClassId) (q_t : Nat) (q_t_text : Nat) (q_t_code : Nat) (q_t_site : Nat) (q_t_condition : Nat) (q_t_actions : Nat) (q_t_kind : Nat) (q_t_target : Nat) (q_t_first : Nat) (q_t_second : Nat) (q_t_failures : Nat) (q_t_met : Nat) (q_t_there : Nat) (q_t_on : Nat) (q_t_compared : Nat) (q_t_globals : Nat) (q_t_own : Nat) (q_t_records : Nat) (q_t_pile : Nat) (q_t_handed : Nat) (q_t_keys : Nat) (q_t_key : Nat) (q_t_count : Nat) (q_t_bins : Nat) (q_t_operator : Nat) (q_t_starts : Nat) (q_t_sum : Nat) (q_t_least : Nat) (q_t_greatest : Nat) (t_newSite : Int32) (t_newCondition : Int32) (t_newActions : Int32) (t_size : Int32) (t_place : Int32) (t_pos : Int32) (t_at : Int32) (t_operators : Int32) (t_recorded : Int32) (t_lost : Int32) (t_dropped : Int32) (t_firings : Int32) (t_time : Int32) (t_thread : Int32) (t_failed : Int32) (t_keys : Nat → Int32) (t_key : Nat → Int32) (t_sum : Nat → UInt64) (t_least : Nat → UInt64) (t_greatest : Nat → UInt64) (t_count : Nat → Int32) (u : Int32) : va_W := [zo 6 q_t [.ref q_t_text, .ref q_t_code, .ref q_t_site, .ref q_t_condition, .ref q_t_actions, .ref q_t_kind, .ref q_t_target, .ref q_t_first, .ref q_t_second, .ref q_t_failures, .ref q_t_met, .ref q_t_there, .ref q_t_on, .ref q_t_compared, .ref q_t_globals, .ref q_t_own, .ref q_t_records, .ref q_t_pile, .ref q_t_handed, .ref q_t_keys, .ref q_t_key, .ref q_t_count, .ref q_t_bins, .ref q_t_operator, .ref q_t_starts, .ref q_t_sum, .ref q_t_least, .ref q_t_greatest, .int t_newSite, .int t_newCondition, .int t_newActions, .int t_size, .int t_place, .int t_pos, .int t_at, .int t_operators, .int t_recorded, .int t_lost, .int t_dropped, .int t_firings, .int t_time, .int t_thread, .int u, .int t_failed], zaI K q_t_keys 3 t_keys, zaI K q_t_key 12 t_key, zaD K q_t_sum 12 t_sum, zaD K q_t_least 12 t_least, zaD K q_t_greatest 12 t_greatest, zaI K q_t_count 12 t_count]
abbrev rm_Mo_gathered : Room := { frames := 1, cells := 0, slots := 0, locals := 23 }
abbrev wy_Mo_gathered : List Cond := .code y_Mo_gathered b_Mo_gathered 5 (some .double) :: zWT
def WP_Mo_gathered (t_thrown : Int32) (t_keys : Nat → Int32) (t_key : Nat → Int32) (t_sum : Nat → UInt64) (t_least : Nat → UInt64) (t_greatest : Nat → UInt64) (t_count : Nat → Int32) (x1 : Int32) (x2 : Int32) (x3 : Int32) (Q : UInt64 → Int32 → Prop) : Prop := (∀ (r1 : Int32), s_Mo_in x1 (0 : Int32) (2 : Int32) = r1 → ((r1 = 0) → (∀ (r7 : Int32) (u8 : Int32), s_Mo_bad t_thrown (0 : Int32) = (r7, u8) → ((r7 = 0) → p_Mo_find t_keys t_key x1 x2 ∧ (∀ (r13 : Int32), s_Mo_find t_keys t_key x1 x2 = r13 → ((0 ≤ r13) → ((¬ x3 = 0) → ((¬ x3 = (1 : Int32)) → ((¬ x3 = (2 : Int32)) → vp_in r13 12 ∧ vp_in r13 12 ∧ vf_n64 (FP.ddiv (t_sum r13.toNatClampNeg) (FP.i2d (t_count r13.toNatClampNeg))) ∧ Q (FP.ddiv (t_sum r13.toNatClampNeg) (FP.i2d (t_count r13.toNatClampNeg))) u8) ∧ ((x3 = (2 : Int32)) → vp_in r13 12 ∧ Q (t_greatest r13.toNatClampNeg) u8)) ∧ ((x3 = (1 : Int32)) → vp_in r13 12 ∧ Q (t_least r13.toNatClampNeg) u8)) ∧ ((x3 = 0) → vp_in r13 12 ∧ Q (t_sum r13.toNatClampNeg) u8)) ∧ ((¬ 0 ≤ r13) → (∀ (r31 : UInt64) (u32 : Int32), s_Mo_fail u8 (2 : Int32) = (r31, u32) → Q r31 u32)))) ∧ ((¬ r7 = 0) → Q FP.dconst0 u8))) ∧ ((¬ r1 = 0) → (∀ (r35 : Int32), s_Mo_in x3 (0 : Int32) (3 : Int32) = r35 → ((r35 = 0) → (∀ (r41 : Int32) (u42 : Int32), s_Mo_bad t_thrown (0 : Int32) = (r41, u42) → ((r41 = 0) → p_Mo_find t_keys t_key x1 x2 ∧ (∀ (r47 : Int32), s_Mo_find t_keys t_key x1 x2 = r47 → ((0 ≤ r47) → ((¬ x3 = 0) → ((¬ x3 = (1 : Int32)) → ((¬ x3 = (2 : Int32)) → vp_in r47 12 ∧ vp_in r47 12 ∧ vf_n64 (FP.ddiv (t_sum r47.toNatClampNeg) (FP.i2d (t_count r47.toNatClampNeg))) ∧ Q (FP.ddiv (t_sum r47.toNatClampNeg) (FP.i2d (t_count r47.toNatClampNeg))) u42) ∧ ((x3 = (2 : Int32)) → vp_in r47 12 ∧ Q (t_greatest r47.toNatClampNeg) u42)) ∧ ((x3 = (1 : Int32)) → vp_in r47 12 ∧ Q (t_least r47.toNatClampNeg) u42)) ∧ ((x3 = 0) → vp_in r47 12 ∧ Q (t_sum r47.toNatClampNeg) u42)) ∧ ((¬ 0 ≤ r47) → (∀ (r65 : UInt64) (u66 : Int32), s_Mo_fail u42 (2 : Int32) = (r65, u66) → Q r65 u66)))) ∧ ((¬ r41 = 0) → Q FP.dconst0 u42))) ∧ ((¬ r35 = 0) → (∀ (r69 : Int32) (u70 : Int32), s_Mo_bad t_thrown (1 : Int32) = (r69, u70) → ((r69 = 0) → p_Mo_find t_keys t_key x1 x2 ∧ (∀ (r75 : Int32), s_Mo_find t_keys t_key x1 x2 = r75 → ((0 ≤ r75) → ((¬ x3 = 0) → ((¬ x3 = (1 : Int32)) → ((¬ x3 = (2 : Int32)) → vp_in r75 12 ∧ vp_in r75 12 ∧ vf_n64 (FP.ddiv (t_sum r75.toNatClampNeg) (FP.i2d (t_count r75.toNatClampNeg))) ∧ Q (FP.ddiv (t_sum r75.toNatClampNeg) (FP.i2d (t_count r75.toNatClampNeg))) u70) ∧ ((x3 = (2 : Int32)) → vp_in r75 12 ∧ Q (t_greatest r75.toNatClampNeg) u70)) ∧ ((x3 = (1 : Int32)) → vp_in r75 12 ∧ Q (t_least r75.toNatClampNeg) u70)) ∧ ((x3 = 0) → vp_in r75 12 ∧ Q (t_sum r75.toNatClampNeg) u70)) ∧ ((¬ 0 ≤ r75) → (∀ (r93 : UInt64) (u94 : Int32), s_Mo_fail u70 (2 : Int32) = (r93, u94) → Q r93 u94)))) ∧ ((¬ r69 = 0) → Q FP.dconst0 u70))))))
set_option maxHeartbeats 4000000 in
set_option maxRecDepth 100000 in
theorem cw_Mo_gathered (l : Launch) (D : va_G) (K : Nat → ClassId) (q_t : Nat) (q_t_text : Nat) (q_t_code : Nat) (q_t_site : Nat) (q_t_condition : Nat) (q_t_actions : Nat) (q_t_kind : Nat) (q_t_target : Nat) (q_t_first : Nat) (q_t_second : Nat) (q_t_failures : Nat) (q_t_met : Nat) (q_t_there : Nat) (q_t_on : Nat) (q_t_compared : Nat) (q_t_globals : Nat) (q_t_own : Nat) (q_t_records : Nat) (q_t_pile : Nat) (q_t_handed : Nat) (q_t_keys : Nat) (q_t_key : Nat) (q_t_count : Nat) (q_t_bins : Nat) (q_t_operator : Nat) (q_t_starts : Nat) (q_t_sum : Nat) (q_t_least : Nat) (q_t_greatest : Nat) (t_newSite : Int32) (t_newCondition : Int32) (t_newActions : Int32) (t_size : Int32) (t_place : Int32) (t_pos : Int32) (t_at : Int32) (t_operators : Int32) (t_recorded : Int32) (t_lost : Int32) (t_dropped : Int32) (t_firings : Int32) (t_time : Int32) (t_thread : Int32) (t_thrown : Int32) (t_failed : Int32) (t_keys : Nat → Int32) (t_key : Nat → Int32) (t_sum : Nat → UInt64) (t_least : Nat → UInt64) (t_greatest : Nat → UInt64) (t_count : Nat → Int32) (x1 : Int32) (x2 : Int32) (x3 : Int32) {Q : UInt64 → Int32 → Prop} (hS0 : WP_Mo_gathered t_thrown t_keys t_key t_sum t_least t_greatest t_count x1 x2 x3 Q) : zCd l y_Mo_gathered wy_Mo_gathered rm_Mo_gathered D zcl (zT K) [.ref q_t, .int x1, .int x2, .int x3] (w_Mo_gathered K q_t q_t_text q_t_code q_t_site q_t_condition q_t_actions q_t_kind q_t_target q_t_first q_t_second q_t_failures q_t_met q_t_there q_t_on q_t_compared q_t_globals q_t_own q_t_records q_t_pile q_t_handed q_t_keys q_t_key q_t_count q_t_bins q_t_operator q_t_starts q_t_sum q_t_least q_t_greatest t_newSite t_newCondition t_newActions t_size t_place t_pos t_at t_operators t_recorded t_lost t_dropped t_firings t_time t_thread t_failed t_keys t_key t_sum t_least t_greatest t_count t_thrown) (w_Mo_gathered K q_t q_t_text q_t_code q_t_site q_t_condition q_t_actions q_t_kind q_t_target q_t_first q_t_second q_t_failures q_t_met q_t_there q_t_on q_t_compared q_t_globals q_t_own q_t_records q_t_pile q_t_handed q_t_keys q_t_key q_t_count q_t_bins q_t_operator q_t_starts q_t_sum q_t_least q_t_greatest t_newSite t_newCondition t_newActions t_size t_place t_pos t_at t_operators t_recorded t_lost t_dropped t_firings t_time t_thread t_failed t_keys t_key t_sum t_least t_greatest t_count) Q 0 0 := by
  refine z_metd (cc := b_Mo_gathered) (maxL := 5) (ret := (some .double)) (by decide) rfl (Nat.le_of_ble_eq_true rfl) ?_
  intro p e s m args below meth c A C hr hlk hnm
  refine z_lpick (lv' := [(0, .ref q_t), (1, .int x1), (2, .int x2), (3, .int x3)]) [0, 1, 2, 3] rfl ?_
  refine z_weq (ws' := [zo 6 q_t [.ref q_t_text, .ref q_t_code, .ref q_t_site, .ref q_t_condition, .ref q_t_actions, .ref q_t_kind, .ref q_t_target, .ref q_t_first, .ref q_t_second, .ref q_t_failures, .ref q_t_met, .ref q_t_there, .ref q_t_on, .ref q_t_compared, .ref q_t_globals, .ref q_t_own, .ref q_t_records, .ref q_t_pile, .ref q_t_handed, .ref q_t_keys, .ref q_t_key, .ref q_t_count, .ref q_t_bins, .ref q_t_operator, .ref q_t_starts, .ref q_t_sum, .ref q_t_least, .ref q_t_greatest, .int t_newSite, .int t_newCondition, .int t_newActions, .int t_size, .int t_place, .int t_pos, .int t_at, .int t_operators, .int t_recorded, .int t_lost, .int t_dropped, .int t_firings, .int t_time, .int t_thread, .int t_thrown, .int t_failed], zaI K q_t_keys 3 t_keys, zaI K q_t_key 12 t_key, zaD K q_t_sum 12 t_sum, zaD K q_t_least 12 t_least, zaD K q_t_greatest 12 t_greatest, zaI K q_t_count 12 t_count]) rfl ?_
  refine z_aload_n C d_Mo_gathered_0 rfl 0 rfl ?_
  refine z_iload_n C d_Mo_gathered_1 rfl 1 rfl ?_
  refine z_iconst (v := (0 : Int32)) C d_Mo_gathered_2 (by decide) ?_
  refine z_iconst (v := (2 : Int32)) C d_Mo_gathered_3 (by decide) ?_
  refine z_callSi (As := [.int x1, .int (0 : Int32), .int (2 : Int32)]) (st := [.ref q_t]) (wr := [zo 6 q_t [.ref q_t_text, .ref q_t_code, .ref q_t_site, .ref q_t_condition, .ref q_t_actions, .ref q_t_kind, .ref q_t_target, .ref q_t_first, .ref q_t_second, .ref q_t_failures, .ref q_t_met, .ref q_t_there, .ref q_t_on, .ref q_t_compared, .ref q_t_globals, .ref q_t_own, .ref q_t_records, .ref q_t_pile, .ref q_t_handed, .ref q_t_keys, .ref q_t_key, .ref q_t_count, .ref q_t_bins, .ref q_t_operator, .ref q_t_starts, .ref q_t_sum, .ref q_t_least, .ref q_t_greatest, .int t_newSite, .int t_newCondition, .int t_newActions, .int t_size, .int t_place, .int t_pos, .int t_at, .int t_operators, .int t_recorded, .int t_lost, .int t_dropped, .int t_firings, .int t_time, .int t_thread, .int t_thrown, .int t_failed], zaI K q_t_keys 3 t_keys, zaI K q_t_key 12 t_key, zaD K q_t_sum 12 t_sum, zaD K q_t_least 12 t_least, zaD K q_t_greatest 12 t_greatest, zaI K q_t_count 12 t_count]) (wj := fun u => [zo 6 q_t [.ref q_t_text, .ref q_t_code, .ref q_t_site, .ref q_t_condition, .ref q_t_actions, .ref q_t_kind, .ref q_t_target, .ref q_t_first, .ref q_t_second, .ref q_t_failures, .ref q_t_met, .ref q_t_there, .ref q_t_on, .ref q_t_compared, .ref q_t_globals, .ref q_t_own, .ref q_t_records, .ref q_t_pile, .ref q_t_handed, .ref q_t_keys, .ref q_t_key, .ref q_t_count, .ref q_t_bins, .ref q_t_operator, .ref q_t_starts, .ref q_t_sum, .ref q_t_least, .ref q_t_greatest, .int t_newSite, .int t_newCondition, .int t_newActions, .int t_size, .int t_place, .int t_pos, .int t_at, .int t_operators, .int t_recorded, .int t_lost, .int t_dropped, .int t_firings, .int t_time, .int t_thread, .int t_thrown, .int t_failed], zaI K q_t_keys 3 t_keys, zaI K q_t_key 12 t_key, zaD K q_t_sum 12 t_sum, zaD K q_t_least 12 t_least, zaD K q_t_greatest 12 t_greatest, zaI K q_t_count 12 t_count]) C (c_Mo_in l D K x1 (0 : Int32) (2 : Int32)) (cwS 3 C.2.2.2.2.1 (z_gS wl_Mo_103 ws_Mo_in wz_Mo wk_Mo_in) rfl rfl rfl (by decide +kernel) ⟨Nat.le_of_ble_eq_true rfl, Nat.le_of_ble_eq_true rfl⟩) [] [0, 1, 2, 3, 4, 5, 6] [0, 1, 2, 3, 4, 5, 6] rfl rfl rfl rfl (by decide) (fun _ => rfl) rfl rfl rfl (Nat.le_of_ble_eq_true rfl) d_Mo_gathered_4 ⟨Nat.le_of_ble_eq_true rfl, Nat.le_of_ble_eq_true rfl⟩ (fun r1 u2 e3 => ?_)
  have hS4 := hS0 r1 e3
  refine z_if_eq (tgt := 23) C d_Mo_gathered_7 (by decide) (fun c5 => ?_) (fun c5 => ?_)
  · have hS6 := hS4.1 c5
    refine z_iconst (v := (0 : Int32)) C d_Mo_gathered_23 (by decide) ?_
    refine z_callVi (As := [.int (0 : Int32)]) (b := q_t) (st := []) (wr := [zaI K q_t_keys 3 t_keys, zaI K q_t_key 12 t_key, zaD K q_t_sum 12 t_sum, zaD K q_t_least 12 t_least, zaD K q_t_greatest 12 t_greatest, zaI K q_t_count 12 t_count]) (wj := fun u => [zo 6 q_t [.ref q_t_text, .ref q_t_code, .ref q_t_site, .ref q_t_condition, .ref q_t_actions, .ref q_t_kind, .ref q_t_target, .ref q_t_first, .ref q_t_second, .ref q_t_failures, .ref q_t_met, .ref q_t_there, .ref q_t_on, .ref q_t_compared, .ref q_t_globals, .ref q_t_own, .ref q_t_records, .ref q_t_pile, .ref q_t_handed, .ref q_t_keys, .ref q_t_key, .ref q_t_count, .ref q_t_bins, .ref q_t_operator, .ref q_t_starts, .ref q_t_sum, .ref q_t_least, .ref q_t_greatest, .int t_newSite, .int t_newCondition, .int t_newActions, .int t_size, .int t_place, .int t_pos, .int t_at, .int t_operators, .int t_recorded, .int t_lost, .int t_dropped, .int t_firings, .int t_time, .int t_thread, .int u, .int t_failed], zaI K q_t_keys 3 t_keys, zaI K q_t_key 12 t_key, zaD K q_t_sum 12 t_sum, zaD K q_t_least 12 t_least, zaD K q_t_greatest 12 t_greatest, zaI K q_t_count 12 t_count]) C 0 rfl rfl (c_Mo_bad l D K q_t q_t_text q_t_code q_t_site q_t_condition q_t_actions q_t_kind q_t_target q_t_first q_t_second q_t_failures q_t_met q_t_there q_t_on q_t_compared q_t_globals q_t_own q_t_records q_t_pile q_t_handed q_t_keys q_t_key q_t_count q_t_bins q_t_operator q_t_starts q_t_sum q_t_least q_t_greatest t_newSite t_newCondition t_newActions t_size t_place t_pos t_at t_operators t_recorded t_lost t_dropped t_firings t_time t_thread t_thrown t_failed (0 : Int32)) (cwV 1 C.2.2.2.2.1 (z_gV wl_Mo_107 wi_Mo_bad wv_Mo_bad wz_Mo wk_Mo_bad) rfl rfl rfl (by decide +kernel) ⟨Nat.le_of_ble_eq_true rfl, Nat.le_of_ble_eq_true rfl⟩) [0] [1, 2, 3, 4, 5, 6] [6, 0, 1, 2, 3, 4, 5] rfl rfl rfl rfl (by decide) (fun _ => rfl) rfl rfl rfl (Nat.le_of_ble_eq_true rfl) d_Mo_gathered_24 ⟨Nat.le_of_ble_eq_true rfl, Nat.le_of_ble_eq_true rfl⟩ (fun r7 u8 e9 => ?_)
    have hS10 := hS6 r7 u8 e9
    refine z_if_eq (tgt := 32) C d_Mo_gathered_27 (by decide) (fun c11 => ?_) (fun c11 => ?_)
    · have hS12 := hS10.1 c11
      refine z_aload_n C d_Mo_gathered_32 rfl 0 rfl ?_
      refine z_iload_n C d_Mo_gathered_33 rfl 1 rfl ?_
      refine z_iload_n C d_Mo_gathered_34 rfl 2 rfl ?_
      refine z_callVi (As := [.int x1, .int x2]) (b := q_t) (st := []) (wr := [zaD K q_t_sum 12 t_sum, zaD K q_t_least 12 t_least, zaD K q_t_greatest 12 t_greatest, zaI K q_t_count 12 t_count]) (wj := fun u => [zo 6 q_t [.ref q_t_text, .ref q_t_code, .ref q_t_site, .ref q_t_condition, .ref q_t_actions, .ref q_t_kind, .ref q_t_target, .ref q_t_first, .ref q_t_second, .ref q_t_failures, .ref q_t_met, .ref q_t_there, .ref q_t_on, .ref q_t_compared, .ref q_t_globals, .ref q_t_own, .ref q_t_records, .ref q_t_pile, .ref q_t_handed, .ref q_t_keys, .ref q_t_key, .ref q_t_count, .ref q_t_bins, .ref q_t_operator, .ref q_t_starts, .ref q_t_sum, .ref q_t_least, .ref q_t_greatest, .int t_newSite, .int t_newCondition, .int t_newActions, .int t_size, .int t_place, .int t_pos, .int t_at, .int t_operators, .int t_recorded, .int t_lost, .int t_dropped, .int t_firings, .int t_time, .int t_thread, .int u8, .int t_failed], zaI K q_t_keys 3 t_keys, zaI K q_t_key 12 t_key, zaD K q_t_sum 12 t_sum, zaD K q_t_least 12 t_least, zaD K q_t_greatest 12 t_greatest, zaI K q_t_count 12 t_count]) C 0 rfl rfl (c_Mo_find l D K q_t q_t_text q_t_code q_t_site q_t_condition q_t_actions q_t_kind q_t_target q_t_first q_t_second q_t_failures q_t_met q_t_there q_t_on q_t_compared q_t_globals q_t_own q_t_records q_t_pile q_t_handed q_t_keys q_t_key q_t_count q_t_bins q_t_operator q_t_starts q_t_sum q_t_least q_t_greatest t_newSite t_newCondition t_newActions t_size t_place t_pos t_at t_operators t_recorded t_lost t_dropped t_firings t_time t_thread u8 t_failed t_keys t_key x1 x2 hS12.1) (cwV 2 C.2.2.2.2.1 (z_gV wl_Mo_191 wi_Mo_find wv_Mo_find wz_Mo wk_Mo_find) rfl rfl rfl (by decide +kernel) ⟨Nat.le_of_ble_eq_true rfl, Nat.le_of_ble_eq_true rfl⟩) [0, 1, 2] [3, 4, 5, 6] [4, 5, 6, 0, 1, 2, 3] rfl rfl rfl rfl (by decide) (fun _ => rfl) rfl rfl rfl (Nat.le_of_ble_eq_true rfl) d_Mo_gathered_35 ⟨Nat.le_of_ble_eq_true rfl, Nat.le_of_ble_eq_true rfl⟩ (fun r13 u14 e15 => ?_)
      have hS16 := hS12.2 r13 e15
      refine z_istore (lv' := [(4, .int r13), (0, .ref q_t), (1, .int x1), (2, .int x2), (3, .int x3)]) C d_Mo_gathered_38 (by decide) rfl ?_
      refine z_iload C d_Mo_gathered_40 0 rfl ?_
      refine z_if_ge (tgt := 51) C d_Mo_gathered_42 (by decide) (fun c17 => ?_) (fun c17 => ?_)
      · have hS18 := hS16.1 c17
        refine z_iload_n C d_Mo_gathered_51 rfl 4 rfl ?_
        refine z_if_ne (tgt := 65) C d_Mo_gathered_52 (by decide) (fun c19 => ?_) (fun c19 => ?_)
        · have hS20 := hS18.1 c19
          refine z_iload_n C d_Mo_gathered_65 rfl 4 rfl ?_
          refine z_iconst (v := (1 : Int32)) C d_Mo_gathered_66 (by decide) ?_
          refine z_icmp_ne (tgt := 80) C d_Mo_gathered_67 (by decide) (fun c21 => ?_) (fun c21 => ?_)
          · have hS22 := hS20.1 c21
            refine z_iload_n C d_Mo_gathered_80 rfl 4 rfl ?_
            refine z_iconst (v := (2 : Int32)) C d_Mo_gathered_81 (by decide) ?_
            refine z_icmp_ne (tgt := 95) C d_Mo_gathered_82 (by decide) (fun c23 => ?_) (fun c23 => ?_)
            · have hS24 := hS22.1 c23
              refine z_aload_n C d_Mo_gathered_95 rfl 1 rfl ?_
              refine z_get C 0 rfl rfl in_Mo 25 (by decide) rfl wf_Mo_87 rfl d_Mo_gathered_96 ?_
              refine z_iload C d_Mo_gathered_99 0 rfl ?_
              refine z_dald C 3 1 rfl rfl hS24.1 d_Mo_gathered_101 ?_
              have hS25 := hS24.2
              refine z_aload_n C d_Mo_gathered_102 rfl 1 rfl ?_
              refine z_get C 0 rfl rfl in_Mo 21 (by decide) rfl wf_Mo_75 rfl d_Mo_gathered_103 ?_
              refine z_iload C d_Mo_gathered_106 0 rfl ?_
              refine z_iald C 6 0 rfl rfl hS25.1 d_Mo_gathered_108 ?_
              have hS26 := hS25.2
              refine z_i2d C d_Mo_gathered_109 ?_
              refine z_ddiv C d_Mo_gathered_110 hS26.1 ?_
              have hS27 := hS26.2
              exact z_dret C hr hlk u8 rfl hS27 d_Mo_gathered_111
            · have hS24 := hS22.2 c23
              refine z_aload_n C d_Mo_gathered_85 rfl 1 rfl ?_
              refine z_get C 0 rfl rfl in_Mo 27 (by decide) rfl wf_Mo_93 rfl d_Mo_gathered_86 ?_
              refine z_iload C d_Mo_gathered_89 0 rfl ?_
              refine z_dald C 5 1 rfl rfl hS24.1 d_Mo_gathered_91 ?_
              have hS28 := hS24.2
              refine z_goto (tgt := 111) C d_Mo_gathered_92 (by decide) ?_
              exact z_dret C hr hlk u8 rfl hS28 d_Mo_gathered_111
          · have hS22 := hS20.2 c21
            refine z_aload_n C d_Mo_gathered_70 rfl 1 rfl ?_
            refine z_get C 0 rfl rfl in_Mo 26 (by decide) rfl wf_Mo_90 rfl d_Mo_gathered_71 ?_
            refine z_iload C d_Mo_gathered_74 0 rfl ?_
            refine z_dald C 4 1 rfl rfl hS22.1 d_Mo_gathered_76 ?_
            have hS29 := hS22.2
            refine z_goto (tgt := 111) C d_Mo_gathered_77 (by decide) ?_
            exact z_dret C hr hlk u8 rfl hS29 d_Mo_gathered_111
        · have hS20 := hS18.2 c19
          refine z_aload_n C d_Mo_gathered_55 rfl 1 rfl ?_
          refine z_get C 0 rfl rfl in_Mo 25 (by decide) rfl wf_Mo_87 rfl d_Mo_gathered_56 ?_
          refine z_iload C d_Mo_gathered_59 0 rfl ?_
          refine z_dald C 3 1 rfl rfl hS20.1 d_Mo_gathered_61 ?_
          have hS30 := hS20.2
          refine z_goto (tgt := 111) C d_Mo_gathered_62 (by decide) ?_
          exact z_dret C hr hlk u8 rfl hS30 d_Mo_gathered_111
      · have hS18 := hS16.2 c17
        refine z_aload_n C d_Mo_gathered_45 rfl 1 rfl ?_
        refine z_iconst (v := (2 : Int32)) C d_Mo_gathered_46 (by decide) ?_
        refine z_callVd (As := [.int (2 : Int32)]) (b := q_t) (st := []) (wr := [zaI K q_t_keys 3 t_keys, zaI K q_t_key 12 t_key, zaD K q_t_sum 12 t_sum, zaD K q_t_least 12 t_least, zaD K q_t_greatest 12 t_greatest, zaI K q_t_count 12 t_count]) (wj := fun u => [zo 6 q_t [.ref q_t_text, .ref q_t_code, .ref q_t_site, .ref q_t_condition, .ref q_t_actions, .ref q_t_kind, .ref q_t_target, .ref q_t_first, .ref q_t_second, .ref q_t_failures, .ref q_t_met, .ref q_t_there, .ref q_t_on, .ref q_t_compared, .ref q_t_globals, .ref q_t_own, .ref q_t_records, .ref q_t_pile, .ref q_t_handed, .ref q_t_keys, .ref q_t_key, .ref q_t_count, .ref q_t_bins, .ref q_t_operator, .ref q_t_starts, .ref q_t_sum, .ref q_t_least, .ref q_t_greatest, .int t_newSite, .int t_newCondition, .int t_newActions, .int t_size, .int t_place, .int t_pos, .int t_at, .int t_operators, .int t_recorded, .int t_lost, .int t_dropped, .int t_firings, .int t_time, .int t_thread, .int u, .int t_failed], zaI K q_t_keys 3 t_keys, zaI K q_t_key 12 t_key, zaD K q_t_sum 12 t_sum, zaD K q_t_least 12 t_least, zaD K q_t_greatest 12 t_greatest, zaI K q_t_count 12 t_count]) C 0 rfl rfl (c_Mo_fail l D K q_t q_t_text q_t_code q_t_site q_t_condition q_t_actions q_t_kind q_t_target q_t_first q_t_second q_t_failures q_t_met q_t_there q_t_on q_t_compared q_t_globals q_t_own q_t_records q_t_pile q_t_handed q_t_keys q_t_key q_t_count q_t_bins q_t_operator q_t_starts q_t_sum q_t_least q_t_greatest t_newSite t_newCondition t_newActions t_size t_place t_pos t_at t_operators t_recorded t_lost t_dropped t_firings t_time t_thread u8 t_failed (2 : Int32)) (cwV 1 C.2.2.2.2.1 (z_gV wl_Mo_240 wi_Mo_fail wv_Mo_fail wz_Mo wk_Mo_fail) rfl rfl rfl (by decide +kernel) ⟨Nat.le_of_ble_eq_true rfl, Nat.le_of_ble_eq_true rfl⟩) [0] [1, 2, 3, 4, 5, 6] [6, 0, 1, 2, 3, 4, 5] rfl rfl rfl rfl (by decide) (fun _ => rfl) rfl rfl rfl (Nat.le_of_ble_eq_true rfl) d_Mo_gathered_47 ⟨Nat.le_of_ble_eq_true rfl, Nat.le_of_ble_eq_true rfl⟩ (fun r31 u32 e33 => ?_)
        have hS34 := hS18 r31 u32 e33
        exact z_dret C hr hlk u32 rfl hS34 d_Mo_gathered_50
    · have hS12 := hS10.2 c11
      refine z_dconst0 C d_Mo_gathered_30 ?_
      exact z_dret C hr hlk u8 rfl hS12 d_Mo_gathered_31
  · have hS6 := hS4.2 c5
    refine z_iload_n C d_Mo_gathered_10 rfl 3 rfl ?_
    refine z_iconst (v := (0 : Int32)) C d_Mo_gathered_11 (by decide) ?_
    refine z_iconst (v := (3 : Int32)) C d_Mo_gathered_12 (by decide) ?_
    refine z_callSi (As := [.int x3, .int (0 : Int32), .int (3 : Int32)]) (st := [.ref q_t]) (wr := [zo 6 q_t [.ref q_t_text, .ref q_t_code, .ref q_t_site, .ref q_t_condition, .ref q_t_actions, .ref q_t_kind, .ref q_t_target, .ref q_t_first, .ref q_t_second, .ref q_t_failures, .ref q_t_met, .ref q_t_there, .ref q_t_on, .ref q_t_compared, .ref q_t_globals, .ref q_t_own, .ref q_t_records, .ref q_t_pile, .ref q_t_handed, .ref q_t_keys, .ref q_t_key, .ref q_t_count, .ref q_t_bins, .ref q_t_operator, .ref q_t_starts, .ref q_t_sum, .ref q_t_least, .ref q_t_greatest, .int t_newSite, .int t_newCondition, .int t_newActions, .int t_size, .int t_place, .int t_pos, .int t_at, .int t_operators, .int t_recorded, .int t_lost, .int t_dropped, .int t_firings, .int t_time, .int t_thread, .int t_thrown, .int t_failed], zaI K q_t_keys 3 t_keys, zaI K q_t_key 12 t_key, zaD K q_t_sum 12 t_sum, zaD K q_t_least 12 t_least, zaD K q_t_greatest 12 t_greatest, zaI K q_t_count 12 t_count]) (wj := fun u => [zo 6 q_t [.ref q_t_text, .ref q_t_code, .ref q_t_site, .ref q_t_condition, .ref q_t_actions, .ref q_t_kind, .ref q_t_target, .ref q_t_first, .ref q_t_second, .ref q_t_failures, .ref q_t_met, .ref q_t_there, .ref q_t_on, .ref q_t_compared, .ref q_t_globals, .ref q_t_own, .ref q_t_records, .ref q_t_pile, .ref q_t_handed, .ref q_t_keys, .ref q_t_key, .ref q_t_count, .ref q_t_bins, .ref q_t_operator, .ref q_t_starts, .ref q_t_sum, .ref q_t_least, .ref q_t_greatest, .int t_newSite, .int t_newCondition, .int t_newActions, .int t_size, .int t_place, .int t_pos, .int t_at, .int t_operators, .int t_recorded, .int t_lost, .int t_dropped, .int t_firings, .int t_time, .int t_thread, .int t_thrown, .int t_failed], zaI K q_t_keys 3 t_keys, zaI K q_t_key 12 t_key, zaD K q_t_sum 12 t_sum, zaD K q_t_least 12 t_least, zaD K q_t_greatest 12 t_greatest, zaI K q_t_count 12 t_count]) C (c_Mo_in l D K x3 (0 : Int32) (3 : Int32)) (cwS 3 C.2.2.2.2.1 (z_gS wl_Mo_103 ws_Mo_in wz_Mo wk_Mo_in) rfl rfl rfl (by decide +kernel) ⟨Nat.le_of_ble_eq_true rfl, Nat.le_of_ble_eq_true rfl⟩) [] [0, 1, 2, 3, 4, 5, 6] [0, 1, 2, 3, 4, 5, 6] rfl rfl rfl rfl (by decide) (fun _ => rfl) rfl rfl rfl (Nat.le_of_ble_eq_true rfl) d_Mo_gathered_13 ⟨Nat.le_of_ble_eq_true rfl, Nat.le_of_ble_eq_true rfl⟩ (fun r35 u36 e37 => ?_)
    have hS38 := hS6 r35 e37
    refine z_if_eq (tgt := 23) C d_Mo_gathered_16 (by decide) (fun c39 => ?_) (fun c39 => ?_)
    · have hS40 := hS38.1 c39
      refine z_iconst (v := (0 : Int32)) C d_Mo_gathered_23 (by decide) ?_
      refine z_callVi (As := [.int (0 : Int32)]) (b := q_t) (st := []) (wr := [zaI K q_t_keys 3 t_keys, zaI K q_t_key 12 t_key, zaD K q_t_sum 12 t_sum, zaD K q_t_least 12 t_least, zaD K q_t_greatest 12 t_greatest, zaI K q_t_count 12 t_count]) (wj := fun u => [zo 6 q_t [.ref q_t_text, .ref q_t_code, .ref q_t_site, .ref q_t_condition, .ref q_t_actions, .ref q_t_kind, .ref q_t_target, .ref q_t_first, .ref q_t_second, .ref q_t_failures, .ref q_t_met, .ref q_t_there, .ref q_t_on, .ref q_t_compared, .ref q_t_globals, .ref q_t_own, .ref q_t_records, .ref q_t_pile, .ref q_t_handed, .ref q_t_keys, .ref q_t_key, .ref q_t_count, .ref q_t_bins, .ref q_t_operator, .ref q_t_starts, .ref q_t_sum, .ref q_t_least, .ref q_t_greatest, .int t_newSite, .int t_newCondition, .int t_newActions, .int t_size, .int t_place, .int t_pos, .int t_at, .int t_operators, .int t_recorded, .int t_lost, .int t_dropped, .int t_firings, .int t_time, .int t_thread, .int u, .int t_failed], zaI K q_t_keys 3 t_keys, zaI K q_t_key 12 t_key, zaD K q_t_sum 12 t_sum, zaD K q_t_least 12 t_least, zaD K q_t_greatest 12 t_greatest, zaI K q_t_count 12 t_count]) C 0 rfl rfl (c_Mo_bad l D K q_t q_t_text q_t_code q_t_site q_t_condition q_t_actions q_t_kind q_t_target q_t_first q_t_second q_t_failures q_t_met q_t_there q_t_on q_t_compared q_t_globals q_t_own q_t_records q_t_pile q_t_handed q_t_keys q_t_key q_t_count q_t_bins q_t_operator q_t_starts q_t_sum q_t_least q_t_greatest t_newSite t_newCondition t_newActions t_size t_place t_pos t_at t_operators t_recorded t_lost t_dropped t_firings t_time t_thread t_thrown t_failed (0 : Int32)) (cwV 1 C.2.2.2.2.1 (z_gV wl_Mo_107 wi_Mo_bad wv_Mo_bad wz_Mo wk_Mo_bad) rfl rfl rfl (by decide +kernel) ⟨Nat.le_of_ble_eq_true rfl, Nat.le_of_ble_eq_true rfl⟩) [0] [1, 2, 3, 4, 5, 6] [6, 0, 1, 2, 3, 4, 5] rfl rfl rfl rfl (by decide) (fun _ => rfl) rfl rfl rfl (Nat.le_of_ble_eq_true rfl) d_Mo_gathered_24 ⟨Nat.le_of_ble_eq_true rfl, Nat.le_of_ble_eq_true rfl⟩ (fun r41 u42 e43 => ?_)
      have hS44 := hS40 r41 u42 e43
      refine z_if_eq (tgt := 32) C d_Mo_gathered_27 (by decide) (fun c45 => ?_) (fun c45 => ?_)
      · have hS46 := hS44.1 c45
        refine z_aload_n C d_Mo_gathered_32 rfl 0 rfl ?_
        refine z_iload_n C d_Mo_gathered_33 rfl 1 rfl ?_
        refine z_iload_n C d_Mo_gathered_34 rfl 2 rfl ?_
        refine z_callVi (As := [.int x1, .int x2]) (b := q_t) (st := []) (wr := [zaD K q_t_sum 12 t_sum, zaD K q_t_least 12 t_least, zaD K q_t_greatest 12 t_greatest, zaI K q_t_count 12 t_count]) (wj := fun u => [zo 6 q_t [.ref q_t_text, .ref q_t_code, .ref q_t_site, .ref q_t_condition, .ref q_t_actions, .ref q_t_kind, .ref q_t_target, .ref q_t_first, .ref q_t_second, .ref q_t_failures, .ref q_t_met, .ref q_t_there, .ref q_t_on, .ref q_t_compared, .ref q_t_globals, .ref q_t_own, .ref q_t_records, .ref q_t_pile, .ref q_t_handed, .ref q_t_keys, .ref q_t_key, .ref q_t_count, .ref q_t_bins, .ref q_t_operator, .ref q_t_starts, .ref q_t_sum, .ref q_t_least, .ref q_t_greatest, .int t_newSite, .int t_newCondition, .int t_newActions, .int t_size, .int t_place, .int t_pos, .int t_at, .int t_operators, .int t_recorded, .int t_lost, .int t_dropped, .int t_firings, .int t_time, .int t_thread, .int u42, .int t_failed], zaI K q_t_keys 3 t_keys, zaI K q_t_key 12 t_key, zaD K q_t_sum 12 t_sum, zaD K q_t_least 12 t_least, zaD K q_t_greatest 12 t_greatest, zaI K q_t_count 12 t_count]) C 0 rfl rfl (c_Mo_find l D K q_t q_t_text q_t_code q_t_site q_t_condition q_t_actions q_t_kind q_t_target q_t_first q_t_second q_t_failures q_t_met q_t_there q_t_on q_t_compared q_t_globals q_t_own q_t_records q_t_pile q_t_handed q_t_keys q_t_key q_t_count q_t_bins q_t_operator q_t_starts q_t_sum q_t_least q_t_greatest t_newSite t_newCondition t_newActions t_size t_place t_pos t_at t_operators t_recorded t_lost t_dropped t_firings t_time t_thread u42 t_failed t_keys t_key x1 x2 hS46.1) (cwV 2 C.2.2.2.2.1 (z_gV wl_Mo_191 wi_Mo_find wv_Mo_find wz_Mo wk_Mo_find) rfl rfl rfl (by decide +kernel) ⟨Nat.le_of_ble_eq_true rfl, Nat.le_of_ble_eq_true rfl⟩) [0, 1, 2] [3, 4, 5, 6] [4, 5, 6, 0, 1, 2, 3] rfl rfl rfl rfl (by decide) (fun _ => rfl) rfl rfl rfl (Nat.le_of_ble_eq_true rfl) d_Mo_gathered_35 ⟨Nat.le_of_ble_eq_true rfl, Nat.le_of_ble_eq_true rfl⟩ (fun r47 u48 e49 => ?_)
        have hS50 := hS46.2 r47 e49
        refine z_istore (lv' := [(4, .int r47), (0, .ref q_t), (1, .int x1), (2, .int x2), (3, .int x3)]) C d_Mo_gathered_38 (by decide) rfl ?_
        refine z_iload C d_Mo_gathered_40 0 rfl ?_
        refine z_if_ge (tgt := 51) C d_Mo_gathered_42 (by decide) (fun c51 => ?_) (fun c51 => ?_)
        · have hS52 := hS50.1 c51
          refine z_iload_n C d_Mo_gathered_51 rfl 4 rfl ?_
          refine z_if_ne (tgt := 65) C d_Mo_gathered_52 (by decide) (fun c53 => ?_) (fun c53 => ?_)
          · have hS54 := hS52.1 c53
            refine z_iload_n C d_Mo_gathered_65 rfl 4 rfl ?_
            refine z_iconst (v := (1 : Int32)) C d_Mo_gathered_66 (by decide) ?_
            refine z_icmp_ne (tgt := 80) C d_Mo_gathered_67 (by decide) (fun c55 => ?_) (fun c55 => ?_)
            · have hS56 := hS54.1 c55
              refine z_iload_n C d_Mo_gathered_80 rfl 4 rfl ?_
              refine z_iconst (v := (2 : Int32)) C d_Mo_gathered_81 (by decide) ?_
              refine z_icmp_ne (tgt := 95) C d_Mo_gathered_82 (by decide) (fun c57 => ?_) (fun c57 => ?_)
              · have hS58 := hS56.1 c57
                refine z_aload_n C d_Mo_gathered_95 rfl 1 rfl ?_
                refine z_get C 0 rfl rfl in_Mo 25 (by decide) rfl wf_Mo_87 rfl d_Mo_gathered_96 ?_
                refine z_iload C d_Mo_gathered_99 0 rfl ?_
                refine z_dald C 3 1 rfl rfl hS58.1 d_Mo_gathered_101 ?_
                have hS59 := hS58.2
                refine z_aload_n C d_Mo_gathered_102 rfl 1 rfl ?_
                refine z_get C 0 rfl rfl in_Mo 21 (by decide) rfl wf_Mo_75 rfl d_Mo_gathered_103 ?_
                refine z_iload C d_Mo_gathered_106 0 rfl ?_
                refine z_iald C 6 0 rfl rfl hS59.1 d_Mo_gathered_108 ?_
                have hS60 := hS59.2
                refine z_i2d C d_Mo_gathered_109 ?_
                refine z_ddiv C d_Mo_gathered_110 hS60.1 ?_
                have hS61 := hS60.2
                exact z_dret C hr hlk u42 rfl hS61 d_Mo_gathered_111
              · have hS58 := hS56.2 c57
                refine z_aload_n C d_Mo_gathered_85 rfl 1 rfl ?_
                refine z_get C 0 rfl rfl in_Mo 27 (by decide) rfl wf_Mo_93 rfl d_Mo_gathered_86 ?_
                refine z_iload C d_Mo_gathered_89 0 rfl ?_
                refine z_dald C 5 1 rfl rfl hS58.1 d_Mo_gathered_91 ?_
                have hS62 := hS58.2
                refine z_goto (tgt := 111) C d_Mo_gathered_92 (by decide) ?_
                exact z_dret C hr hlk u42 rfl hS62 d_Mo_gathered_111
            · have hS56 := hS54.2 c55
              refine z_aload_n C d_Mo_gathered_70 rfl 1 rfl ?_
              refine z_get C 0 rfl rfl in_Mo 26 (by decide) rfl wf_Mo_90 rfl d_Mo_gathered_71 ?_
              refine z_iload C d_Mo_gathered_74 0 rfl ?_
              refine z_dald C 4 1 rfl rfl hS56.1 d_Mo_gathered_76 ?_
              have hS63 := hS56.2
              refine z_goto (tgt := 111) C d_Mo_gathered_77 (by decide) ?_
              exact z_dret C hr hlk u42 rfl hS63 d_Mo_gathered_111
          · have hS54 := hS52.2 c53
            refine z_aload_n C d_Mo_gathered_55 rfl 1 rfl ?_
            refine z_get C 0 rfl rfl in_Mo 25 (by decide) rfl wf_Mo_87 rfl d_Mo_gathered_56 ?_
            refine z_iload C d_Mo_gathered_59 0 rfl ?_
            refine z_dald C 3 1 rfl rfl hS54.1 d_Mo_gathered_61 ?_
            have hS64 := hS54.2
            refine z_goto (tgt := 111) C d_Mo_gathered_62 (by decide) ?_
            exact z_dret C hr hlk u42 rfl hS64 d_Mo_gathered_111
        · have hS52 := hS50.2 c51
          refine z_aload_n C d_Mo_gathered_45 rfl 1 rfl ?_
          refine z_iconst (v := (2 : Int32)) C d_Mo_gathered_46 (by decide) ?_
          refine z_callVd (As := [.int (2 : Int32)]) (b := q_t) (st := []) (wr := [zaI K q_t_keys 3 t_keys, zaI K q_t_key 12 t_key, zaD K q_t_sum 12 t_sum, zaD K q_t_least 12 t_least, zaD K q_t_greatest 12 t_greatest, zaI K q_t_count 12 t_count]) (wj := fun u => [zo 6 q_t [.ref q_t_text, .ref q_t_code, .ref q_t_site, .ref q_t_condition, .ref q_t_actions, .ref q_t_kind, .ref q_t_target, .ref q_t_first, .ref q_t_second, .ref q_t_failures, .ref q_t_met, .ref q_t_there, .ref q_t_on, .ref q_t_compared, .ref q_t_globals, .ref q_t_own, .ref q_t_records, .ref q_t_pile, .ref q_t_handed, .ref q_t_keys, .ref q_t_key, .ref q_t_count, .ref q_t_bins, .ref q_t_operator, .ref q_t_starts, .ref q_t_sum, .ref q_t_least, .ref q_t_greatest, .int t_newSite, .int t_newCondition, .int t_newActions, .int t_size, .int t_place, .int t_pos, .int t_at, .int t_operators, .int t_recorded, .int t_lost, .int t_dropped, .int t_firings, .int t_time, .int t_thread, .int u, .int t_failed], zaI K q_t_keys 3 t_keys, zaI K q_t_key 12 t_key, zaD K q_t_sum 12 t_sum, zaD K q_t_least 12 t_least, zaD K q_t_greatest 12 t_greatest, zaI K q_t_count 12 t_count]) C 0 rfl rfl (c_Mo_fail l D K q_t q_t_text q_t_code q_t_site q_t_condition q_t_actions q_t_kind q_t_target q_t_first q_t_second q_t_failures q_t_met q_t_there q_t_on q_t_compared q_t_globals q_t_own q_t_records q_t_pile q_t_handed q_t_keys q_t_key q_t_count q_t_bins q_t_operator q_t_starts q_t_sum q_t_least q_t_greatest t_newSite t_newCondition t_newActions t_size t_place t_pos t_at t_operators t_recorded t_lost t_dropped t_firings t_time t_thread u42 t_failed (2 : Int32)) (cwV 1 C.2.2.2.2.1 (z_gV wl_Mo_240 wi_Mo_fail wv_Mo_fail wz_Mo wk_Mo_fail) rfl rfl rfl (by decide +kernel) ⟨Nat.le_of_ble_eq_true rfl, Nat.le_of_ble_eq_true rfl⟩) [0] [1, 2, 3, 4, 5, 6] [6, 0, 1, 2, 3, 4, 5] rfl rfl rfl rfl (by decide) (fun _ => rfl) rfl rfl rfl (Nat.le_of_ble_eq_true rfl) d_Mo_gathered_47 ⟨Nat.le_of_ble_eq_true rfl, Nat.le_of_ble_eq_true rfl⟩ (fun r65 u66 e67 => ?_)
          have hS68 := hS52 r65 u66 e67
          exact z_dret C hr hlk u66 rfl hS68 d_Mo_gathered_50
      · have hS46 := hS44.2 c45
        refine z_dconst0 C d_Mo_gathered_30 ?_
        exact z_dret C hr hlk u42 rfl hS46 d_Mo_gathered_31
    · have hS40 := hS38.2 c39
      refine z_iconst (v := (1 : Int32)) C d_Mo_gathered_19 (by decide) ?_
      refine z_goto (tgt := 24) C d_Mo_gathered_20 (by decide) ?_
      refine z_callVi (As := [.int (1 : Int32)]) (b := q_t) (st := []) (wr := [zaI K q_t_keys 3 t_keys, zaI K q_t_key 12 t_key, zaD K q_t_sum 12 t_sum, zaD K q_t_least 12 t_least, zaD K q_t_greatest 12 t_greatest, zaI K q_t_count 12 t_count]) (wj := fun u => [zo 6 q_t [.ref q_t_text, .ref q_t_code, .ref q_t_site, .ref q_t_condition, .ref q_t_actions, .ref q_t_kind, .ref q_t_target, .ref q_t_first, .ref q_t_second, .ref q_t_failures, .ref q_t_met, .ref q_t_there, .ref q_t_on, .ref q_t_compared, .ref q_t_globals, .ref q_t_own, .ref q_t_records, .ref q_t_pile, .ref q_t_handed, .ref q_t_keys, .ref q_t_key, .ref q_t_count, .ref q_t_bins, .ref q_t_operator, .ref q_t_starts, .ref q_t_sum, .ref q_t_least, .ref q_t_greatest, .int t_newSite, .int t_newCondition, .int t_newActions, .int t_size, .int t_place, .int t_pos, .int t_at, .int t_operators, .int t_recorded, .int t_lost, .int t_dropped, .int t_firings, .int t_time, .int t_thread, .int u, .int t_failed], zaI K q_t_keys 3 t_keys, zaI K q_t_key 12 t_key, zaD K q_t_sum 12 t_sum, zaD K q_t_least 12 t_least, zaD K q_t_greatest 12 t_greatest, zaI K q_t_count 12 t_count]) C 0 rfl rfl (c_Mo_bad l D K q_t q_t_text q_t_code q_t_site q_t_condition q_t_actions q_t_kind q_t_target q_t_first q_t_second q_t_failures q_t_met q_t_there q_t_on q_t_compared q_t_globals q_t_own q_t_records q_t_pile q_t_handed q_t_keys q_t_key q_t_count q_t_bins q_t_operator q_t_starts q_t_sum q_t_least q_t_greatest t_newSite t_newCondition t_newActions t_size t_place t_pos t_at t_operators t_recorded t_lost t_dropped t_firings t_time t_thread t_thrown t_failed (1 : Int32)) (cwV 1 C.2.2.2.2.1 (z_gV wl_Mo_107 wi_Mo_bad wv_Mo_bad wz_Mo wk_Mo_bad) rfl rfl rfl (by decide +kernel) ⟨Nat.le_of_ble_eq_true rfl, Nat.le_of_ble_eq_true rfl⟩) [0] [1, 2, 3, 4, 5, 6] [6, 0, 1, 2, 3, 4, 5] rfl rfl rfl rfl (by decide) (fun _ => rfl) rfl rfl rfl (Nat.le_of_ble_eq_true rfl) d_Mo_gathered_24 ⟨Nat.le_of_ble_eq_true rfl, Nat.le_of_ble_eq_true rfl⟩ (fun r69 u70 e71 => ?_)
      have hS72 := hS40 r69 u70 e71
      refine z_if_eq (tgt := 32) C d_Mo_gathered_27 (by decide) (fun c73 => ?_) (fun c73 => ?_)
      · have hS74 := hS72.1 c73
        refine z_aload_n C d_Mo_gathered_32 rfl 0 rfl ?_
        refine z_iload_n C d_Mo_gathered_33 rfl 1 rfl ?_
        refine z_iload_n C d_Mo_gathered_34 rfl 2 rfl ?_
        refine z_callVi (As := [.int x1, .int x2]) (b := q_t) (st := []) (wr := [zaD K q_t_sum 12 t_sum, zaD K q_t_least 12 t_least, zaD K q_t_greatest 12 t_greatest, zaI K q_t_count 12 t_count]) (wj := fun u => [zo 6 q_t [.ref q_t_text, .ref q_t_code, .ref q_t_site, .ref q_t_condition, .ref q_t_actions, .ref q_t_kind, .ref q_t_target, .ref q_t_first, .ref q_t_second, .ref q_t_failures, .ref q_t_met, .ref q_t_there, .ref q_t_on, .ref q_t_compared, .ref q_t_globals, .ref q_t_own, .ref q_t_records, .ref q_t_pile, .ref q_t_handed, .ref q_t_keys, .ref q_t_key, .ref q_t_count, .ref q_t_bins, .ref q_t_operator, .ref q_t_starts, .ref q_t_sum, .ref q_t_least, .ref q_t_greatest, .int t_newSite, .int t_newCondition, .int t_newActions, .int t_size, .int t_place, .int t_pos, .int t_at, .int t_operators, .int t_recorded, .int t_lost, .int t_dropped, .int t_firings, .int t_time, .int t_thread, .int u70, .int t_failed], zaI K q_t_keys 3 t_keys, zaI K q_t_key 12 t_key, zaD K q_t_sum 12 t_sum, zaD K q_t_least 12 t_least, zaD K q_t_greatest 12 t_greatest, zaI K q_t_count 12 t_count]) C 0 rfl rfl (c_Mo_find l D K q_t q_t_text q_t_code q_t_site q_t_condition q_t_actions q_t_kind q_t_target q_t_first q_t_second q_t_failures q_t_met q_t_there q_t_on q_t_compared q_t_globals q_t_own q_t_records q_t_pile q_t_handed q_t_keys q_t_key q_t_count q_t_bins q_t_operator q_t_starts q_t_sum q_t_least q_t_greatest t_newSite t_newCondition t_newActions t_size t_place t_pos t_at t_operators t_recorded t_lost t_dropped t_firings t_time t_thread u70 t_failed t_keys t_key x1 x2 hS74.1) (cwV 2 C.2.2.2.2.1 (z_gV wl_Mo_191 wi_Mo_find wv_Mo_find wz_Mo wk_Mo_find) rfl rfl rfl (by decide +kernel) ⟨Nat.le_of_ble_eq_true rfl, Nat.le_of_ble_eq_true rfl⟩) [0, 1, 2] [3, 4, 5, 6] [4, 5, 6, 0, 1, 2, 3] rfl rfl rfl rfl (by decide) (fun _ => rfl) rfl rfl rfl (Nat.le_of_ble_eq_true rfl) d_Mo_gathered_35 ⟨Nat.le_of_ble_eq_true rfl, Nat.le_of_ble_eq_true rfl⟩ (fun r75 u76 e77 => ?_)
        have hS78 := hS74.2 r75 e77
        refine z_istore (lv' := [(4, .int r75), (0, .ref q_t), (1, .int x1), (2, .int x2), (3, .int x3)]) C d_Mo_gathered_38 (by decide) rfl ?_
        refine z_iload C d_Mo_gathered_40 0 rfl ?_
        refine z_if_ge (tgt := 51) C d_Mo_gathered_42 (by decide) (fun c79 => ?_) (fun c79 => ?_)
        · have hS80 := hS78.1 c79
          refine z_iload_n C d_Mo_gathered_51 rfl 4 rfl ?_
          refine z_if_ne (tgt := 65) C d_Mo_gathered_52 (by decide) (fun c81 => ?_) (fun c81 => ?_)
          · have hS82 := hS80.1 c81
            refine z_iload_n C d_Mo_gathered_65 rfl 4 rfl ?_
            refine z_iconst (v := (1 : Int32)) C d_Mo_gathered_66 (by decide) ?_
            refine z_icmp_ne (tgt := 80) C d_Mo_gathered_67 (by decide) (fun c83 => ?_) (fun c83 => ?_)
            · have hS84 := hS82.1 c83
              refine z_iload_n C d_Mo_gathered_80 rfl 4 rfl ?_
              refine z_iconst (v := (2 : Int32)) C d_Mo_gathered_81 (by decide) ?_
              refine z_icmp_ne (tgt := 95) C d_Mo_gathered_82 (by decide) (fun c85 => ?_) (fun c85 => ?_)
              · have hS86 := hS84.1 c85
                refine z_aload_n C d_Mo_gathered_95 rfl 1 rfl ?_
                refine z_get C 0 rfl rfl in_Mo 25 (by decide) rfl wf_Mo_87 rfl d_Mo_gathered_96 ?_
                refine z_iload C d_Mo_gathered_99 0 rfl ?_
                refine z_dald C 3 1 rfl rfl hS86.1 d_Mo_gathered_101 ?_
                have hS87 := hS86.2
                refine z_aload_n C d_Mo_gathered_102 rfl 1 rfl ?_
                refine z_get C 0 rfl rfl in_Mo 21 (by decide) rfl wf_Mo_75 rfl d_Mo_gathered_103 ?_
                refine z_iload C d_Mo_gathered_106 0 rfl ?_
                refine z_iald C 6 0 rfl rfl hS87.1 d_Mo_gathered_108 ?_
                have hS88 := hS87.2
                refine z_i2d C d_Mo_gathered_109 ?_
                refine z_ddiv C d_Mo_gathered_110 hS88.1 ?_
                have hS89 := hS88.2
                exact z_dret C hr hlk u70 rfl hS89 d_Mo_gathered_111
              · have hS86 := hS84.2 c85
                refine z_aload_n C d_Mo_gathered_85 rfl 1 rfl ?_
                refine z_get C 0 rfl rfl in_Mo 27 (by decide) rfl wf_Mo_93 rfl d_Mo_gathered_86 ?_
                refine z_iload C d_Mo_gathered_89 0 rfl ?_
                refine z_dald C 5 1 rfl rfl hS86.1 d_Mo_gathered_91 ?_
                have hS90 := hS86.2
                refine z_goto (tgt := 111) C d_Mo_gathered_92 (by decide) ?_
                exact z_dret C hr hlk u70 rfl hS90 d_Mo_gathered_111
            · have hS84 := hS82.2 c83
              refine z_aload_n C d_Mo_gathered_70 rfl 1 rfl ?_
              refine z_get C 0 rfl rfl in_Mo 26 (by decide) rfl wf_Mo_90 rfl d_Mo_gathered_71 ?_
              refine z_iload C d_Mo_gathered_74 0 rfl ?_
              refine z_dald C 4 1 rfl rfl hS84.1 d_Mo_gathered_76 ?_
              have hS91 := hS84.2
              refine z_goto (tgt := 111) C d_Mo_gathered_77 (by decide) ?_
              exact z_dret C hr hlk u70 rfl hS91 d_Mo_gathered_111
          · have hS82 := hS80.2 c81
            refine z_aload_n C d_Mo_gathered_55 rfl 1 rfl ?_
            refine z_get C 0 rfl rfl in_Mo 25 (by decide) rfl wf_Mo_87 rfl d_Mo_gathered_56 ?_
            refine z_iload C d_Mo_gathered_59 0 rfl ?_
            refine z_dald C 3 1 rfl rfl hS82.1 d_Mo_gathered_61 ?_
            have hS92 := hS82.2
            refine z_goto (tgt := 111) C d_Mo_gathered_62 (by decide) ?_
            exact z_dret C hr hlk u70 rfl hS92 d_Mo_gathered_111
        · have hS80 := hS78.2 c79
          refine z_aload_n C d_Mo_gathered_45 rfl 1 rfl ?_
          refine z_iconst (v := (2 : Int32)) C d_Mo_gathered_46 (by decide) ?_
          refine z_callVd (As := [.int (2 : Int32)]) (b := q_t) (st := []) (wr := [zaI K q_t_keys 3 t_keys, zaI K q_t_key 12 t_key, zaD K q_t_sum 12 t_sum, zaD K q_t_least 12 t_least, zaD K q_t_greatest 12 t_greatest, zaI K q_t_count 12 t_count]) (wj := fun u => [zo 6 q_t [.ref q_t_text, .ref q_t_code, .ref q_t_site, .ref q_t_condition, .ref q_t_actions, .ref q_t_kind, .ref q_t_target, .ref q_t_first, .ref q_t_second, .ref q_t_failures, .ref q_t_met, .ref q_t_there, .ref q_t_on, .ref q_t_compared, .ref q_t_globals, .ref q_t_own, .ref q_t_records, .ref q_t_pile, .ref q_t_handed, .ref q_t_keys, .ref q_t_key, .ref q_t_count, .ref q_t_bins, .ref q_t_operator, .ref q_t_starts, .ref q_t_sum, .ref q_t_least, .ref q_t_greatest, .int t_newSite, .int t_newCondition, .int t_newActions, .int t_size, .int t_place, .int t_pos, .int t_at, .int t_operators, .int t_recorded, .int t_lost, .int t_dropped, .int t_firings, .int t_time, .int t_thread, .int u, .int t_failed], zaI K q_t_keys 3 t_keys, zaI K q_t_key 12 t_key, zaD K q_t_sum 12 t_sum, zaD K q_t_least 12 t_least, zaD K q_t_greatest 12 t_greatest, zaI K q_t_count 12 t_count]) C 0 rfl rfl (c_Mo_fail l D K q_t q_t_text q_t_code q_t_site q_t_condition q_t_actions q_t_kind q_t_target q_t_first q_t_second q_t_failures q_t_met q_t_there q_t_on q_t_compared q_t_globals q_t_own q_t_records q_t_pile q_t_handed q_t_keys q_t_key q_t_count q_t_bins q_t_operator q_t_starts q_t_sum q_t_least q_t_greatest t_newSite t_newCondition t_newActions t_size t_place t_pos t_at t_operators t_recorded t_lost t_dropped t_firings t_time t_thread u70 t_failed (2 : Int32)) (cwV 1 C.2.2.2.2.1 (z_gV wl_Mo_240 wi_Mo_fail wv_Mo_fail wz_Mo wk_Mo_fail) rfl rfl rfl (by decide +kernel) ⟨Nat.le_of_ble_eq_true rfl, Nat.le_of_ble_eq_true rfl⟩) [0] [1, 2, 3, 4, 5, 6] [6, 0, 1, 2, 3, 4, 5] rfl rfl rfl rfl (by decide) (fun _ => rfl) rfl rfl rfl (Nat.le_of_ble_eq_true rfl) d_Mo_gathered_47 ⟨Nat.le_of_ble_eq_true rfl, Nat.le_of_ble_eq_true rfl⟩ (fun r93 u94 e95 => ?_)
          have hS96 := hS80 r93 u94 e95
          exact z_dret C hr hlk u94 rfl hS96 d_Mo_gathered_50
      · have hS74 := hS72.2 c73
        refine z_dconst0 C d_Mo_gathered_30 ?_
        exact z_dret C hr hlk u70 rfl hS74 d_Mo_gathered_31
def s_Mo_gathered (t_thrown : Int32) (t_keys : Nat → Int32) (t_key : Nat → Int32) (t_sum : Nat → UInt64) (t_least : Nat → UInt64) (t_greatest : Nat → UInt64) (t_count : Nat → Int32) (x1 : Int32) (x2 : Int32) (x3 : Int32) : UInt64 × Int32 := (zl1 (s_Mo_in x1 (0 : Int32) (2 : Int32)) fun r1 => (if r1 = 0 then (zl2 (s_Mo_bad t_thrown (0 : Int32)) (fun r7 u8 => (if r7 = 0 then (zl1 (s_Mo_find t_keys t_key x1 x2) fun r13 => (if 0 ≤ r13 then (if x3 = 0 then (t_sum r13.toNatClampNeg, u8) else (if x3 = (1 : Int32) then (t_least r13.toNatClampNeg, u8) else (if x3 = (2 : Int32) then (t_greatest r13.toNatClampNeg, u8) else (FP.ddiv (t_sum r13.toNatClampNeg) (FP.i2d (t_count r13.toNatClampNeg)), u8)))) else (zl2 (s_Mo_fail u8 (2 : Int32)) (fun r31 u32 => (r31, u32))))) else (FP.dconst0, u8)))) else (zl1 (s_Mo_in x3 (0 : Int32) (3 : Int32)) fun r35 => (if r35 = 0 then (zl2 (s_Mo_bad t_thrown (0 : Int32)) (fun r41 u42 => (if r41 = 0 then (zl1 (s_Mo_find t_keys t_key x1 x2) fun r47 => (if 0 ≤ r47 then (if x3 = 0 then (t_sum r47.toNatClampNeg, u42) else (if x3 = (1 : Int32) then (t_least r47.toNatClampNeg, u42) else (if x3 = (2 : Int32) then (t_greatest r47.toNatClampNeg, u42) else (FP.ddiv (t_sum r47.toNatClampNeg) (FP.i2d (t_count r47.toNatClampNeg)), u42)))) else (zl2 (s_Mo_fail u42 (2 : Int32)) (fun r65 u66 => (r65, u66))))) else (FP.dconst0, u42)))) else (zl2 (s_Mo_bad t_thrown (1 : Int32)) (fun r69 u70 => (if r69 = 0 then (zl1 (s_Mo_find t_keys t_key x1 x2) fun r75 => (if 0 ≤ r75 then (if x3 = 0 then (t_sum r75.toNatClampNeg, u70) else (if x3 = (1 : Int32) then (t_least r75.toNatClampNeg, u70) else (if x3 = (2 : Int32) then (t_greatest r75.toNatClampNeg, u70) else (FP.ddiv (t_sum r75.toNatClampNeg) (FP.i2d (t_count r75.toNatClampNeg)), u70)))) else (zl2 (s_Mo_fail u70 (2 : Int32)) (fun r93 u94 => (r93, u94))))) else (FP.dconst0, u70))))))))
def p_Mo_gathered (t_thrown : Int32) (t_keys : Nat → Int32) (t_key : Nat → Int32) (t_sum : Nat → UInt64) (t_least : Nat → UInt64) (t_greatest : Nat → UInt64) (t_count : Nat → Int32) (x1 : Int32) (x2 : Int32) (x3 : Int32) : Prop := WP_Mo_gathered t_thrown t_keys t_key t_sum t_least t_greatest t_count x1 x2 x3 (fun _ _ => True)
set_option maxRecDepth 100000 in
theorem v_Mo_gathered (t_thrown : Int32) (t_keys : Nat → Int32) (t_key : Nat → Int32) (t_sum : Nat → UInt64) (t_least : Nat → UInt64) (t_greatest : Nat → UInt64) (t_count : Nat → Int32) (x1 : Int32) (x2 : Int32) (x3 : Int32) (hp : p_Mo_gathered t_thrown t_keys t_key t_sum t_least t_greatest t_count x1 x2 x3) : WP_Mo_gathered t_thrown t_keys t_key t_sum t_least t_greatest t_count x1 x2 x3 (fun r u => s_Mo_gathered t_thrown t_keys t_key t_sum t_least t_greatest t_count x1 x2 x3 = (r, u)) := by
  unfold p_Mo_gathered WP_Mo_gathered at hp
  obtain ⟨tgt, f0⟩ : ∃ tgt, s_Mo_gathered t_thrown t_keys t_key t_sum t_least t_greatest t_count x1 x2 x3 = tgt := ⟨_, rfl⟩
  rw [f0]
  unfold s_Mo_gathered at f0
  unfold WP_Mo_gathered
  intro r1 e3
  have g1 := hp r1 e3
  have f1 := Eq.trans (Eq.symm (zl1_eq e3)) f0
  refine ⟨fun c5 => ?_, fun c5 => ?_⟩
  · have f2 := Eq.trans (Eq.symm (if_pos c5)) f1
    have g2 := g1.1 c5
    intro r7 u8 e9
    have g3 := g2 r7 u8 e9
    have f3 := Eq.trans (Eq.symm (zl2_eq e9)) f2
    refine ⟨fun c11 => ?_, fun c11 => ?_⟩
    · have f4 := Eq.trans (Eq.symm (if_pos c11)) f3
      have g4 := g3.1 c11
      refine ⟨g4.1, ?_⟩
      have g6 := g4.2
      intro r13 e15
      have g5 := g6 r13 e15
      have f5 := Eq.trans (Eq.symm (zl1_eq e15)) f4
      refine ⟨fun c17 => ?_, fun c17 => ?_⟩
      · have f7 := Eq.trans (Eq.symm (if_pos c17)) f5
        have g7 := g5.1 c17
        refine ⟨fun c19 => ?_, fun c19 => ?_⟩
        · have f8 := Eq.trans (Eq.symm (if_neg c19)) f7
          have g8 := g7.1 c19
          refine ⟨fun c21 => ?_, fun c21 => ?_⟩
          · have f9 := Eq.trans (Eq.symm (if_neg c21)) f8
            have g9 := g8.1 c21
            refine ⟨fun c23 => ?_, fun c23 => ?_⟩
            · have f10 := Eq.trans (Eq.symm (if_neg c23)) f9
              have g10 := g9.1 c23
              refine ⟨g10.1, ?_⟩
              have g11 := g10.2
              refine ⟨g11.1, ?_⟩
              have g12 := g11.2
              refine ⟨g12.1, ?_⟩
              have g13 := g12.2
              exact f10.symm
            · have f10 := Eq.trans (Eq.symm (if_pos c23)) f9
              have g10 := g9.2 c23
              refine ⟨g10.1, ?_⟩
              have g14 := g10.2
              exact f10.symm
          · have f9 := Eq.trans (Eq.symm (if_pos c21)) f8
            have g9 := g8.2 c21
            refine ⟨g9.1, ?_⟩
            have g15 := g9.2
            exact f9.symm
        · have f8 := Eq.trans (Eq.symm (if_pos c19)) f7
          have g8 := g7.2 c19
          refine ⟨g8.1, ?_⟩
          have g16 := g8.2
          exact f8.symm
      · have f7 := Eq.trans (Eq.symm (if_neg c17)) f5
        have g7 := g5.2 c17
        intro r31 u32 e33
        have g17 := g7 r31 u32 e33
        have f17 := Eq.trans (Eq.symm (zl2_eq e33)) f7
        exact f17.symm
    · have f4 := Eq.trans (Eq.symm (if_neg c11)) f3
      have g4 := g3.2 c11
      exact f4.symm
  · have f2 := Eq.trans (Eq.symm (if_neg c5)) f1
    have g2 := g1.2 c5
    intro r35 e37
    have g18 := g2 r35 e37
    have f18 := Eq.trans (Eq.symm (zl1_eq e37)) f2
    refine ⟨fun c39 => ?_, fun c39 => ?_⟩
    · have f19 := Eq.trans (Eq.symm (if_pos c39)) f18
      have g19 := g18.1 c39
      intro r41 u42 e43
      have g20 := g19 r41 u42 e43
      have f20 := Eq.trans (Eq.symm (zl2_eq e43)) f19
      refine ⟨fun c45 => ?_, fun c45 => ?_⟩
      · have f21 := Eq.trans (Eq.symm (if_pos c45)) f20
        have g21 := g20.1 c45
        refine ⟨g21.1, ?_⟩
        have g23 := g21.2
        intro r47 e49
        have g22 := g23 r47 e49
        have f22 := Eq.trans (Eq.symm (zl1_eq e49)) f21
        refine ⟨fun c51 => ?_, fun c51 => ?_⟩
        · have f24 := Eq.trans (Eq.symm (if_pos c51)) f22
          have g24 := g22.1 c51
          refine ⟨fun c53 => ?_, fun c53 => ?_⟩
          · have f25 := Eq.trans (Eq.symm (if_neg c53)) f24
            have g25 := g24.1 c53
            refine ⟨fun c55 => ?_, fun c55 => ?_⟩
            · have f26 := Eq.trans (Eq.symm (if_neg c55)) f25
              have g26 := g25.1 c55
              refine ⟨fun c57 => ?_, fun c57 => ?_⟩
              · have f27 := Eq.trans (Eq.symm (if_neg c57)) f26
                have g27 := g26.1 c57
                refine ⟨g27.1, ?_⟩
                have g28 := g27.2
                refine ⟨g28.1, ?_⟩
                have g29 := g28.2
                refine ⟨g29.1, ?_⟩
                have g30 := g29.2
                exact f27.symm
              · have f27 := Eq.trans (Eq.symm (if_pos c57)) f26
                have g27 := g26.2 c57
                refine ⟨g27.1, ?_⟩
                have g31 := g27.2
                exact f27.symm
            · have f26 := Eq.trans (Eq.symm (if_pos c55)) f25
              have g26 := g25.2 c55
              refine ⟨g26.1, ?_⟩
              have g32 := g26.2
              exact f26.symm
          · have f25 := Eq.trans (Eq.symm (if_pos c53)) f24
            have g25 := g24.2 c53
            refine ⟨g25.1, ?_⟩
            have g33 := g25.2
            exact f25.symm
        · have f24 := Eq.trans (Eq.symm (if_neg c51)) f22
          have g24 := g22.2 c51
          intro r65 u66 e67
          have g34 := g24 r65 u66 e67
          have f34 := Eq.trans (Eq.symm (zl2_eq e67)) f24
          exact f34.symm
      · have f21 := Eq.trans (Eq.symm (if_neg c45)) f20
        have g21 := g20.2 c45
        exact f21.symm
    · have f19 := Eq.trans (Eq.symm (if_neg c39)) f18
      have g19 := g18.2 c39
      intro r69 u70 e71
      have g35 := g19 r69 u70 e71
      have f35 := Eq.trans (Eq.symm (zl2_eq e71)) f19
      refine ⟨fun c73 => ?_, fun c73 => ?_⟩
      · have f36 := Eq.trans (Eq.symm (if_pos c73)) f35
        have g36 := g35.1 c73
        refine ⟨g36.1, ?_⟩
        have g38 := g36.2
        intro r75 e77
        have g37 := g38 r75 e77
        have f37 := Eq.trans (Eq.symm (zl1_eq e77)) f36
        refine ⟨fun c79 => ?_, fun c79 => ?_⟩
        · have f39 := Eq.trans (Eq.symm (if_pos c79)) f37
          have g39 := g37.1 c79
          refine ⟨fun c81 => ?_, fun c81 => ?_⟩
          · have f40 := Eq.trans (Eq.symm (if_neg c81)) f39
            have g40 := g39.1 c81
            refine ⟨fun c83 => ?_, fun c83 => ?_⟩
            · have f41 := Eq.trans (Eq.symm (if_neg c83)) f40
              have g41 := g40.1 c83
              refine ⟨fun c85 => ?_, fun c85 => ?_⟩
              · have f42 := Eq.trans (Eq.symm (if_neg c85)) f41
                have g42 := g41.1 c85
                refine ⟨g42.1, ?_⟩
                have g43 := g42.2
                refine ⟨g43.1, ?_⟩
                have g44 := g43.2
                refine ⟨g44.1, ?_⟩
                have g45 := g44.2
                exact f42.symm
              · have f42 := Eq.trans (Eq.symm (if_pos c85)) f41
                have g42 := g41.2 c85
                refine ⟨g42.1, ?_⟩
                have g46 := g42.2
                exact f42.symm
            · have f41 := Eq.trans (Eq.symm (if_pos c83)) f40
              have g41 := g40.2 c83
              refine ⟨g41.1, ?_⟩
              have g47 := g41.2
              exact f41.symm
          · have f40 := Eq.trans (Eq.symm (if_pos c81)) f39
            have g40 := g39.2 c81
            refine ⟨g40.1, ?_⟩
            have g48 := g40.2
            exact f40.symm
        · have f39 := Eq.trans (Eq.symm (if_neg c79)) f37
          have g39 := g37.2 c79
          intro r93 u94 e95
          have g49 := g39 r93 u94 e95
          have f49 := Eq.trans (Eq.symm (zl2_eq e95)) f39
          exact f49.symm
      · have f36 := Eq.trans (Eq.symm (if_neg c73)) f35
        have g36 := g35.2 c73
        exact f36.symm
theorem c_Mo_gathered (l : Launch) (D : va_G) (K : Nat → ClassId) (q_t : Nat) (q_t_text : Nat) (q_t_code : Nat) (q_t_site : Nat) (q_t_condition : Nat) (q_t_actions : Nat) (q_t_kind : Nat) (q_t_target : Nat) (q_t_first : Nat) (q_t_second : Nat) (q_t_failures : Nat) (q_t_met : Nat) (q_t_there : Nat) (q_t_on : Nat) (q_t_compared : Nat) (q_t_globals : Nat) (q_t_own : Nat) (q_t_records : Nat) (q_t_pile : Nat) (q_t_handed : Nat) (q_t_keys : Nat) (q_t_key : Nat) (q_t_count : Nat) (q_t_bins : Nat) (q_t_operator : Nat) (q_t_starts : Nat) (q_t_sum : Nat) (q_t_least : Nat) (q_t_greatest : Nat) (t_newSite : Int32) (t_newCondition : Int32) (t_newActions : Int32) (t_size : Int32) (t_place : Int32) (t_pos : Int32) (t_at : Int32) (t_operators : Int32) (t_recorded : Int32) (t_lost : Int32) (t_dropped : Int32) (t_firings : Int32) (t_time : Int32) (t_thread : Int32) (t_thrown : Int32) (t_failed : Int32) (t_keys : Nat → Int32) (t_key : Nat → Int32) (t_sum : Nat → UInt64) (t_least : Nat → UInt64) (t_greatest : Nat → UInt64) (t_count : Nat → Int32) (x1 : Int32) (x2 : Int32) (x3 : Int32) (hp : p_Mo_gathered t_thrown t_keys t_key t_sum t_least t_greatest t_count x1 x2 x3) : zCd l y_Mo_gathered wy_Mo_gathered rm_Mo_gathered D zcl (zT K) [.ref q_t, .int x1, .int x2, .int x3] (w_Mo_gathered K q_t q_t_text q_t_code q_t_site q_t_condition q_t_actions q_t_kind q_t_target q_t_first q_t_second q_t_failures q_t_met q_t_there q_t_on q_t_compared q_t_globals q_t_own q_t_records q_t_pile q_t_handed q_t_keys q_t_key q_t_count q_t_bins q_t_operator q_t_starts q_t_sum q_t_least q_t_greatest t_newSite t_newCondition t_newActions t_size t_place t_pos t_at t_operators t_recorded t_lost t_dropped t_firings t_time t_thread t_failed t_keys t_key t_sum t_least t_greatest t_count t_thrown) (w_Mo_gathered K q_t q_t_text q_t_code q_t_site q_t_condition q_t_actions q_t_kind q_t_target q_t_first q_t_second q_t_failures q_t_met q_t_there q_t_on q_t_compared q_t_globals q_t_own q_t_records q_t_pile q_t_handed q_t_keys q_t_key q_t_count q_t_bins q_t_operator q_t_starts q_t_sum q_t_least q_t_greatest t_newSite t_newCondition t_newActions t_size t_place t_pos t_at t_operators t_recorded t_lost t_dropped t_firings t_time t_thread t_failed t_keys t_key t_sum t_least t_greatest t_count) (fun r u => s_Mo_gathered t_thrown t_keys t_key t_sum t_least t_greatest t_count x1 x2 x3 = (r, u)) 0 0 := cw_Mo_gathered l D K q_t q_t_text q_t_code q_t_site q_t_condition q_t_actions q_t_kind q_t_target q_t_first q_t_second q_t_failures q_t_met q_t_there q_t_on q_t_compared q_t_globals q_t_own q_t_records q_t_pile q_t_handed q_t_keys q_t_key q_t_count q_t_bins q_t_operator q_t_starts q_t_sum q_t_least q_t_greatest t_newSite t_newCondition t_newActions t_size t_place t_pos t_at t_operators t_recorded t_lost t_dropped t_firings t_time t_thread t_thrown t_failed t_keys t_key t_sum t_least t_greatest t_count x1 x2 x3 (v_Mo_gathered t_thrown t_keys t_key t_sum t_least t_greatest t_count x1 x2 x3 hp)
-- RuleTracerModel.many(III)I: reads ['t.thrown', 't.keys', 't.key', 't.bins', 't.count'], changes ['t.thrown']
abbrev w_Mo_many (K : Nat → ClassId) (q_t : Nat) (q_t_text : Nat) (q_t_code : Nat) (q_t_site : Nat) (q_t_condition : Nat) (q_t_actions : Nat) (q_t_kind : Nat) (q_t_target : Nat) (q_t_first : Nat) (q_t_second : Nat) (q_t_failures : Nat) (q_t_met : Nat) (q_t_there : Nat) (q_t_on : Nat) (q_t_compared : Nat) (q_t_globals : Nat) (q_t_own : Nat) (q_t_records : Nat) (q_t_pile : Nat) (q_t_handed : Nat) (q_t_keys : Nat) (q_t_key : Nat) (q_t_count : Nat) (q_t_bins : Nat) (q_t_operator : Nat) (q_t_starts : Nat) (q_t_sum : Nat) (q_t_least : Nat) (q_t_greatest : Nat) (t_newSite : Int32) (t_newCondition : Int32) (t_newActions : Int32) (t_size : Int32) (t_place : Int32) (t_pos : Int32) (t_at : Int32) (t_operators : Int32) (t_recorded : Int32) (t_lost : Int32) (t_dropped : Int32) (t_firings : Int32) (t_time : Int32) (t_thread : Int32) (t_failed : Int32) (t_keys : Nat → Int32) (t_key : Nat → Int32) (t_bins : Nat → Int32) (t_count : Nat → Int32) (u : Int32) : va_W := [zo 6 q_t [.ref q_t_text, .ref q_t_code, .ref q_t_site, .ref q_t_condition, .ref q_t_actions, .ref q_t_kind, .ref q_t_target, .ref q_t_first, .ref q_t_second, .ref q_t_failures, .ref q_t_met, .ref q_t_there, .ref q_t_on, .ref q_t_compared, .ref q_t_globals, .ref q_t_own, .ref q_t_records, .ref q_t_pile, .ref q_t_handed, .ref q_t_keys, .ref q_t_key, .ref q_t_count, .ref q_t_bins, .ref q_t_operator, .ref q_t_starts, .ref q_t_sum, .ref q_t_least, .ref q_t_greatest, .int t_newSite, .int t_newCondition, .int t_newActions, .int t_size, .int t_place, .int t_pos, .int t_at, .int t_operators, .int t_recorded, .int t_lost, .int t_dropped, .int t_firings, .int t_time, .int t_thread, .int u, .int t_failed], zaI K q_t_keys 3 t_keys, zaI K q_t_key 12 t_key, zaI K q_t_bins 96 t_bins, zaI K q_t_count 12 t_count]
abbrev rm_Mo_many : Room := { frames := 1, cells := 0, slots := 0, locals := 23 }
abbrev wy_Mo_many : List Cond := .code y_Mo_many b_Mo_many 5 (some .int) :: zWT
def WP_Mo_many (t_thrown : Int32) (t_keys : Nat → Int32) (t_key : Nat → Int32) (t_bins : Nat → Int32) (t_count : Nat → Int32) (x1 : Int32) (x2 : Int32) (x3 : Int32) (Q : Int32 → Int32 → Prop) : Prop := (∀ (r1 : Int32), s_Mo_in x1 (0 : Int32) (2 : Int32) = r1 → ((r1 = 0) → (∀ (r7 : Int32) (u8 : Int32), s_Mo_bad t_thrown (0 : Int32) = (r7, u8) → ((r7 = 0) → p_Mo_find t_keys t_key x1 x2 ∧ (∀ (r13 : Int32), s_Mo_find t_keys t_key x1 x2 = r13 → ((0 ≤ r13) → (((8 : Int32) ≤ x3) → vp_in r13 12 ∧ Q (t_count r13.toNatClampNeg) u8) ∧ ((¬ (8 : Int32) ≤ x3) → vp_in ((r13 * (8 : Int32)) + x3) 96 ∧ Q (t_bins ((r13 * (8 : Int32)) + x3).toNatClampNeg) u8)) ∧ ((¬ 0 ≤ r13) → Q (0 : Int32) (2 : Int32)))) ∧ ((¬ r7 = 0) → Q (0 : Int32) u8))) ∧ ((¬ r1 = 0) → (∀ (r25 : Int32), s_Mo_in x3 (0 : Int32) (8 : Int32) = r25 → ((r25 = 0) → (∀ (r31 : Int32) (u32 : Int32), s_Mo_bad t_thrown (0 : Int32) = (r31, u32) → ((r31 = 0) → p_Mo_find t_keys t_key x1 x2 ∧ (∀ (r37 : Int32), s_Mo_find t_keys t_key x1 x2 = r37 → ((0 ≤ r37) → (((8 : Int32) ≤ x3) → vp_in r37 12 ∧ Q (t_count r37.toNatClampNeg) u32) ∧ ((¬ (8 : Int32) ≤ x3) → vp_in ((r37 * (8 : Int32)) + x3) 96 ∧ Q (t_bins ((r37 * (8 : Int32)) + x3).toNatClampNeg) u32)) ∧ ((¬ 0 ≤ r37) → Q (0 : Int32) (2 : Int32)))) ∧ ((¬ r31 = 0) → Q (0 : Int32) u32))) ∧ ((¬ r25 = 0) → (∀ (r49 : Int32) (u50 : Int32), s_Mo_bad t_thrown (1 : Int32) = (r49, u50) → ((r49 = 0) → p_Mo_find t_keys t_key x1 x2 ∧ (∀ (r55 : Int32), s_Mo_find t_keys t_key x1 x2 = r55 → ((0 ≤ r55) → (((8 : Int32) ≤ x3) → vp_in r55 12 ∧ Q (t_count r55.toNatClampNeg) u50) ∧ ((¬ (8 : Int32) ≤ x3) → vp_in ((r55 * (8 : Int32)) + x3) 96 ∧ Q (t_bins ((r55 * (8 : Int32)) + x3).toNatClampNeg) u50)) ∧ ((¬ 0 ≤ r55) → Q (0 : Int32) (2 : Int32)))) ∧ ((¬ r49 = 0) → Q (0 : Int32) u50))))))
set_option maxHeartbeats 4000000 in
set_option maxRecDepth 100000 in
theorem cw_Mo_many (l : Launch) (D : va_G) (K : Nat → ClassId) (q_t : Nat) (q_t_text : Nat) (q_t_code : Nat) (q_t_site : Nat) (q_t_condition : Nat) (q_t_actions : Nat) (q_t_kind : Nat) (q_t_target : Nat) (q_t_first : Nat) (q_t_second : Nat) (q_t_failures : Nat) (q_t_met : Nat) (q_t_there : Nat) (q_t_on : Nat) (q_t_compared : Nat) (q_t_globals : Nat) (q_t_own : Nat) (q_t_records : Nat) (q_t_pile : Nat) (q_t_handed : Nat) (q_t_keys : Nat) (q_t_key : Nat) (q_t_count : Nat) (q_t_bins : Nat) (q_t_operator : Nat) (q_t_starts : Nat) (q_t_sum : Nat) (q_t_least : Nat) (q_t_greatest : Nat) (t_newSite : Int32) (t_newCondition : Int32) (t_newActions : Int32) (t_size : Int32) (t_place : Int32) (t_pos : Int32) (t_at : Int32) (t_operators : Int32) (t_recorded : Int32) (t_lost : Int32) (t_dropped : Int32) (t_firings : Int32) (t_time : Int32) (t_thread : Int32) (t_thrown : Int32) (t_failed : Int32) (t_keys : Nat → Int32) (t_key : Nat → Int32) (t_bins : Nat → Int32) (t_count : Nat → Int32) (x1 : Int32) (x2 : Int32) (x3 : Int32) {Q : Int32 → Int32 → Prop} (hS0 : WP_Mo_many t_thrown t_keys t_key t_bins t_count x1 x2 x3 Q) : zCi l y_Mo_many wy_Mo_many rm_Mo_many D zcl (zT K) [.ref q_t, .int x1, .int x2, .int x3] (w_Mo_many K q_t q_t_text q_t_code q_t_site q_t_condition q_t_actions q_t_kind q_t_target q_t_first q_t_second q_t_failures q_t_met q_t_there q_t_on q_t_compared q_t_globals q_t_own q_t_records q_t_pile q_t_handed q_t_keys q_t_key q_t_count q_t_bins q_t_operator q_t_starts q_t_sum q_t_least q_t_greatest t_newSite t_newCondition t_newActions t_size t_place t_pos t_at t_operators t_recorded t_lost t_dropped t_firings t_time t_thread t_failed t_keys t_key t_bins t_count t_thrown) (w_Mo_many K q_t q_t_text q_t_code q_t_site q_t_condition q_t_actions q_t_kind q_t_target q_t_first q_t_second q_t_failures q_t_met q_t_there q_t_on q_t_compared q_t_globals q_t_own q_t_records q_t_pile q_t_handed q_t_keys q_t_key q_t_count q_t_bins q_t_operator q_t_starts q_t_sum q_t_least q_t_greatest t_newSite t_newCondition t_newActions t_size t_place t_pos t_at t_operators t_recorded t_lost t_dropped t_firings t_time t_thread t_failed t_keys t_key t_bins t_count) Q 0 0 := by
  refine z_meti (cc := b_Mo_many) (maxL := 5) (ret := (some .int)) (by decide) rfl (Nat.le_of_ble_eq_true rfl) ?_
  intro p e s m args below meth c A C hr hlk hnm
  refine z_lpick (lv' := [(0, .ref q_t), (1, .int x1), (2, .int x2), (3, .int x3)]) [0, 1, 2, 3] rfl ?_
  refine z_weq (ws' := [zo 6 q_t [.ref q_t_text, .ref q_t_code, .ref q_t_site, .ref q_t_condition, .ref q_t_actions, .ref q_t_kind, .ref q_t_target, .ref q_t_first, .ref q_t_second, .ref q_t_failures, .ref q_t_met, .ref q_t_there, .ref q_t_on, .ref q_t_compared, .ref q_t_globals, .ref q_t_own, .ref q_t_records, .ref q_t_pile, .ref q_t_handed, .ref q_t_keys, .ref q_t_key, .ref q_t_count, .ref q_t_bins, .ref q_t_operator, .ref q_t_starts, .ref q_t_sum, .ref q_t_least, .ref q_t_greatest, .int t_newSite, .int t_newCondition, .int t_newActions, .int t_size, .int t_place, .int t_pos, .int t_at, .int t_operators, .int t_recorded, .int t_lost, .int t_dropped, .int t_firings, .int t_time, .int t_thread, .int t_thrown, .int t_failed], zaI K q_t_keys 3 t_keys, zaI K q_t_key 12 t_key, zaI K q_t_bins 96 t_bins, zaI K q_t_count 12 t_count]) rfl ?_
  refine z_aload_n C d_Mo_many_0 rfl 0 rfl ?_
  refine z_iload_n C d_Mo_many_1 rfl 1 rfl ?_
  refine z_iconst (v := (0 : Int32)) C d_Mo_many_2 (by decide) ?_
  refine z_iconst (v := (2 : Int32)) C d_Mo_many_3 (by decide) ?_
  refine z_callSi (As := [.int x1, .int (0 : Int32), .int (2 : Int32)]) (st := [.ref q_t]) (wr := [zo 6 q_t [.ref q_t_text, .ref q_t_code, .ref q_t_site, .ref q_t_condition, .ref q_t_actions, .ref q_t_kind, .ref q_t_target, .ref q_t_first, .ref q_t_second, .ref q_t_failures, .ref q_t_met, .ref q_t_there, .ref q_t_on, .ref q_t_compared, .ref q_t_globals, .ref q_t_own, .ref q_t_records, .ref q_t_pile, .ref q_t_handed, .ref q_t_keys, .ref q_t_key, .ref q_t_count, .ref q_t_bins, .ref q_t_operator, .ref q_t_starts, .ref q_t_sum, .ref q_t_least, .ref q_t_greatest, .int t_newSite, .int t_newCondition, .int t_newActions, .int t_size, .int t_place, .int t_pos, .int t_at, .int t_operators, .int t_recorded, .int t_lost, .int t_dropped, .int t_firings, .int t_time, .int t_thread, .int t_thrown, .int t_failed], zaI K q_t_keys 3 t_keys, zaI K q_t_key 12 t_key, zaI K q_t_bins 96 t_bins, zaI K q_t_count 12 t_count]) (wj := fun u => [zo 6 q_t [.ref q_t_text, .ref q_t_code, .ref q_t_site, .ref q_t_condition, .ref q_t_actions, .ref q_t_kind, .ref q_t_target, .ref q_t_first, .ref q_t_second, .ref q_t_failures, .ref q_t_met, .ref q_t_there, .ref q_t_on, .ref q_t_compared, .ref q_t_globals, .ref q_t_own, .ref q_t_records, .ref q_t_pile, .ref q_t_handed, .ref q_t_keys, .ref q_t_key, .ref q_t_count, .ref q_t_bins, .ref q_t_operator, .ref q_t_starts, .ref q_t_sum, .ref q_t_least, .ref q_t_greatest, .int t_newSite, .int t_newCondition, .int t_newActions, .int t_size, .int t_place, .int t_pos, .int t_at, .int t_operators, .int t_recorded, .int t_lost, .int t_dropped, .int t_firings, .int t_time, .int t_thread, .int t_thrown, .int t_failed], zaI K q_t_keys 3 t_keys, zaI K q_t_key 12 t_key, zaI K q_t_bins 96 t_bins, zaI K q_t_count 12 t_count]) C (c_Mo_in l D K x1 (0 : Int32) (2 : Int32)) (cwS 3 C.2.2.2.2.1 (z_gS wl_Mo_103 ws_Mo_in wz_Mo wk_Mo_in) rfl rfl rfl (by decide +kernel) ⟨Nat.le_of_ble_eq_true rfl, Nat.le_of_ble_eq_true rfl⟩) [] [0, 1, 2, 3, 4] [0, 1, 2, 3, 4] rfl rfl rfl rfl (by decide) (fun _ => rfl) rfl rfl rfl (Nat.le_of_ble_eq_true rfl) d_Mo_many_4 ⟨Nat.le_of_ble_eq_true rfl, Nat.le_of_ble_eq_true rfl⟩ (fun r1 u2 e3 => ?_)
  have hS4 := hS0 r1 e3
  refine z_if_eq (tgt := 24) C d_Mo_many_7 (by decide) (fun c5 => ?_) (fun c5 => ?_)
  · have hS6 := hS4.1 c5
    refine z_iconst (v := (0 : Int32)) C d_Mo_many_24 (by decide) ?_
    refine z_callVi (As := [.int (0 : Int32)]) (b := q_t) (st := []) (wr := [zaI K q_t_keys 3 t_keys, zaI K q_t_key 12 t_key, zaI K q_t_bins 96 t_bins, zaI K q_t_count 12 t_count]) (wj := fun u => [zo 6 q_t [.ref q_t_text, .ref q_t_code, .ref q_t_site, .ref q_t_condition, .ref q_t_actions, .ref q_t_kind, .ref q_t_target, .ref q_t_first, .ref q_t_second, .ref q_t_failures, .ref q_t_met, .ref q_t_there, .ref q_t_on, .ref q_t_compared, .ref q_t_globals, .ref q_t_own, .ref q_t_records, .ref q_t_pile, .ref q_t_handed, .ref q_t_keys, .ref q_t_key, .ref q_t_count, .ref q_t_bins, .ref q_t_operator, .ref q_t_starts, .ref q_t_sum, .ref q_t_least, .ref q_t_greatest, .int t_newSite, .int t_newCondition, .int t_newActions, .int t_size, .int t_place, .int t_pos, .int t_at, .int t_operators, .int t_recorded, .int t_lost, .int t_dropped, .int t_firings, .int t_time, .int t_thread, .int u, .int t_failed], zaI K q_t_keys 3 t_keys, zaI K q_t_key 12 t_key, zaI K q_t_bins 96 t_bins, zaI K q_t_count 12 t_count]) C 0 rfl rfl (c_Mo_bad l D K q_t q_t_text q_t_code q_t_site q_t_condition q_t_actions q_t_kind q_t_target q_t_first q_t_second q_t_failures q_t_met q_t_there q_t_on q_t_compared q_t_globals q_t_own q_t_records q_t_pile q_t_handed q_t_keys q_t_key q_t_count q_t_bins q_t_operator q_t_starts q_t_sum q_t_least q_t_greatest t_newSite t_newCondition t_newActions t_size t_place t_pos t_at t_operators t_recorded t_lost t_dropped t_firings t_time t_thread t_thrown t_failed (0 : Int32)) (cwV 1 C.2.2.2.2.1 (z_gV wl_Mo_107 wi_Mo_bad wv_Mo_bad wz_Mo wk_Mo_bad) rfl rfl rfl (by decide +kernel) ⟨Nat.le_of_ble_eq_true rfl, Nat.le_of_ble_eq_true rfl⟩) [0] [1, 2, 3, 4] [4, 0, 1, 2, 3] rfl rfl rfl rfl (by decide) (fun _ => rfl) rfl rfl rfl (Nat.le_of_ble_eq_true rfl) d_Mo_many_25 ⟨Nat.le_of_ble_eq_true rfl, Nat.le_of_ble_eq_true rfl⟩ (fun r7 u8 e9 => ?_)
    have hS10 := hS6 r7 u8 e9
    refine z_if_eq (tgt := 33) C d_Mo_many_28 (by decide) (fun c11 => ?_) (fun c11 => ?_)
    · have hS12 := hS10.1 c11
      refine z_aload_n C d_Mo_many_33 rfl 0 rfl ?_
      refine z_iload_n C d_Mo_many_34 rfl 1 rfl ?_
      refine z_iload_n C d_Mo_many_35 rfl 2 rfl ?_
      refine z_callVi (As := [.int x1, .int x2]) (b := q_t) (st := []) (wr := [zaI K q_t_bins 96 t_bins, zaI K q_t_count 12 t_count]) (wj := fun u => [zo 6 q_t [.ref q_t_text, .ref q_t_code, .ref q_t_site, .ref q_t_condition, .ref q_t_actions, .ref q_t_kind, .ref q_t_target, .ref q_t_first, .ref q_t_second, .ref q_t_failures, .ref q_t_met, .ref q_t_there, .ref q_t_on, .ref q_t_compared, .ref q_t_globals, .ref q_t_own, .ref q_t_records, .ref q_t_pile, .ref q_t_handed, .ref q_t_keys, .ref q_t_key, .ref q_t_count, .ref q_t_bins, .ref q_t_operator, .ref q_t_starts, .ref q_t_sum, .ref q_t_least, .ref q_t_greatest, .int t_newSite, .int t_newCondition, .int t_newActions, .int t_size, .int t_place, .int t_pos, .int t_at, .int t_operators, .int t_recorded, .int t_lost, .int t_dropped, .int t_firings, .int t_time, .int t_thread, .int u8, .int t_failed], zaI K q_t_keys 3 t_keys, zaI K q_t_key 12 t_key, zaI K q_t_bins 96 t_bins, zaI K q_t_count 12 t_count]) C 0 rfl rfl (c_Mo_find l D K q_t q_t_text q_t_code q_t_site q_t_condition q_t_actions q_t_kind q_t_target q_t_first q_t_second q_t_failures q_t_met q_t_there q_t_on q_t_compared q_t_globals q_t_own q_t_records q_t_pile q_t_handed q_t_keys q_t_key q_t_count q_t_bins q_t_operator q_t_starts q_t_sum q_t_least q_t_greatest t_newSite t_newCondition t_newActions t_size t_place t_pos t_at t_operators t_recorded t_lost t_dropped t_firings t_time t_thread u8 t_failed t_keys t_key x1 x2 hS12.1) (cwV 2 C.2.2.2.2.1 (z_gV wl_Mo_191 wi_Mo_find wv_Mo_find wz_Mo wk_Mo_find) rfl rfl rfl (by decide +kernel) ⟨Nat.le_of_ble_eq_true rfl, Nat.le_of_ble_eq_true rfl⟩) [0, 1, 2] [3, 4] [2, 3, 4, 0, 1] rfl rfl rfl rfl (by decide) (fun _ => rfl) rfl rfl rfl (Nat.le_of_ble_eq_true rfl) d_Mo_many_36 ⟨Nat.le_of_ble_eq_true rfl, Nat.le_of_ble_eq_true rfl⟩ (fun r13 u14 e15 => ?_)
      have hS16 := hS12.2 r13 e15
      refine z_istore (lv' := [(4, .int r13), (0, .ref q_t), (1, .int x1), (2, .int x2), (3, .int x3)]) C d_Mo_many_39 (by decide) rfl ?_
      refine z_iload C d_Mo_many_41 0 rfl ?_
      refine z_if_ge (tgt := 51) C d_Mo_many_43 (by decide) (fun c17 => ?_) (fun c17 => ?_)
      · have hS18 := hS16.1 c17
        refine z_iload C d_Mo_many_51 0 rfl ?_
        refine z_if_ge (tgt := 60) C d_Mo_many_53 (by decide) (fun c19 => ?_) (fun c19 => absurd c17 c19)
        refine z_iload_n C d_Mo_many_60 rfl 4 rfl ?_
        refine z_bipush (v := (8 : Int32)) C d_Mo_many_61 (by decide) ?_
        refine z_icmp_ge (tgt := 81) C d_Mo_many_63 (by decide) (fun c20 => ?_) (fun c20 => ?_)
        · have hS21 := hS18.1 c20
          refine z_aload_n C d_Mo_many_81 rfl 1 rfl ?_
          refine z_get C 0 rfl rfl in_Mo 21 (by decide) rfl wf_Mo_75 rfl d_Mo_many_82 ?_
          refine z_iload C d_Mo_many_85 0 rfl ?_
          refine z_iald C 4 0 rfl rfl hS21.1 d_Mo_many_87 ?_
          have hS22 := hS21.2
          exact z_iret C hr hlk u8 rfl hS22 d_Mo_many_88
        · have hS21 := hS18.2 c20
          refine z_aload_n C d_Mo_many_66 rfl 1 rfl ?_
          refine z_get C 0 rfl rfl in_Mo 22 (by decide) rfl wf_Mo_78 rfl d_Mo_many_67 ?_
          refine z_iload C d_Mo_many_70 0 rfl ?_
          refine z_bipush (v := (8 : Int32)) C d_Mo_many_72 (by decide) ?_
          refine z_imul C d_Mo_many_74 ?_
          refine z_iload_n C d_Mo_many_75 rfl 4 rfl ?_
          refine z_iadd C d_Mo_many_76 ?_
          refine z_iald C 3 0 rfl rfl hS21.1 d_Mo_many_77 ?_
          have hS23 := hS21.2
          refine z_goto (tgt := 88) C d_Mo_many_78 (by decide) ?_
          exact z_iret C hr hlk u8 rfl hS23 d_Mo_many_88
      · have hS18 := hS16.2 c17
        refine z_aload_n C d_Mo_many_46 rfl 1 rfl ?_
        refine z_iconst (v := (2 : Int32)) C d_Mo_many_47 (by decide) ?_
        refine z_put (ty := .int) (ws' := [zo 6 q_t [.ref q_t_text, .ref q_t_code, .ref q_t_site, .ref q_t_condition, .ref q_t_actions, .ref q_t_kind, .ref q_t_target, .ref q_t_first, .ref q_t_second, .ref q_t_failures, .ref q_t_met, .ref q_t_there, .ref q_t_on, .ref q_t_compared, .ref q_t_globals, .ref q_t_own, .ref q_t_records, .ref q_t_pile, .ref q_t_handed, .ref q_t_keys, .ref q_t_key, .ref q_t_count, .ref q_t_bins, .ref q_t_operator, .ref q_t_starts, .ref q_t_sum, .ref q_t_least, .ref q_t_greatest, .int t_newSite, .int t_newCondition, .int t_newActions, .int t_size, .int t_place, .int t_pos, .int t_at, .int t_operators, .int t_recorded, .int t_lost, .int t_dropped, .int t_firings, .int t_time, .int t_thread, .int (2 : Int32), .int t_failed], zaI K q_t_keys 3 t_keys, zaI K q_t_key 12 t_key, zaI K q_t_bins 96 t_bins, zaI K q_t_count 12 t_count]) C ty_Mo to_Mo nm_Mo 0 rfl rfl in_Mo 42 (by decide) rfl wf_Mo_100 rfl rfl rfl rfl (Nat.le_of_ble_eq_true rfl) rfl d_Mo_many_48 ?_
        refine z_iload C d_Mo_many_51 0 rfl ?_
        refine z_if_ge (tgt := 60) C d_Mo_many_53 (by decide) (fun c24 => absurd c24 c17) (fun c24 => ?_)
        refine z_iconst (v := (0 : Int32)) C d_Mo_many_56 (by decide) ?_
        refine z_goto (tgt := 88) C d_Mo_many_57 (by decide) ?_
        exact z_iret C hr hlk (2 : Int32) rfl hS18 d_Mo_many_88
    · have hS12 := hS10.2 c11
      refine z_iconst (v := (0 : Int32)) C d_Mo_many_31 (by decide) ?_
      exact z_iret C hr hlk u8 rfl hS12 d_Mo_many_32
  · have hS6 := hS4.2 c5
    refine z_iload_n C d_Mo_many_10 rfl 3 rfl ?_
    refine z_iconst (v := (0 : Int32)) C d_Mo_many_11 (by decide) ?_
    refine z_bipush (v := (8 : Int32)) C d_Mo_many_12 (by decide) ?_
    refine z_callSi (As := [.int x3, .int (0 : Int32), .int (8 : Int32)]) (st := [.ref q_t]) (wr := [zo 6 q_t [.ref q_t_text, .ref q_t_code, .ref q_t_site, .ref q_t_condition, .ref q_t_actions, .ref q_t_kind, .ref q_t_target, .ref q_t_first, .ref q_t_second, .ref q_t_failures, .ref q_t_met, .ref q_t_there, .ref q_t_on, .ref q_t_compared, .ref q_t_globals, .ref q_t_own, .ref q_t_records, .ref q_t_pile, .ref q_t_handed, .ref q_t_keys, .ref q_t_key, .ref q_t_count, .ref q_t_bins, .ref q_t_operator, .ref q_t_starts, .ref q_t_sum, .ref q_t_least, .ref q_t_greatest, .int t_newSite, .int t_newCondition, .int t_newActions, .int t_size, .int t_place, .int t_pos, .int t_at, .int t_operators, .int t_recorded, .int t_lost, .int t_dropped, .int t_firings, .int t_time, .int t_thread, .int t_thrown, .int t_failed], zaI K q_t_keys 3 t_keys, zaI K q_t_key 12 t_key, zaI K q_t_bins 96 t_bins, zaI K q_t_count 12 t_count]) (wj := fun u => [zo 6 q_t [.ref q_t_text, .ref q_t_code, .ref q_t_site, .ref q_t_condition, .ref q_t_actions, .ref q_t_kind, .ref q_t_target, .ref q_t_first, .ref q_t_second, .ref q_t_failures, .ref q_t_met, .ref q_t_there, .ref q_t_on, .ref q_t_compared, .ref q_t_globals, .ref q_t_own, .ref q_t_records, .ref q_t_pile, .ref q_t_handed, .ref q_t_keys, .ref q_t_key, .ref q_t_count, .ref q_t_bins, .ref q_t_operator, .ref q_t_starts, .ref q_t_sum, .ref q_t_least, .ref q_t_greatest, .int t_newSite, .int t_newCondition, .int t_newActions, .int t_size, .int t_place, .int t_pos, .int t_at, .int t_operators, .int t_recorded, .int t_lost, .int t_dropped, .int t_firings, .int t_time, .int t_thread, .int t_thrown, .int t_failed], zaI K q_t_keys 3 t_keys, zaI K q_t_key 12 t_key, zaI K q_t_bins 96 t_bins, zaI K q_t_count 12 t_count]) C (c_Mo_in l D K x3 (0 : Int32) (8 : Int32)) (cwS 3 C.2.2.2.2.1 (z_gS wl_Mo_103 ws_Mo_in wz_Mo wk_Mo_in) rfl rfl rfl (by decide +kernel) ⟨Nat.le_of_ble_eq_true rfl, Nat.le_of_ble_eq_true rfl⟩) [] [0, 1, 2, 3, 4] [0, 1, 2, 3, 4] rfl rfl rfl rfl (by decide) (fun _ => rfl) rfl rfl rfl (Nat.le_of_ble_eq_true rfl) d_Mo_many_14 ⟨Nat.le_of_ble_eq_true rfl, Nat.le_of_ble_eq_true rfl⟩ (fun r25 u26 e27 => ?_)
    have hS28 := hS6 r25 e27
    refine z_if_eq (tgt := 24) C d_Mo_many_17 (by decide) (fun c29 => ?_) (fun c29 => ?_)
    · have hS30 := hS28.1 c29
      refine z_iconst (v := (0 : Int32)) C d_Mo_many_24 (by decide) ?_
      refine z_callVi (As := [.int (0 : Int32)]) (b := q_t) (st := []) (wr := [zaI K q_t_keys 3 t_keys, zaI K q_t_key 12 t_key, zaI K q_t_bins 96 t_bins, zaI K q_t_count 12 t_count]) (wj := fun u => [zo 6 q_t [.ref q_t_text, .ref q_t_code, .ref q_t_site, .ref q_t_condition, .ref q_t_actions, .ref q_t_kind, .ref q_t_target, .ref q_t_first, .ref q_t_second, .ref q_t_failures, .ref q_t_met, .ref q_t_there, .ref q_t_on, .ref q_t_compared, .ref q_t_globals, .ref q_t_own, .ref q_t_records, .ref q_t_pile, .ref q_t_handed, .ref q_t_keys, .ref q_t_key, .ref q_t_count, .ref q_t_bins, .ref q_t_operator, .ref q_t_starts, .ref q_t_sum, .ref q_t_least, .ref q_t_greatest, .int t_newSite, .int t_newCondition, .int t_newActions, .int t_size, .int t_place, .int t_pos, .int t_at, .int t_operators, .int t_recorded, .int t_lost, .int t_dropped, .int t_firings, .int t_time, .int t_thread, .int u, .int t_failed], zaI K q_t_keys 3 t_keys, zaI K q_t_key 12 t_key, zaI K q_t_bins 96 t_bins, zaI K q_t_count 12 t_count]) C 0 rfl rfl (c_Mo_bad l D K q_t q_t_text q_t_code q_t_site q_t_condition q_t_actions q_t_kind q_t_target q_t_first q_t_second q_t_failures q_t_met q_t_there q_t_on q_t_compared q_t_globals q_t_own q_t_records q_t_pile q_t_handed q_t_keys q_t_key q_t_count q_t_bins q_t_operator q_t_starts q_t_sum q_t_least q_t_greatest t_newSite t_newCondition t_newActions t_size t_place t_pos t_at t_operators t_recorded t_lost t_dropped t_firings t_time t_thread t_thrown t_failed (0 : Int32)) (cwV 1 C.2.2.2.2.1 (z_gV wl_Mo_107 wi_Mo_bad wv_Mo_bad wz_Mo wk_Mo_bad) rfl rfl rfl (by decide +kernel) ⟨Nat.le_of_ble_eq_true rfl, Nat.le_of_ble_eq_true rfl⟩) [0] [1, 2, 3, 4] [4, 0, 1, 2, 3] rfl rfl rfl rfl (by decide) (fun _ => rfl) rfl rfl rfl (Nat.le_of_ble_eq_true rfl) d_Mo_many_25 ⟨Nat.le_of_ble_eq_true rfl, Nat.le_of_ble_eq_true rfl⟩ (fun r31 u32 e33 => ?_)
      have hS34 := hS30 r31 u32 e33
      refine z_if_eq (tgt := 33) C d_Mo_many_28 (by decide) (fun c35 => ?_) (fun c35 => ?_)
      · have hS36 := hS34.1 c35
        refine z_aload_n C d_Mo_many_33 rfl 0 rfl ?_
        refine z_iload_n C d_Mo_many_34 rfl 1 rfl ?_
        refine z_iload_n C d_Mo_many_35 rfl 2 rfl ?_
        refine z_callVi (As := [.int x1, .int x2]) (b := q_t) (st := []) (wr := [zaI K q_t_bins 96 t_bins, zaI K q_t_count 12 t_count]) (wj := fun u => [zo 6 q_t [.ref q_t_text, .ref q_t_code, .ref q_t_site, .ref q_t_condition, .ref q_t_actions, .ref q_t_kind, .ref q_t_target, .ref q_t_first, .ref q_t_second, .ref q_t_failures, .ref q_t_met, .ref q_t_there, .ref q_t_on, .ref q_t_compared, .ref q_t_globals, .ref q_t_own, .ref q_t_records, .ref q_t_pile, .ref q_t_handed, .ref q_t_keys, .ref q_t_key, .ref q_t_count, .ref q_t_bins, .ref q_t_operator, .ref q_t_starts, .ref q_t_sum, .ref q_t_least, .ref q_t_greatest, .int t_newSite, .int t_newCondition, .int t_newActions, .int t_size, .int t_place, .int t_pos, .int t_at, .int t_operators, .int t_recorded, .int t_lost, .int t_dropped, .int t_firings, .int t_time, .int t_thread, .int u32, .int t_failed], zaI K q_t_keys 3 t_keys, zaI K q_t_key 12 t_key, zaI K q_t_bins 96 t_bins, zaI K q_t_count 12 t_count]) C 0 rfl rfl (c_Mo_find l D K q_t q_t_text q_t_code q_t_site q_t_condition q_t_actions q_t_kind q_t_target q_t_first q_t_second q_t_failures q_t_met q_t_there q_t_on q_t_compared q_t_globals q_t_own q_t_records q_t_pile q_t_handed q_t_keys q_t_key q_t_count q_t_bins q_t_operator q_t_starts q_t_sum q_t_least q_t_greatest t_newSite t_newCondition t_newActions t_size t_place t_pos t_at t_operators t_recorded t_lost t_dropped t_firings t_time t_thread u32 t_failed t_keys t_key x1 x2 hS36.1) (cwV 2 C.2.2.2.2.1 (z_gV wl_Mo_191 wi_Mo_find wv_Mo_find wz_Mo wk_Mo_find) rfl rfl rfl (by decide +kernel) ⟨Nat.le_of_ble_eq_true rfl, Nat.le_of_ble_eq_true rfl⟩) [0, 1, 2] [3, 4] [2, 3, 4, 0, 1] rfl rfl rfl rfl (by decide) (fun _ => rfl) rfl rfl rfl (Nat.le_of_ble_eq_true rfl) d_Mo_many_36 ⟨Nat.le_of_ble_eq_true rfl, Nat.le_of_ble_eq_true rfl⟩ (fun r37 u38 e39 => ?_)
        have hS40 := hS36.2 r37 e39
        refine z_istore (lv' := [(4, .int r37), (0, .ref q_t), (1, .int x1), (2, .int x2), (3, .int x3)]) C d_Mo_many_39 (by decide) rfl ?_
        refine z_iload C d_Mo_many_41 0 rfl ?_
        refine z_if_ge (tgt := 51) C d_Mo_many_43 (by decide) (fun c41 => ?_) (fun c41 => ?_)
        · have hS42 := hS40.1 c41
          refine z_iload C d_Mo_many_51 0 rfl ?_
          refine z_if_ge (tgt := 60) C d_Mo_many_53 (by decide) (fun c43 => ?_) (fun c43 => absurd c41 c43)
          refine z_iload_n C d_Mo_many_60 rfl 4 rfl ?_
          refine z_bipush (v := (8 : Int32)) C d_Mo_many_61 (by decide) ?_
          refine z_icmp_ge (tgt := 81) C d_Mo_many_63 (by decide) (fun c44 => ?_) (fun c44 => ?_)
          · have hS45 := hS42.1 c44
            refine z_aload_n C d_Mo_many_81 rfl 1 rfl ?_
            refine z_get C 0 rfl rfl in_Mo 21 (by decide) rfl wf_Mo_75 rfl d_Mo_many_82 ?_
            refine z_iload C d_Mo_many_85 0 rfl ?_
            refine z_iald C 4 0 rfl rfl hS45.1 d_Mo_many_87 ?_
            have hS46 := hS45.2
            exact z_iret C hr hlk u32 rfl hS46 d_Mo_many_88
          · have hS45 := hS42.2 c44
            refine z_aload_n C d_Mo_many_66 rfl 1 rfl ?_
            refine z_get C 0 rfl rfl in_Mo 22 (by decide) rfl wf_Mo_78 rfl d_Mo_many_67 ?_
            refine z_iload C d_Mo_many_70 0 rfl ?_
            refine z_bipush (v := (8 : Int32)) C d_Mo_many_72 (by decide) ?_
            refine z_imul C d_Mo_many_74 ?_
            refine z_iload_n C d_Mo_many_75 rfl 4 rfl ?_
            refine z_iadd C d_Mo_many_76 ?_
            refine z_iald C 3 0 rfl rfl hS45.1 d_Mo_many_77 ?_
            have hS47 := hS45.2
            refine z_goto (tgt := 88) C d_Mo_many_78 (by decide) ?_
            exact z_iret C hr hlk u32 rfl hS47 d_Mo_many_88
        · have hS42 := hS40.2 c41
          refine z_aload_n C d_Mo_many_46 rfl 1 rfl ?_
          refine z_iconst (v := (2 : Int32)) C d_Mo_many_47 (by decide) ?_
          refine z_put (ty := .int) (ws' := [zo 6 q_t [.ref q_t_text, .ref q_t_code, .ref q_t_site, .ref q_t_condition, .ref q_t_actions, .ref q_t_kind, .ref q_t_target, .ref q_t_first, .ref q_t_second, .ref q_t_failures, .ref q_t_met, .ref q_t_there, .ref q_t_on, .ref q_t_compared, .ref q_t_globals, .ref q_t_own, .ref q_t_records, .ref q_t_pile, .ref q_t_handed, .ref q_t_keys, .ref q_t_key, .ref q_t_count, .ref q_t_bins, .ref q_t_operator, .ref q_t_starts, .ref q_t_sum, .ref q_t_least, .ref q_t_greatest, .int t_newSite, .int t_newCondition, .int t_newActions, .int t_size, .int t_place, .int t_pos, .int t_at, .int t_operators, .int t_recorded, .int t_lost, .int t_dropped, .int t_firings, .int t_time, .int t_thread, .int (2 : Int32), .int t_failed], zaI K q_t_keys 3 t_keys, zaI K q_t_key 12 t_key, zaI K q_t_bins 96 t_bins, zaI K q_t_count 12 t_count]) C ty_Mo to_Mo nm_Mo 0 rfl rfl in_Mo 42 (by decide) rfl wf_Mo_100 rfl rfl rfl rfl (Nat.le_of_ble_eq_true rfl) rfl d_Mo_many_48 ?_
          refine z_iload C d_Mo_many_51 0 rfl ?_
          refine z_if_ge (tgt := 60) C d_Mo_many_53 (by decide) (fun c48 => absurd c48 c41) (fun c48 => ?_)
          refine z_iconst (v := (0 : Int32)) C d_Mo_many_56 (by decide) ?_
          refine z_goto (tgt := 88) C d_Mo_many_57 (by decide) ?_
          exact z_iret C hr hlk (2 : Int32) rfl hS42 d_Mo_many_88
      · have hS36 := hS34.2 c35
        refine z_iconst (v := (0 : Int32)) C d_Mo_many_31 (by decide) ?_
        exact z_iret C hr hlk u32 rfl hS36 d_Mo_many_32
    · have hS30 := hS28.2 c29
      refine z_iconst (v := (1 : Int32)) C d_Mo_many_20 (by decide) ?_
      refine z_goto (tgt := 25) C d_Mo_many_21 (by decide) ?_
      refine z_callVi (As := [.int (1 : Int32)]) (b := q_t) (st := []) (wr := [zaI K q_t_keys 3 t_keys, zaI K q_t_key 12 t_key, zaI K q_t_bins 96 t_bins, zaI K q_t_count 12 t_count]) (wj := fun u => [zo 6 q_t [.ref q_t_text, .ref q_t_code, .ref q_t_site, .ref q_t_condition, .ref q_t_actions, .ref q_t_kind, .ref q_t_target, .ref q_t_first, .ref q_t_second, .ref q_t_failures, .ref q_t_met, .ref q_t_there, .ref q_t_on, .ref q_t_compared, .ref q_t_globals, .ref q_t_own, .ref q_t_records, .ref q_t_pile, .ref q_t_handed, .ref q_t_keys, .ref q_t_key, .ref q_t_count, .ref q_t_bins, .ref q_t_operator, .ref q_t_starts, .ref q_t_sum, .ref q_t_least, .ref q_t_greatest, .int t_newSite, .int t_newCondition, .int t_newActions, .int t_size, .int t_place, .int t_pos, .int t_at, .int t_operators, .int t_recorded, .int t_lost, .int t_dropped, .int t_firings, .int t_time, .int t_thread, .int u, .int t_failed], zaI K q_t_keys 3 t_keys, zaI K q_t_key 12 t_key, zaI K q_t_bins 96 t_bins, zaI K q_t_count 12 t_count]) C 0 rfl rfl (c_Mo_bad l D K q_t q_t_text q_t_code q_t_site q_t_condition q_t_actions q_t_kind q_t_target q_t_first q_t_second q_t_failures q_t_met q_t_there q_t_on q_t_compared q_t_globals q_t_own q_t_records q_t_pile q_t_handed q_t_keys q_t_key q_t_count q_t_bins q_t_operator q_t_starts q_t_sum q_t_least q_t_greatest t_newSite t_newCondition t_newActions t_size t_place t_pos t_at t_operators t_recorded t_lost t_dropped t_firings t_time t_thread t_thrown t_failed (1 : Int32)) (cwV 1 C.2.2.2.2.1 (z_gV wl_Mo_107 wi_Mo_bad wv_Mo_bad wz_Mo wk_Mo_bad) rfl rfl rfl (by decide +kernel) ⟨Nat.le_of_ble_eq_true rfl, Nat.le_of_ble_eq_true rfl⟩) [0] [1, 2, 3, 4] [4, 0, 1, 2, 3] rfl rfl rfl rfl (by decide) (fun _ => rfl) rfl rfl rfl (Nat.le_of_ble_eq_true rfl) d_Mo_many_25 ⟨Nat.le_of_ble_eq_true rfl, Nat.le_of_ble_eq_true rfl⟩ (fun r49 u50 e51 => ?_)
      have hS52 := hS30 r49 u50 e51
      refine z_if_eq (tgt := 33) C d_Mo_many_28 (by decide) (fun c53 => ?_) (fun c53 => ?_)
      · have hS54 := hS52.1 c53
        refine z_aload_n C d_Mo_many_33 rfl 0 rfl ?_
        refine z_iload_n C d_Mo_many_34 rfl 1 rfl ?_
        refine z_iload_n C d_Mo_many_35 rfl 2 rfl ?_
        refine z_callVi (As := [.int x1, .int x2]) (b := q_t) (st := []) (wr := [zaI K q_t_bins 96 t_bins, zaI K q_t_count 12 t_count]) (wj := fun u => [zo 6 q_t [.ref q_t_text, .ref q_t_code, .ref q_t_site, .ref q_t_condition, .ref q_t_actions, .ref q_t_kind, .ref q_t_target, .ref q_t_first, .ref q_t_second, .ref q_t_failures, .ref q_t_met, .ref q_t_there, .ref q_t_on, .ref q_t_compared, .ref q_t_globals, .ref q_t_own, .ref q_t_records, .ref q_t_pile, .ref q_t_handed, .ref q_t_keys, .ref q_t_key, .ref q_t_count, .ref q_t_bins, .ref q_t_operator, .ref q_t_starts, .ref q_t_sum, .ref q_t_least, .ref q_t_greatest, .int t_newSite, .int t_newCondition, .int t_newActions, .int t_size, .int t_place, .int t_pos, .int t_at, .int t_operators, .int t_recorded, .int t_lost, .int t_dropped, .int t_firings, .int t_time, .int t_thread, .int u50, .int t_failed], zaI K q_t_keys 3 t_keys, zaI K q_t_key 12 t_key, zaI K q_t_bins 96 t_bins, zaI K q_t_count 12 t_count]) C 0 rfl rfl (c_Mo_find l D K q_t q_t_text q_t_code q_t_site q_t_condition q_t_actions q_t_kind q_t_target q_t_first q_t_second q_t_failures q_t_met q_t_there q_t_on q_t_compared q_t_globals q_t_own q_t_records q_t_pile q_t_handed q_t_keys q_t_key q_t_count q_t_bins q_t_operator q_t_starts q_t_sum q_t_least q_t_greatest t_newSite t_newCondition t_newActions t_size t_place t_pos t_at t_operators t_recorded t_lost t_dropped t_firings t_time t_thread u50 t_failed t_keys t_key x1 x2 hS54.1) (cwV 2 C.2.2.2.2.1 (z_gV wl_Mo_191 wi_Mo_find wv_Mo_find wz_Mo wk_Mo_find) rfl rfl rfl (by decide +kernel) ⟨Nat.le_of_ble_eq_true rfl, Nat.le_of_ble_eq_true rfl⟩) [0, 1, 2] [3, 4] [2, 3, 4, 0, 1] rfl rfl rfl rfl (by decide) (fun _ => rfl) rfl rfl rfl (Nat.le_of_ble_eq_true rfl) d_Mo_many_36 ⟨Nat.le_of_ble_eq_true rfl, Nat.le_of_ble_eq_true rfl⟩ (fun r55 u56 e57 => ?_)
        have hS58 := hS54.2 r55 e57
        refine z_istore (lv' := [(4, .int r55), (0, .ref q_t), (1, .int x1), (2, .int x2), (3, .int x3)]) C d_Mo_many_39 (by decide) rfl ?_
        refine z_iload C d_Mo_many_41 0 rfl ?_
        refine z_if_ge (tgt := 51) C d_Mo_many_43 (by decide) (fun c59 => ?_) (fun c59 => ?_)
        · have hS60 := hS58.1 c59
          refine z_iload C d_Mo_many_51 0 rfl ?_
          refine z_if_ge (tgt := 60) C d_Mo_many_53 (by decide) (fun c61 => ?_) (fun c61 => absurd c59 c61)
          refine z_iload_n C d_Mo_many_60 rfl 4 rfl ?_
          refine z_bipush (v := (8 : Int32)) C d_Mo_many_61 (by decide) ?_
          refine z_icmp_ge (tgt := 81) C d_Mo_many_63 (by decide) (fun c62 => ?_) (fun c62 => ?_)
          · have hS63 := hS60.1 c62
            refine z_aload_n C d_Mo_many_81 rfl 1 rfl ?_
            refine z_get C 0 rfl rfl in_Mo 21 (by decide) rfl wf_Mo_75 rfl d_Mo_many_82 ?_
            refine z_iload C d_Mo_many_85 0 rfl ?_
            refine z_iald C 4 0 rfl rfl hS63.1 d_Mo_many_87 ?_
            have hS64 := hS63.2
            exact z_iret C hr hlk u50 rfl hS64 d_Mo_many_88
          · have hS63 := hS60.2 c62
            refine z_aload_n C d_Mo_many_66 rfl 1 rfl ?_
            refine z_get C 0 rfl rfl in_Mo 22 (by decide) rfl wf_Mo_78 rfl d_Mo_many_67 ?_
            refine z_iload C d_Mo_many_70 0 rfl ?_
            refine z_bipush (v := (8 : Int32)) C d_Mo_many_72 (by decide) ?_
            refine z_imul C d_Mo_many_74 ?_
            refine z_iload_n C d_Mo_many_75 rfl 4 rfl ?_
            refine z_iadd C d_Mo_many_76 ?_
            refine z_iald C 3 0 rfl rfl hS63.1 d_Mo_many_77 ?_
            have hS65 := hS63.2
            refine z_goto (tgt := 88) C d_Mo_many_78 (by decide) ?_
            exact z_iret C hr hlk u50 rfl hS65 d_Mo_many_88
        · have hS60 := hS58.2 c59
          refine z_aload_n C d_Mo_many_46 rfl 1 rfl ?_
          refine z_iconst (v := (2 : Int32)) C d_Mo_many_47 (by decide) ?_
          refine z_put (ty := .int) (ws' := [zo 6 q_t [.ref q_t_text, .ref q_t_code, .ref q_t_site, .ref q_t_condition, .ref q_t_actions, .ref q_t_kind, .ref q_t_target, .ref q_t_first, .ref q_t_second, .ref q_t_failures, .ref q_t_met, .ref q_t_there, .ref q_t_on, .ref q_t_compared, .ref q_t_globals, .ref q_t_own, .ref q_t_records, .ref q_t_pile, .ref q_t_handed, .ref q_t_keys, .ref q_t_key, .ref q_t_count, .ref q_t_bins, .ref q_t_operator, .ref q_t_starts, .ref q_t_sum, .ref q_t_least, .ref q_t_greatest, .int t_newSite, .int t_newCondition, .int t_newActions, .int t_size, .int t_place, .int t_pos, .int t_at, .int t_operators, .int t_recorded, .int t_lost, .int t_dropped, .int t_firings, .int t_time, .int t_thread, .int (2 : Int32), .int t_failed], zaI K q_t_keys 3 t_keys, zaI K q_t_key 12 t_key, zaI K q_t_bins 96 t_bins, zaI K q_t_count 12 t_count]) C ty_Mo to_Mo nm_Mo 0 rfl rfl in_Mo 42 (by decide) rfl wf_Mo_100 rfl rfl rfl rfl (Nat.le_of_ble_eq_true rfl) rfl d_Mo_many_48 ?_
          refine z_iload C d_Mo_many_51 0 rfl ?_
          refine z_if_ge (tgt := 60) C d_Mo_many_53 (by decide) (fun c66 => absurd c66 c59) (fun c66 => ?_)
          refine z_iconst (v := (0 : Int32)) C d_Mo_many_56 (by decide) ?_
          refine z_goto (tgt := 88) C d_Mo_many_57 (by decide) ?_
          exact z_iret C hr hlk (2 : Int32) rfl hS60 d_Mo_many_88
      · have hS54 := hS52.2 c53
        refine z_iconst (v := (0 : Int32)) C d_Mo_many_31 (by decide) ?_
        exact z_iret C hr hlk u50 rfl hS54 d_Mo_many_32
def s_Mo_many (t_thrown : Int32) (t_keys : Nat → Int32) (t_key : Nat → Int32) (t_bins : Nat → Int32) (t_count : Nat → Int32) (x1 : Int32) (x2 : Int32) (x3 : Int32) : Int32 × Int32 := (zl1 (s_Mo_in x1 (0 : Int32) (2 : Int32)) fun r1 => (if r1 = 0 then (zl2 (s_Mo_bad t_thrown (0 : Int32)) (fun r7 u8 => (if r7 = 0 then (zl1 (s_Mo_find t_keys t_key x1 x2) fun r13 => (if 0 ≤ r13 then (if (8 : Int32) ≤ x3 then (t_count r13.toNatClampNeg, u8) else (t_bins ((r13 * (8 : Int32)) + x3).toNatClampNeg, u8)) else ((0 : Int32), (2 : Int32)))) else ((0 : Int32), u8)))) else (zl1 (s_Mo_in x3 (0 : Int32) (8 : Int32)) fun r25 => (if r25 = 0 then (zl2 (s_Mo_bad t_thrown (0 : Int32)) (fun r31 u32 => (if r31 = 0 then (zl1 (s_Mo_find t_keys t_key x1 x2) fun r37 => (if 0 ≤ r37 then (if (8 : Int32) ≤ x3 then (t_count r37.toNatClampNeg, u32) else (t_bins ((r37 * (8 : Int32)) + x3).toNatClampNeg, u32)) else ((0 : Int32), (2 : Int32)))) else ((0 : Int32), u32)))) else (zl2 (s_Mo_bad t_thrown (1 : Int32)) (fun r49 u50 => (if r49 = 0 then (zl1 (s_Mo_find t_keys t_key x1 x2) fun r55 => (if 0 ≤ r55 then (if (8 : Int32) ≤ x3 then (t_count r55.toNatClampNeg, u50) else (t_bins ((r55 * (8 : Int32)) + x3).toNatClampNeg, u50)) else ((0 : Int32), (2 : Int32)))) else ((0 : Int32), u50))))))))
def p_Mo_many (t_thrown : Int32) (t_keys : Nat → Int32) (t_key : Nat → Int32) (t_bins : Nat → Int32) (t_count : Nat → Int32) (x1 : Int32) (x2 : Int32) (x3 : Int32) : Prop := WP_Mo_many t_thrown t_keys t_key t_bins t_count x1 x2 x3 (fun _ _ => True)
set_option maxRecDepth 100000 in
theorem v_Mo_many (t_thrown : Int32) (t_keys : Nat → Int32) (t_key : Nat → Int32) (t_bins : Nat → Int32) (t_count : Nat → Int32) (x1 : Int32) (x2 : Int32) (x3 : Int32) (hp : p_Mo_many t_thrown t_keys t_key t_bins t_count x1 x2 x3) : WP_Mo_many t_thrown t_keys t_key t_bins t_count x1 x2 x3 (fun r u => s_Mo_many t_thrown t_keys t_key t_bins t_count x1 x2 x3 = (r, u)) := by
  unfold p_Mo_many WP_Mo_many at hp
  obtain ⟨tgt, f0⟩ : ∃ tgt, s_Mo_many t_thrown t_keys t_key t_bins t_count x1 x2 x3 = tgt := ⟨_, rfl⟩
  rw [f0]
  unfold s_Mo_many at f0
  unfold WP_Mo_many
  intro r1 e3
  have g1 := hp r1 e3
  have f1 := Eq.trans (Eq.symm (zl1_eq e3)) f0
  refine ⟨fun c5 => ?_, fun c5 => ?_⟩
  · have f2 := Eq.trans (Eq.symm (if_pos c5)) f1
    have g2 := g1.1 c5
    intro r7 u8 e9
    have g3 := g2 r7 u8 e9
    have f3 := Eq.trans (Eq.symm (zl2_eq e9)) f2
    refine ⟨fun c11 => ?_, fun c11 => ?_⟩
    · have f4 := Eq.trans (Eq.symm (if_pos c11)) f3
      have g4 := g3.1 c11
      refine ⟨g4.1, ?_⟩
      have g6 := g4.2
      intro r13 e15
      have g5 := g6 r13 e15
      have f5 := Eq.trans (Eq.symm (zl1_eq e15)) f4
      refine ⟨fun c17 => ?_, fun c17 => ?_⟩
      · have f7 := Eq.trans (Eq.symm (if_pos c17)) f5
        have g7 := g5.1 c17
        refine ⟨fun c20 => ?_, fun c20 => ?_⟩
        · have f8 := Eq.trans (Eq.symm (if_pos c20)) f7
          have g8 := g7.1 c20
          refine ⟨g8.1, ?_⟩
          have g9 := g8.2
          exact f8.symm
        · have f8 := Eq.trans (Eq.symm (if_neg c20)) f7
          have g8 := g7.2 c20
          refine ⟨g8.1, ?_⟩
          have g10 := g8.2
          exact f8.symm
      · have f7 := Eq.trans (Eq.symm (if_neg c17)) f5
        have g7 := g5.2 c17
        exact f7.symm
    · have f4 := Eq.trans (Eq.symm (if_neg c11)) f3
      have g4 := g3.2 c11
      exact f4.symm
  · have f2 := Eq.trans (Eq.symm (if_neg c5)) f1
    have g2 := g1.2 c5
    intro r25 e27
    have g11 := g2 r25 e27
    have f11 := Eq.trans (Eq.symm (zl1_eq e27)) f2
    refine ⟨fun c29 => ?_, fun c29 => ?_⟩
    · have f12 := Eq.trans (Eq.symm (if_pos c29)) f11
      have g12 := g11.1 c29
      intro r31 u32 e33
      have g13 := g12 r31 u32 e33
      have f13 := Eq.trans (Eq.symm (zl2_eq e33)) f12
      refine ⟨fun c35 => ?_, fun c35 => ?_⟩
      · have f14 := Eq.trans (Eq.symm (if_pos c35)) f13
        have g14 := g13.1 c35
        refine ⟨g14.1, ?_⟩
        have g16 := g14.2
        intro r37 e39
        have g15 := g16 r37 e39
        have f15 := Eq.trans (Eq.symm (zl1_eq e39)) f14
        refine ⟨fun c41 => ?_, fun c41 => ?_⟩
        · have f17 := Eq.trans (Eq.symm (if_pos c41)) f15
          have g17 := g15.1 c41
          refine ⟨fun c44 => ?_, fun c44 => ?_⟩
          · have f18 := Eq.trans (Eq.symm (if_pos c44)) f17
            have g18 := g17.1 c44
            refine ⟨g18.1, ?_⟩
            have g19 := g18.2
            exact f18.symm
          · have f18 := Eq.trans (Eq.symm (if_neg c44)) f17
            have g18 := g17.2 c44
            refine ⟨g18.1, ?_⟩
            have g20 := g18.2
            exact f18.symm
        · have f17 := Eq.trans (Eq.symm (if_neg c41)) f15
          have g17 := g15.2 c41
          exact f17.symm
      · have f14 := Eq.trans (Eq.symm (if_neg c35)) f13
        have g14 := g13.2 c35
        exact f14.symm
    · have f12 := Eq.trans (Eq.symm (if_neg c29)) f11
      have g12 := g11.2 c29
      intro r49 u50 e51
      have g21 := g12 r49 u50 e51
      have f21 := Eq.trans (Eq.symm (zl2_eq e51)) f12
      refine ⟨fun c53 => ?_, fun c53 => ?_⟩
      · have f22 := Eq.trans (Eq.symm (if_pos c53)) f21
        have g22 := g21.1 c53
        refine ⟨g22.1, ?_⟩
        have g24 := g22.2
        intro r55 e57
        have g23 := g24 r55 e57
        have f23 := Eq.trans (Eq.symm (zl1_eq e57)) f22
        refine ⟨fun c59 => ?_, fun c59 => ?_⟩
        · have f25 := Eq.trans (Eq.symm (if_pos c59)) f23
          have g25 := g23.1 c59
          refine ⟨fun c62 => ?_, fun c62 => ?_⟩
          · have f26 := Eq.trans (Eq.symm (if_pos c62)) f25
            have g26 := g25.1 c62
            refine ⟨g26.1, ?_⟩
            have g27 := g26.2
            exact f26.symm
          · have f26 := Eq.trans (Eq.symm (if_neg c62)) f25
            have g26 := g25.2 c62
            refine ⟨g26.1, ?_⟩
            have g28 := g26.2
            exact f26.symm
        · have f25 := Eq.trans (Eq.symm (if_neg c59)) f23
          have g25 := g23.2 c59
          exact f25.symm
      · have f22 := Eq.trans (Eq.symm (if_neg c53)) f21
        have g22 := g21.2 c53
        exact f22.symm
theorem c_Mo_many (l : Launch) (D : va_G) (K : Nat → ClassId) (q_t : Nat) (q_t_text : Nat) (q_t_code : Nat) (q_t_site : Nat) (q_t_condition : Nat) (q_t_actions : Nat) (q_t_kind : Nat) (q_t_target : Nat) (q_t_first : Nat) (q_t_second : Nat) (q_t_failures : Nat) (q_t_met : Nat) (q_t_there : Nat) (q_t_on : Nat) (q_t_compared : Nat) (q_t_globals : Nat) (q_t_own : Nat) (q_t_records : Nat) (q_t_pile : Nat) (q_t_handed : Nat) (q_t_keys : Nat) (q_t_key : Nat) (q_t_count : Nat) (q_t_bins : Nat) (q_t_operator : Nat) (q_t_starts : Nat) (q_t_sum : Nat) (q_t_least : Nat) (q_t_greatest : Nat) (t_newSite : Int32) (t_newCondition : Int32) (t_newActions : Int32) (t_size : Int32) (t_place : Int32) (t_pos : Int32) (t_at : Int32) (t_operators : Int32) (t_recorded : Int32) (t_lost : Int32) (t_dropped : Int32) (t_firings : Int32) (t_time : Int32) (t_thread : Int32) (t_thrown : Int32) (t_failed : Int32) (t_keys : Nat → Int32) (t_key : Nat → Int32) (t_bins : Nat → Int32) (t_count : Nat → Int32) (x1 : Int32) (x2 : Int32) (x3 : Int32) (hp : p_Mo_many t_thrown t_keys t_key t_bins t_count x1 x2 x3) : zCi l y_Mo_many wy_Mo_many rm_Mo_many D zcl (zT K) [.ref q_t, .int x1, .int x2, .int x3] (w_Mo_many K q_t q_t_text q_t_code q_t_site q_t_condition q_t_actions q_t_kind q_t_target q_t_first q_t_second q_t_failures q_t_met q_t_there q_t_on q_t_compared q_t_globals q_t_own q_t_records q_t_pile q_t_handed q_t_keys q_t_key q_t_count q_t_bins q_t_operator q_t_starts q_t_sum q_t_least q_t_greatest t_newSite t_newCondition t_newActions t_size t_place t_pos t_at t_operators t_recorded t_lost t_dropped t_firings t_time t_thread t_failed t_keys t_key t_bins t_count t_thrown) (w_Mo_many K q_t q_t_text q_t_code q_t_site q_t_condition q_t_actions q_t_kind q_t_target q_t_first q_t_second q_t_failures q_t_met q_t_there q_t_on q_t_compared q_t_globals q_t_own q_t_records q_t_pile q_t_handed q_t_keys q_t_key q_t_count q_t_bins q_t_operator q_t_starts q_t_sum q_t_least q_t_greatest t_newSite t_newCondition t_newActions t_size t_place t_pos t_at t_operators t_recorded t_lost t_dropped t_firings t_time t_thread t_failed t_keys t_key t_bins t_count) (fun r u => s_Mo_many t_thrown t_keys t_key t_bins t_count x1 x2 x3 = (r, u)) 0 0 := cw_Mo_many l D K q_t q_t_text q_t_code q_t_site q_t_condition q_t_actions q_t_kind q_t_target q_t_first q_t_second q_t_failures q_t_met q_t_there q_t_on q_t_compared q_t_globals q_t_own q_t_records q_t_pile q_t_handed q_t_keys q_t_key q_t_count q_t_bins q_t_operator q_t_starts q_t_sum q_t_least q_t_greatest t_newSite t_newCondition t_newActions t_size t_place t_pos t_at t_operators t_recorded t_lost t_dropped t_firings t_time t_thread t_thrown t_failed t_keys t_key t_bins t_count x1 x2 x3 (v_Mo_many t_thrown t_keys t_key t_bins t_count x1 x2 x3 hp)
-- RuleTracerModel.record()D: reads ['t.recorded', 't.thrown', 't.records'], changes ['t.recorded', 't.thrown', 't.records']
abbrev w_Mo_record (K : Nat → ClassId) (q_t : Nat) (q_t_text : Nat) (q_t_code : Nat) (q_t_site : Nat) (q_t_condition : Nat) (q_t_actions : Nat) (q_t_kind : Nat) (q_t_target : Nat) (q_t_first : Nat) (q_t_second : Nat) (q_t_failures : Nat) (q_t_met : Nat) (q_t_there : Nat) (q_t_on : Nat) (q_t_compared : Nat) (q_t_globals : Nat) (q_t_own : Nat) (q_t_records : Nat) (q_t_pile : Nat) (q_t_handed : Nat) (q_t_keys : Nat) (q_t_key : Nat) (q_t_count : Nat) (q_t_bins : Nat) (q_t_operator : Nat) (q_t_starts : Nat) (q_t_sum : Nat) (q_t_least : Nat) (q_t_greatest : Nat) (t_newSite : Int32) (t_newCondition : Int32) (t_newActions : Int32) (t_size : Int32) (t_place : Int32) (t_pos : Int32) (t_at : Int32) (t_operators : Int32) (t_lost : Int32) (t_dropped : Int32) (t_firings : Int32) (t_time : Int32) (t_thread : Int32) (t_failed : Int32) (u : Int32 × Int32 × (Nat → UInt64)) : va_W := [zo 6 q_t [.ref q_t_text, .ref q_t_code, .ref q_t_site, .ref q_t_condition, .ref q_t_actions, .ref q_t_kind, .ref q_t_target, .ref q_t_first, .ref q_t_second, .ref q_t_failures, .ref q_t_met, .ref q_t_there, .ref q_t_on, .ref q_t_compared, .ref q_t_globals, .ref q_t_own, .ref q_t_records, .ref q_t_pile, .ref q_t_handed, .ref q_t_keys, .ref q_t_key, .ref q_t_count, .ref q_t_bins, .ref q_t_operator, .ref q_t_starts, .ref q_t_sum, .ref q_t_least, .ref q_t_greatest, .int t_newSite, .int t_newCondition, .int t_newActions, .int t_size, .int t_place, .int t_pos, .int t_at, .int t_operators, .int u.1, .int t_lost, .int t_dropped, .int t_firings, .int t_time, .int t_thread, .int u.2.1, .int t_failed], zaD K q_t_records 6 u.2.2]
abbrev rm_Mo_record : Room := { frames := 0, cells := 0, slots := 0, locals := 0 }
abbrev wy_Mo_record : List Cond := .code y_Mo_record b_Mo_record 4 (some .double) :: zWT
def WP_Mo_record_L44 : Nat → UInt64 → Int32 → Int32 → Int32 → (Nat → UInt64) → (UInt64 → (Int32 × Int32 × (Nat → UInt64)) → Prop) → Prop
  | 0, _, _, _, _, _, _ => False
  | n + 1, y1, y3, t_recorded, t_thrown, t_records, Q => ((t_recorded ≤ y3) → Q y1 (t_recorded, t_thrown, t_records)) ∧ ((¬ t_recorded ≤ y3) → vp_in (y3 + (1 : Int32)) 6 ∧ vp_in y3 6 ∧ WP_Mo_record_L44 n y1 (y3 + (1 : Int32)) t_recorded t_thrown (vf_upd t_records y3.toNatClampNeg (t_records (y3 + (1 : Int32)).toNatClampNeg)) Q)
def WP_Mo_record (t_recorded : Int32) (t_thrown : Int32) (t_records : Nat → UInt64) (Q : UInt64 → (Int32 × Int32 × (Nat → UInt64)) → Prop) : Prop := ((¬ t_recorded = 0) → WP_Mo_record_L44 600 (t_records 0) (0 : Int32) (t_recorded - (1 : Int32)) (0 : Int32) t_records Q) ∧ ((t_recorded = 0) → Q FP.dconst0 (t_recorded, (1 : Int32), t_records))
set_option maxHeartbeats 4000000 in
set_option maxRecDepth 100000 in
theorem lw_Mo_record_L44 {p : Program} {e : Env} {s : State} {m : MethodId} {args : Array Value} {below : List Frame} {meth : Method} {c : Code} {A : Nat → Prop} (l : Launch) (D : va_G) (K : Nat → ClassId) (q_t : Nat) (q_t_text : Nat) (q_t_code : Nat) (q_t_site : Nat) (q_t_condition : Nat) (q_t_actions : Nat) (q_t_kind : Nat) (q_t_target : Nat) (q_t_first : Nat) (q_t_second : Nat) (q_t_failures : Nat) (q_t_met : Nat) (q_t_there : Nat) (q_t_on : Nat) (q_t_compared : Nat) (q_t_globals : Nat) (q_t_own : Nat) (q_t_records : Nat) (q_t_pile : Nat) (q_t_handed : Nat) (q_t_keys : Nat) (q_t_key : Nat) (q_t_count : Nat) (q_t_bins : Nat) (q_t_operator : Nat) (q_t_starts : Nat) (q_t_sum : Nat) (q_t_least : Nat) (q_t_greatest : Nat) (t_newSite : Int32) (t_newCondition : Int32) (t_newActions : Int32) (t_size : Int32) (t_place : Int32) (t_pos : Int32) (t_at : Int32) (t_operators : Int32) (t_lost : Int32) (t_dropped : Int32) (t_firings : Int32) (t_time : Int32) (t_thread : Int32) (t_failed : Int32) {Q : UInt64 → (Int32 × Int32 × (Nat → UInt64)) → Prop} (C : zCx p s m args c b_Mo_record 4 R_Mo zWT D zcl (zT K) A) (hr : meth.sig.returnType = (some .double)) (hlk : meth.locks = false) : ∀ (n : Nat) (y1 : UInt64) (y3 : Int32) (t_recorded : Int32) (t_thrown : Int32) (t_records : Nat → UInt64), WP_Mo_record_L44 n y1 y3 t_recorded t_thrown t_records Q → zW p l e (headSpec wy_Mo_record rm_Mo_record).room s m args below meth c D zcl A 4 0 0 (MQ below (va_Qd Q (zB D zcl (zT K) (w_Mo_record K q_t q_t_text q_t_code q_t_site q_t_condition q_t_actions q_t_kind q_t_target q_t_first q_t_second q_t_failures q_t_met q_t_there q_t_on q_t_compared q_t_globals q_t_own q_t_records q_t_pile q_t_handed q_t_keys q_t_key q_t_count q_t_bins q_t_operator q_t_starts q_t_sum q_t_least q_t_greatest t_newSite t_newCondition t_newActions t_size t_place t_pos t_at t_operators t_lost t_dropped t_firings t_time t_thread t_failed) A) A) args s 0 0 A) [(0, .ref q_t), (1, .double y1), (3, .int y3)] [zo 6 q_t [.ref q_t_text, .ref q_t_code, .ref q_t_site, .ref q_t_condition, .ref q_t_actions, .ref q_t_kind, .ref q_t_target, .ref q_t_first, .ref q_t_second, .ref q_t_failures, .ref q_t_met, .ref q_t_there, .ref q_t_on, .ref q_t_compared, .ref q_t_globals, .ref q_t_own, .ref q_t_records, .ref q_t_pile, .ref q_t_handed, .ref q_t_keys, .ref q_t_key, .ref q_t_count, .ref q_t_bins, .ref q_t_operator, .ref q_t_starts, .ref q_t_sum, .ref q_t_least, .ref q_t_greatest, .int t_newSite, .int t_newCondition, .int t_newActions, .int t_size, .int t_place, .int t_pos, .int t_at, .int t_operators, .int t_recorded, .int t_lost, .int t_dropped, .int t_firings, .int t_time, .int t_thread, .int t_thrown, .int t_failed], zaD K q_t_records 6 t_records] 44 [] := by
  intro n
  induction n with
  | zero => intros; contradiction
  | succ n ih =>
    intro y1 y3 t_recorded t_thrown t_records hS0
    refine z_iload_n C d_Mo_record_44 rfl 2 rfl ?_
    refine z_aload_n C d_Mo_record_45 rfl 0 rfl ?_
    refine z_get C 0 rfl rfl in_Mo 36 (by decide) rfl wf_Mo_202 rfl d_Mo_record_46 ?_
    refine z_icmp_ge (tgt := 72) C d_Mo_record_49 (by decide) (fun c5 => ?_) (fun c5 => ?_)
    · have hS6 := hS0.1 c5
      refine z_dload_n C d_Mo_record_72 rfl 1 rfl ?_
      exact z_dret C hr hlk (t_recorded, t_thrown, t_records) rfl hS6 d_Mo_record_73
    · have hS6 := hS0.2 c5
      refine z_aload_n C d_Mo_record_52 rfl 0 rfl ?_
      refine z_get C 0 rfl rfl in_Mo 16 (by decide) rfl wf_Mo_60 rfl d_Mo_record_53 ?_
      refine z_iload_n C d_Mo_record_56 rfl 2 rfl ?_
      refine z_aload_n C d_Mo_record_57 rfl 0 rfl ?_
      refine z_get C 0 rfl rfl in_Mo 16 (by decide) rfl wf_Mo_60 rfl d_Mo_record_58 ?_
      refine z_iload_n C d_Mo_record_61 rfl 2 rfl ?_
      refine z_iconst (v := (1 : Int32)) C d_Mo_record_62 (by decide) ?_
      refine z_iadd C d_Mo_record_63 ?_
      refine z_dald C 1 1 rfl rfl hS6.1 d_Mo_record_64 ?_
      have hS7 := hS6.2
      refine z_dast (ws' := [zo 6 q_t [.ref q_t_text, .ref q_t_code, .ref q_t_site, .ref q_t_condition, .ref q_t_actions, .ref q_t_kind, .ref q_t_target, .ref q_t_first, .ref q_t_second, .ref q_t_failures, .ref q_t_met, .ref q_t_there, .ref q_t_on, .ref q_t_compared, .ref q_t_globals, .ref q_t_own, .ref q_t_records, .ref q_t_pile, .ref q_t_handed, .ref q_t_keys, .ref q_t_key, .ref q_t_count, .ref q_t_bins, .ref q_t_operator, .ref q_t_starts, .ref q_t_sum, .ref q_t_least, .ref q_t_greatest, .int t_newSite, .int t_newCondition, .int t_newActions, .int t_size, .int t_place, .int t_pos, .int t_at, .int t_operators, .int t_recorded, .int t_lost, .int t_dropped, .int t_firings, .int t_time, .int t_thread, .int t_thrown, .int t_failed], zaD K q_t_records 6 (vf_upd t_records y3.toNatClampNeg (t_records (y3 + (1 : Int32)).toNatClampNeg))]) C 1 1 rfl rfl hS7.1 rfl d_Mo_record_65 ?_
      have hS8 := hS7.2
      refine z_iinc (j := 2) (v := y3 + (1 : Int32)) (lv' := [(3, .int (y3 + (1 : Int32))), (0, .ref q_t), (1, .double y1)]) C d_Mo_record_66 rfl rfl (by decide) rfl ?_
      refine z_goto (tgt := 44) C d_Mo_record_69 (by decide) ?_
      refine z_lpick (lv' := [(0, .ref q_t), (1, .double y1), (3, .int (y3 + (1 : Int32)))]) [1, 2, 0] rfl ?_
      exact ih y1 (y3 + (1 : Int32)) t_recorded t_thrown (vf_upd t_records y3.toNatClampNeg (t_records (y3 + (1 : Int32)).toNatClampNeg)) hS8
set_option maxHeartbeats 4000000 in
set_option maxRecDepth 100000 in
theorem cw_Mo_record (l : Launch) (D : va_G) (K : Nat → ClassId) (q_t : Nat) (q_t_text : Nat) (q_t_code : Nat) (q_t_site : Nat) (q_t_condition : Nat) (q_t_actions : Nat) (q_t_kind : Nat) (q_t_target : Nat) (q_t_first : Nat) (q_t_second : Nat) (q_t_failures : Nat) (q_t_met : Nat) (q_t_there : Nat) (q_t_on : Nat) (q_t_compared : Nat) (q_t_globals : Nat) (q_t_own : Nat) (q_t_records : Nat) (q_t_pile : Nat) (q_t_handed : Nat) (q_t_keys : Nat) (q_t_key : Nat) (q_t_count : Nat) (q_t_bins : Nat) (q_t_operator : Nat) (q_t_starts : Nat) (q_t_sum : Nat) (q_t_least : Nat) (q_t_greatest : Nat) (t_newSite : Int32) (t_newCondition : Int32) (t_newActions : Int32) (t_size : Int32) (t_place : Int32) (t_pos : Int32) (t_at : Int32) (t_operators : Int32) (t_recorded : Int32) (t_lost : Int32) (t_dropped : Int32) (t_firings : Int32) (t_time : Int32) (t_thread : Int32) (t_thrown : Int32) (t_failed : Int32) (t_records : Nat → UInt64) {Q : UInt64 → (Int32 × Int32 × (Nat → UInt64)) → Prop} (hS0 : WP_Mo_record t_recorded t_thrown t_records Q) : zCd l y_Mo_record wy_Mo_record rm_Mo_record D zcl (zT K) [.ref q_t] (w_Mo_record K q_t q_t_text q_t_code q_t_site q_t_condition q_t_actions q_t_kind q_t_target q_t_first q_t_second q_t_failures q_t_met q_t_there q_t_on q_t_compared q_t_globals q_t_own q_t_records q_t_pile q_t_handed q_t_keys q_t_key q_t_count q_t_bins q_t_operator q_t_starts q_t_sum q_t_least q_t_greatest t_newSite t_newCondition t_newActions t_size t_place t_pos t_at t_operators t_lost t_dropped t_firings t_time t_thread t_failed (t_recorded, t_thrown, t_records)) (w_Mo_record K q_t q_t_text q_t_code q_t_site q_t_condition q_t_actions q_t_kind q_t_target q_t_first q_t_second q_t_failures q_t_met q_t_there q_t_on q_t_compared q_t_globals q_t_own q_t_records q_t_pile q_t_handed q_t_keys q_t_key q_t_count q_t_bins q_t_operator q_t_starts q_t_sum q_t_least q_t_greatest t_newSite t_newCondition t_newActions t_size t_place t_pos t_at t_operators t_lost t_dropped t_firings t_time t_thread t_failed) Q 0 0 := by
  refine z_metd (cc := b_Mo_record) (maxL := 4) (ret := (some .double)) (by decide) rfl (Nat.le_of_ble_eq_true rfl) ?_
  intro p e s m args below meth c A C hr hlk hnm
  refine z_lpick (lv' := [(0, .ref q_t)]) [0] rfl ?_
  refine z_weq (ws' := [zo 6 q_t [.ref q_t_text, .ref q_t_code, .ref q_t_site, .ref q_t_condition, .ref q_t_actions, .ref q_t_kind, .ref q_t_target, .ref q_t_first, .ref q_t_second, .ref q_t_failures, .ref q_t_met, .ref q_t_there, .ref q_t_on, .ref q_t_compared, .ref q_t_globals, .ref q_t_own, .ref q_t_records, .ref q_t_pile, .ref q_t_handed, .ref q_t_keys, .ref q_t_key, .ref q_t_count, .ref q_t_bins, .ref q_t_operator, .ref q_t_starts, .ref q_t_sum, .ref q_t_least, .ref q_t_greatest, .int t_newSite, .int t_newCondition, .int t_newActions, .int t_size, .int t_place, .int t_pos, .int t_at, .int t_operators, .int t_recorded, .int t_lost, .int t_dropped, .int t_firings, .int t_time, .int t_thread, .int t_thrown, .int t_failed], zaD K q_t_records 6 t_records]) rfl ?_
  refine z_aload_n C d_Mo_record_0 rfl 0 rfl ?_
  refine z_aload_n C d_Mo_record_1 rfl 0 rfl ?_
  refine z_get C 0 rfl rfl in_Mo 36 (by decide) rfl wf_Mo_202 rfl d_Mo_record_2 ?_
  refine z_if_ne (tgt := 12) C d_Mo_record_5 (by decide) (fun c1 => ?_) (fun c1 => ?_)
  · have hS2 := hS0.1 c1
    refine z_iconst (v := (0 : Int32)) C d_Mo_record_12 (by decide) ?_
    refine z_put (ty := .int) (ws' := [zo 6 q_t [.ref q_t_text, .ref q_t_code, .ref q_t_site, .ref q_t_condition, .ref q_t_actions, .ref q_t_kind, .ref q_t_target, .ref q_t_first, .ref q_t_second, .ref q_t_failures, .ref q_t_met, .ref q_t_there, .ref q_t_on, .ref q_t_compared, .ref q_t_globals, .ref q_t_own, .ref q_t_records, .ref q_t_pile, .ref q_t_handed, .ref q_t_keys, .ref q_t_key, .ref q_t_count, .ref q_t_bins, .ref q_t_operator, .ref q_t_starts, .ref q_t_sum, .ref q_t_least, .ref q_t_greatest, .int t_newSite, .int t_newCondition, .int t_newActions, .int t_size, .int t_place, .int t_pos, .int t_at, .int t_operators, .int t_recorded, .int t_lost, .int t_dropped, .int t_firings, .int t_time, .int t_thread, .int (0 : Int32), .int t_failed], zaD K q_t_records 6 t_records]) C ty_Mo to_Mo nm_Mo 0 rfl rfl in_Mo 42 (by decide) rfl wf_Mo_100 rfl rfl rfl rfl (Nat.le_of_ble_eq_true rfl) rfl d_Mo_record_13 ?_
    refine z_aload_n C d_Mo_record_16 rfl 0 rfl ?_
    refine z_get C 0 rfl rfl in_Mo 36 (by decide) rfl wf_Mo_202 rfl d_Mo_record_17 ?_
    refine z_if_ne (tgt := 25) C d_Mo_record_20 (by decide) (fun c3 => ?_) (fun c3 => absurd c3 c1)
    refine z_aload_n C d_Mo_record_25 rfl 0 rfl ?_
    refine z_get C 0 rfl rfl in_Mo 16 (by decide) rfl wf_Mo_60 rfl d_Mo_record_26 ?_
    refine z_iconst (v := (0 : Int32)) C d_Mo_record_29 (by decide) ?_
    refine z_dald C 1 1 rfl rfl (zin_c (by decide)) d_Mo_record_30 ?_
    refine z_dstore_n (lv' := [(1, .double (t_records 0)), (0, .ref q_t)]) C d_Mo_record_31 rfl (by decide) rfl ?_
    refine z_aload_n C d_Mo_record_32 rfl 1 rfl ?_
    refine z_dup C d_Mo_record_33 rfl ?_
    refine z_get C 0 rfl rfl in_Mo 36 (by decide) rfl wf_Mo_202 rfl d_Mo_record_34 ?_
    refine z_iconst (v := (1 : Int32)) C d_Mo_record_37 (by decide) ?_
    refine z_isub C d_Mo_record_38 ?_
    refine z_put (ty := .int) (ws' := [zo 6 q_t [.ref q_t_text, .ref q_t_code, .ref q_t_site, .ref q_t_condition, .ref q_t_actions, .ref q_t_kind, .ref q_t_target, .ref q_t_first, .ref q_t_second, .ref q_t_failures, .ref q_t_met, .ref q_t_there, .ref q_t_on, .ref q_t_compared, .ref q_t_globals, .ref q_t_own, .ref q_t_records, .ref q_t_pile, .ref q_t_handed, .ref q_t_keys, .ref q_t_key, .ref q_t_count, .ref q_t_bins, .ref q_t_operator, .ref q_t_starts, .ref q_t_sum, .ref q_t_least, .ref q_t_greatest, .int t_newSite, .int t_newCondition, .int t_newActions, .int t_size, .int t_place, .int t_pos, .int t_at, .int t_operators, .int (t_recorded - (1 : Int32)), .int t_lost, .int t_dropped, .int t_firings, .int t_time, .int t_thread, .int (0 : Int32), .int t_failed], zaD K q_t_records 6 t_records]) C ty_Mo to_Mo nm_Mo 0 rfl rfl in_Mo 36 (by decide) rfl wf_Mo_202 rfl rfl rfl rfl (Nat.le_of_ble_eq_true rfl) rfl d_Mo_record_39 ?_
    refine z_iconst (v := (0 : Int32)) C d_Mo_record_42 (by decide) ?_
    refine z_istore_n (lv' := [(3, .int (0 : Int32)), (1, .double (t_records 0)), (0, .ref q_t)]) C d_Mo_record_43 rfl (by decide) rfl ?_
    refine z_lpick (lv' := [(0, .ref q_t), (1, .double (t_records 0)), (3, .int (0 : Int32))]) [2, 1, 0] rfl ?_
    exact lw_Mo_record_L44 l D K q_t q_t_text q_t_code q_t_site q_t_condition q_t_actions q_t_kind q_t_target q_t_first q_t_second q_t_failures q_t_met q_t_there q_t_on q_t_compared q_t_globals q_t_own q_t_records q_t_pile q_t_handed q_t_keys q_t_key q_t_count q_t_bins q_t_operator q_t_starts q_t_sum q_t_least q_t_greatest t_newSite t_newCondition t_newActions t_size t_place t_pos t_at t_operators t_lost t_dropped t_firings t_time t_thread t_failed C hr hlk 600 (t_records 0) (0 : Int32) (t_recorded - (1 : Int32)) (0 : Int32) t_records hS2
  · have hS2 := hS0.2 c1
    refine z_iconst (v := (1 : Int32)) C d_Mo_record_8 (by decide) ?_
    refine z_goto (tgt := 13) C d_Mo_record_9 (by decide) ?_
    refine z_put (ty := .int) (ws' := [zo 6 q_t [.ref q_t_text, .ref q_t_code, .ref q_t_site, .ref q_t_condition, .ref q_t_actions, .ref q_t_kind, .ref q_t_target, .ref q_t_first, .ref q_t_second, .ref q_t_failures, .ref q_t_met, .ref q_t_there, .ref q_t_on, .ref q_t_compared, .ref q_t_globals, .ref q_t_own, .ref q_t_records, .ref q_t_pile, .ref q_t_handed, .ref q_t_keys, .ref q_t_key, .ref q_t_count, .ref q_t_bins, .ref q_t_operator, .ref q_t_starts, .ref q_t_sum, .ref q_t_least, .ref q_t_greatest, .int t_newSite, .int t_newCondition, .int t_newActions, .int t_size, .int t_place, .int t_pos, .int t_at, .int t_operators, .int t_recorded, .int t_lost, .int t_dropped, .int t_firings, .int t_time, .int t_thread, .int (1 : Int32), .int t_failed], zaD K q_t_records 6 t_records]) C ty_Mo to_Mo nm_Mo 0 rfl rfl in_Mo 42 (by decide) rfl wf_Mo_100 rfl rfl rfl rfl (Nat.le_of_ble_eq_true rfl) rfl d_Mo_record_13 ?_
    refine z_aload_n C d_Mo_record_16 rfl 0 rfl ?_
    refine z_get C 0 rfl rfl in_Mo 36 (by decide) rfl wf_Mo_202 rfl d_Mo_record_17 ?_
    refine z_if_ne (tgt := 25) C d_Mo_record_20 (by decide) (fun c4 => absurd c1 c4) (fun c4 => ?_)
    refine z_dconst0 C d_Mo_record_23 ?_
    exact z_dret C hr hlk (t_recorded, (1 : Int32), t_records) rfl hS2 d_Mo_record_24
def s_Mo_record_L44 : Nat → UInt64 → Int32 → Int32 → Int32 → (Nat → UInt64) → UInt64 × Int32 × Int32 × (Nat → UInt64)
  | 0, _, _, t_recorded, t_thrown, t_records => (0, t_recorded, t_thrown, t_records)
  | n + 1, y1, y3, t_recorded, t_thrown, t_records => (if t_recorded ≤ y3 then (y1, t_recorded, t_thrown, t_records) else s_Mo_record_L44 n y1 (y3 + (1 : Int32)) t_recorded t_thrown (vf_upd t_records y3.toNatClampNeg (t_records (y3 + (1 : Int32)).toNatClampNeg)))
def s_Mo_record (t_recorded : Int32) (t_thrown : Int32) (t_records : Nat → UInt64) : UInt64 × Int32 × Int32 × (Nat → UInt64) := (if t_recorded = 0 then (FP.dconst0, t_recorded, (1 : Int32), t_records) else s_Mo_record_L44 600 (t_records 0) (0 : Int32) (t_recorded - (1 : Int32)) (0 : Int32) t_records)
def p_Mo_record (t_recorded : Int32) (t_thrown : Int32) (t_records : Nat → UInt64) : Prop := WP_Mo_record t_recorded t_thrown t_records (fun _ _ => True)
set_option maxRecDepth 100000 in
theorem v_Mo_record_L44 : ∀ (n : Nat) (y1 : UInt64) (y3 : Int32) (t_recorded : Int32) (t_thrown : Int32) (t_records : Nat → UInt64) (tgt : UInt64 × Int32 × Int32 × (Nat → UInt64)), s_Mo_record_L44 n y1 y3 t_recorded t_thrown t_records = tgt → WP_Mo_record_L44 n y1 y3 t_recorded t_thrown t_records (fun _ _ => True) → WP_Mo_record_L44 n y1 y3 t_recorded t_thrown t_records (fun r u => tgt = (r, u.1, u.2.1, u.2.2)) := by
  intro n
  induction n with
  | zero => intros; contradiction
  | succ n ih =>
    intro y1 y3 t_recorded t_thrown t_records tgt f0 hp
    unfold s_Mo_record_L44 at f0
    unfold WP_Mo_record_L44 at hp ⊢
    refine ⟨fun c5 => ?_, fun c5 => ?_⟩
    · have f1 := Eq.trans (Eq.symm (if_pos c5)) f0
      have g1 := hp.1 c5
      exact f1.symm
    · have f1 := Eq.trans (Eq.symm (if_neg c5)) f0
      have g1 := hp.2 c5
      refine ⟨g1.1, ?_⟩
      have g2 := g1.2
      refine ⟨g2.1, ?_⟩
      have g3 := g2.2
      exact ih y1 (y3 + (1 : Int32)) t_recorded t_thrown (vf_upd t_records y3.toNatClampNeg (t_records (y3 + (1 : Int32)).toNatClampNeg)) _ f1 g3
set_option maxRecDepth 100000 in
theorem v_Mo_record (t_recorded : Int32) (t_thrown : Int32) (t_records : Nat → UInt64) (hp : p_Mo_record t_recorded t_thrown t_records) : WP_Mo_record t_recorded t_thrown t_records (fun r u => s_Mo_record t_recorded t_thrown t_records = (r, u.1, u.2.1, u.2.2)) := by
  unfold p_Mo_record WP_Mo_record at hp
  obtain ⟨tgt, f0⟩ : ∃ tgt, s_Mo_record t_recorded t_thrown t_records = tgt := ⟨_, rfl⟩
  rw [f0]
  unfold s_Mo_record at f0
  unfold WP_Mo_record
  refine ⟨fun c1 => ?_, fun c1 => ?_⟩
  · have f1 := Eq.trans (Eq.symm (if_neg c1)) f0
    have g1 := hp.1 c1
    exact v_Mo_record_L44 600 (t_records 0) (0 : Int32) (t_recorded - (1 : Int32)) (0 : Int32) t_records _ f1 g1
  · have f1 := Eq.trans (Eq.symm (if_pos c1)) f0
    have g1 := hp.2 c1
    exact f1.symm
theorem c_Mo_record (l : Launch) (D : va_G) (K : Nat → ClassId) (q_t : Nat) (q_t_text : Nat) (q_t_code : Nat) (q_t_site : Nat) (q_t_condition : Nat) (q_t_actions : Nat) (q_t_kind : Nat) (q_t_target : Nat) (q_t_first : Nat) (q_t_second : Nat) (q_t_failures : Nat) (q_t_met : Nat) (q_t_there : Nat) (q_t_on : Nat) (q_t_compared : Nat) (q_t_globals : Nat) (q_t_own : Nat) (q_t_records : Nat) (q_t_pile : Nat) (q_t_handed : Nat) (q_t_keys : Nat) (q_t_key : Nat) (q_t_count : Nat) (q_t_bins : Nat) (q_t_operator : Nat) (q_t_starts : Nat) (q_t_sum : Nat) (q_t_least : Nat) (q_t_greatest : Nat) (t_newSite : Int32) (t_newCondition : Int32) (t_newActions : Int32) (t_size : Int32) (t_place : Int32) (t_pos : Int32) (t_at : Int32) (t_operators : Int32) (t_recorded : Int32) (t_lost : Int32) (t_dropped : Int32) (t_firings : Int32) (t_time : Int32) (t_thread : Int32) (t_thrown : Int32) (t_failed : Int32) (t_records : Nat → UInt64) (hp : p_Mo_record t_recorded t_thrown t_records) : zCd l y_Mo_record wy_Mo_record rm_Mo_record D zcl (zT K) [.ref q_t] (w_Mo_record K q_t q_t_text q_t_code q_t_site q_t_condition q_t_actions q_t_kind q_t_target q_t_first q_t_second q_t_failures q_t_met q_t_there q_t_on q_t_compared q_t_globals q_t_own q_t_records q_t_pile q_t_handed q_t_keys q_t_key q_t_count q_t_bins q_t_operator q_t_starts q_t_sum q_t_least q_t_greatest t_newSite t_newCondition t_newActions t_size t_place t_pos t_at t_operators t_lost t_dropped t_firings t_time t_thread t_failed (t_recorded, t_thrown, t_records)) (w_Mo_record K q_t q_t_text q_t_code q_t_site q_t_condition q_t_actions q_t_kind q_t_target q_t_first q_t_second q_t_failures q_t_met q_t_there q_t_on q_t_compared q_t_globals q_t_own q_t_records q_t_pile q_t_handed q_t_keys q_t_key q_t_count q_t_bins q_t_operator q_t_starts q_t_sum q_t_least q_t_greatest t_newSite t_newCondition t_newActions t_size t_place t_pos t_at t_operators t_lost t_dropped t_firings t_time t_thread t_failed) (fun r u => s_Mo_record t_recorded t_thrown t_records = (r, u.1, u.2.1, u.2.2)) 0 0 := cw_Mo_record l D K q_t q_t_text q_t_code q_t_site q_t_condition q_t_actions q_t_kind q_t_target q_t_first q_t_second q_t_failures q_t_met q_t_there q_t_on q_t_compared q_t_globals q_t_own q_t_records q_t_pile q_t_handed q_t_keys q_t_key q_t_count q_t_bins q_t_operator q_t_starts q_t_sum q_t_least q_t_greatest t_newSite t_newCondition t_newActions t_size t_place t_pos t_at t_operators t_recorded t_lost t_dropped t_firings t_time t_thread t_thrown t_failed t_records (v_Mo_record t_recorded t_thrown t_records hp)
-- RuleTracerModel.count(I)I: reads ['t.size', 't.place', 't.recorded', 't.lost', 't.dropped', 't.firings', 't.thrown', 't.there', 't.failures', 't.met', 't.keys', 't.on'], changes ['t.thrown']
abbrev w_Mo_count (K : Nat → ClassId) (q_t : Nat) (q_t_text : Nat) (q_t_code : Nat) (q_t_site : Nat) (q_t_condition : Nat) (q_t_actions : Nat) (q_t_kind : Nat) (q_t_target : Nat) (q_t_first : Nat) (q_t_second : Nat) (q_t_failures : Nat) (q_t_met : Nat) (q_t_there : Nat) (q_t_on : Nat) (q_t_compared : Nat) (q_t_globals : Nat) (q_t_own : Nat) (q_t_records : Nat) (q_t_pile : Nat) (q_t_handed : Nat) (q_t_keys : Nat) (q_t_key : Nat) (q_t_count : Nat) (q_t_bins : Nat) (q_t_operator : Nat) (q_t_starts : Nat) (q_t_sum : Nat) (q_t_least : Nat) (q_t_greatest : Nat) (t_newSite : Int32) (t_newCondition : Int32) (t_newActions : Int32) (t_size : Int32) (t_place : Int32) (t_pos : Int32) (t_at : Int32) (t_operators : Int32) (t_recorded : Int32) (t_lost : Int32) (t_dropped : Int32) (t_firings : Int32) (t_time : Int32) (t_thread : Int32) (t_failed : Int32) (t_there : Nat → Int32) (t_failures : Nat → Int32) (t_met : Nat → Int32) (t_keys : Nat → Int32) (t_on : Nat → Int32) (u : Int32) : va_W := [zo 6 q_t [.ref q_t_text, .ref q_t_code, .ref q_t_site, .ref q_t_condition, .ref q_t_actions, .ref q_t_kind, .ref q_t_target, .ref q_t_first, .ref q_t_second, .ref q_t_failures, .ref q_t_met, .ref q_t_there, .ref q_t_on, .ref q_t_compared, .ref q_t_globals, .ref q_t_own, .ref q_t_records, .ref q_t_pile, .ref q_t_handed, .ref q_t_keys, .ref q_t_key, .ref q_t_count, .ref q_t_bins, .ref q_t_operator, .ref q_t_starts, .ref q_t_sum, .ref q_t_least, .ref q_t_greatest, .int t_newSite, .int t_newCondition, .int t_newActions, .int t_size, .int t_place, .int t_pos, .int t_at, .int t_operators, .int t_recorded, .int t_lost, .int t_dropped, .int t_firings, .int t_time, .int t_thread, .int u, .int t_failed], zaZ K q_t_there 6 t_there, zaI K q_t_failures 6 t_failures, zaI K q_t_met 6 t_met, zaI K q_t_keys 3 t_keys, zaZ K q_t_on 6 t_on]
abbrev rm_Mo_count : Room := { frames := 1, cells := 0, slots := 0, locals := 22 }
abbrev wy_Mo_count : List Cond := .code y_Mo_count b_Mo_count 4 (some .int) :: zWT
def WP_Mo_count_L9 : Nat → Int32 → Int32 → Int32 → Int32 → Int32 → Int32 → Int32 → Int32 → Int32 → Int32 → (Nat → Int32) → (Nat → Int32) → (Nat → Int32) → (Nat → Int32) → (Nat → Int32) → (Int32 → Int32 → Prop) → Prop
  | 0, _, _, _, _, _, _, _, _, _, _, _, _, _, _, _, _ => False
  | n + 1, y1, y2, y3, t_size, t_place, t_recorded, t_lost, t_dropped, t_firings, t_thrown, t_there, t_failures, t_met, t_keys, t_on, Q => (((6 : Int32) ≤ y3) → (∀ (r3 : Int32), s_Mo_in y1 (20 : Int32) (25 : Int32) = r3 → ((r3 = 0) → (∀ (r9 : Int32), s_Mo_in y1 (30 : Int32) (35 : Int32) = r9 → ((r9 = 0) → ((y1 = (0 : Int32)) → Q t_place t_thrown) ∧ ((¬ y1 = (0 : Int32)) → ((y1 = (1 : Int32)) → Q t_size t_thrown) ∧ ((¬ y1 = (1 : Int32)) → ((y1 = (2 : Int32)) → Q y2 t_thrown) ∧ ((¬ y1 = (2 : Int32)) → ((y1 = (3 : Int32)) → p_Mo_rulesOn t_there t_on ∧ (∀ (r23 : Int32), s_Mo_rulesOn t_there t_on = r23 → Q r23 t_thrown)) ∧ ((¬ y1 = (3 : Int32)) → ((y1 = (4 : Int32)) → Q t_recorded t_thrown) ∧ ((¬ y1 = (4 : Int32)) → ((y1 = (5 : Int32)) → Q t_lost t_thrown) ∧ ((¬ y1 = (5 : Int32)) → ((y1 = (6 : Int32)) → Q t_dropped t_thrown) ∧ ((¬ y1 = (6 : Int32)) → ((y1 = (7 : Int32)) → Q t_firings t_thrown) ∧ ((¬ y1 = (7 : Int32)) → ((y1 = (8 : Int32)) → vp_in (y1 - (8 : Int32)) 3 ∧ Q (t_keys (y1 - (8 : Int32)).toNatClampNeg) t_thrown) ∧ ((¬ y1 = (8 : Int32)) → ((y1 = (9 : Int32)) → vp_in (y1 - (8 : Int32)) 3 ∧ Q (t_keys (y1 - (8 : Int32)).toNatClampNeg) t_thrown) ∧ ((¬ y1 = (9 : Int32)) → ((y1 = (10 : Int32)) → vp_in (y1 - (8 : Int32)) 3 ∧ Q (t_keys (y1 - (8 : Int32)).toNatClampNeg) t_thrown) ∧ ((¬ y1 = (10 : Int32)) → Q (-2 : Int32) t_thrown)))))))))))) ∧ ((¬ r9 = 0) → vp_in (y1 - (30 : Int32)) 6 ∧ (((t_there (y1 - (30 : Int32)).toNatClampNeg) = 0) → Q (-1 : Int32) t_thrown) ∧ ((¬ (t_there (y1 - (30 : Int32)).toNatClampNeg) = 0) → vp_in (y1 - (30 : Int32)) 6 ∧ Q (t_met (y1 - (30 : Int32)).toNatClampNeg) t_thrown)))) ∧ ((¬ r3 = 0) → vp_in (y1 - (20 : Int32)) 6 ∧ (((t_there (y1 - (20 : Int32)).toNatClampNeg) = 0) → Q (-1 : Int32) t_thrown) ∧ ((¬ (t_there (y1 - (20 : Int32)).toNatClampNeg) = 0) → vp_in (y1 - (20 : Int32)) 6 ∧ Q (t_failures (y1 - (20 : Int32)).toNatClampNeg) t_thrown)))) ∧ ((¬ (6 : Int32) ≤ y3) → vp_in y3 6 ∧ (((t_there y3.toNatClampNeg) = 0) → WP_Mo_count_L9 n y1 y2 (y3 + (1 : Int32)) t_size t_place t_recorded t_lost t_dropped t_firings t_thrown t_there t_failures t_met t_keys t_on Q) ∧ ((¬ (t_there y3.toNatClampNeg) = 0) → WP_Mo_count_L9 n y1 (y2 + (1 : Int32)) (y3 + (1 : Int32)) t_size t_place t_recorded t_lost t_dropped t_firings t_thrown t_there t_failures t_met t_keys t_on Q))
def WP_Mo_count (t_size : Int32) (t_place : Int32) (t_recorded : Int32) (t_lost : Int32) (t_dropped : Int32) (t_firings : Int32) (t_thrown : Int32) (t_there : Nat → Int32) (t_failures : Nat → Int32) (t_met : Nat → Int32) (t_keys : Nat → Int32) (t_on : Nat → Int32) (x1 : Int32) (Q : Int32 → Int32 → Prop) : Prop := WP_Mo_count_L9 600 x1 (0 : Int32) (0 : Int32) t_size t_place t_recorded t_lost t_dropped t_firings (0 : Int32) t_there t_failures t_met t_keys t_on Q
set_option maxHeartbeats 4000000 in
set_option maxRecDepth 100000 in
theorem lw_Mo_count_L9 {p : Program} {e : Env} {s : State} {m : MethodId} {args : Array Value} {below : List Frame} {meth : Method} {c : Code} {A : Nat → Prop} (l : Launch) (D : va_G) (K : Nat → ClassId) (q_t : Nat) (q_t_text : Nat) (q_t_code : Nat) (q_t_site : Nat) (q_t_condition : Nat) (q_t_actions : Nat) (q_t_kind : Nat) (q_t_target : Nat) (q_t_first : Nat) (q_t_second : Nat) (q_t_failures : Nat) (q_t_met : Nat) (q_t_there : Nat) (q_t_on : Nat) (q_t_compared : Nat) (q_t_globals : Nat) (q_t_own : Nat) (q_t_records : Nat) (q_t_pile : Nat) (q_t_handed : Nat) (q_t_keys : Nat) (q_t_key : Nat) (q_t_count : Nat) (q_t_bins : Nat) (q_t_operator : Nat) (q_t_starts : Nat) (q_t_sum : Nat) (q_t_least : Nat) (q_t_greatest : Nat) (t_newSite : Int32) (t_newCondition : Int32) (t_newActions : Int32) (t_size : Int32) (t_place : Int32) (t_pos : Int32) (t_at : Int32) (t_operators : Int32) (t_recorded : Int32) (t_lost : Int32) (t_dropped : Int32) (t_firings : Int32) (t_time : Int32) (t_thread : Int32) (t_failed : Int32) (t_there : Nat → Int32) (t_failures : Nat → Int32) (t_met : Nat → Int32) (t_keys : Nat → Int32) (t_on : Nat → Int32) {Q : Int32 → Int32 → Prop} (C : zCx p s m args c b_Mo_count 4 R_Mo zWT D zcl (zT K) A) (hr : meth.sig.returnType = (some .int)) (hlk : meth.locks = false) : ∀ (n : Nat) (y1 : Int32) (y2 : Int32) (y3 : Int32) (t_thrown : Int32), WP_Mo_count_L9 n y1 y2 y3 t_size t_place t_recorded t_lost t_dropped t_firings t_thrown t_there t_failures t_met t_keys t_on Q → zW p l e (headSpec wy_Mo_count rm_Mo_count).room s m args below meth c D zcl A 4 0 0 (MQ below (va_Qi Q (zB D zcl (zT K) (w_Mo_count K q_t q_t_text q_t_code q_t_site q_t_condition q_t_actions q_t_kind q_t_target q_t_first q_t_second q_t_failures q_t_met q_t_there q_t_on q_t_compared q_t_globals q_t_own q_t_records q_t_pile q_t_handed q_t_keys q_t_key q_t_count q_t_bins q_t_operator q_t_starts q_t_sum q_t_least q_t_greatest t_newSite t_newCondition t_newActions t_size t_place t_pos t_at t_operators t_recorded t_lost t_dropped t_firings t_time t_thread t_failed t_there t_failures t_met t_keys t_on) A) A) args s 0 0 A) [(0, .ref q_t), (1, .int y1), (2, .int y2), (3, .int y3)] [zo 6 q_t [.ref q_t_text, .ref q_t_code, .ref q_t_site, .ref q_t_condition, .ref q_t_actions, .ref q_t_kind, .ref q_t_target, .ref q_t_first, .ref q_t_second, .ref q_t_failures, .ref q_t_met, .ref q_t_there, .ref q_t_on, .ref q_t_compared, .ref q_t_globals, .ref q_t_own, .ref q_t_records, .ref q_t_pile, .ref q_t_handed, .ref q_t_keys, .ref q_t_key, .ref q_t_count, .ref q_t_bins, .ref q_t_operator, .ref q_t_starts, .ref q_t_sum, .ref q_t_least, .ref q_t_greatest, .int t_newSite, .int t_newCondition, .int t_newActions, .int t_size, .int t_place, .int t_pos, .int t_at, .int t_operators, .int t_recorded, .int t_lost, .int t_dropped, .int t_firings, .int t_time, .int t_thread, .int t_thrown, .int t_failed], zaZ K q_t_there 6 t_there, zaI K q_t_failures 6 t_failures, zaI K q_t_met 6 t_met, zaI K q_t_keys 3 t_keys, zaZ K q_t_on 6 t_on] 9 [] := by
  intro n
  induction n with
  | zero => intros; contradiction
  | succ n ih =>
    intro y1 y2 y3 t_thrown hS0
    refine z_iload_n C d_Mo_count_9 rfl 3 rfl ?_
    refine z_bipush (v := (6 : Int32)) C d_Mo_count_10 (by decide) ?_
    refine z_icmp_ge (tgt := 33) C d_Mo_count_12 (by decide) (fun c1 => ?_) (fun c1 => ?_)
    · have hS2 := hS0.1 c1
      refine z_iload_n C d_Mo_count_33 rfl 1 rfl ?_
      refine z_bipush (v := (20 : Int32)) C d_Mo_count_34 (by decide) ?_
      refine z_bipush (v := (25 : Int32)) C d_Mo_count_36 (by decide) ?_
      refine z_callSi (As := [.int y1, .int (20 : Int32), .int (25 : Int32)]) (st := []) (wr := [zo 6 q_t [.ref q_t_text, .ref q_t_code, .ref q_t_site, .ref q_t_condition, .ref q_t_actions, .ref q_t_kind, .ref q_t_target, .ref q_t_first, .ref q_t_second, .ref q_t_failures, .ref q_t_met, .ref q_t_there, .ref q_t_on, .ref q_t_compared, .ref q_t_globals, .ref q_t_own, .ref q_t_records, .ref q_t_pile, .ref q_t_handed, .ref q_t_keys, .ref q_t_key, .ref q_t_count, .ref q_t_bins, .ref q_t_operator, .ref q_t_starts, .ref q_t_sum, .ref q_t_least, .ref q_t_greatest, .int t_newSite, .int t_newCondition, .int t_newActions, .int t_size, .int t_place, .int t_pos, .int t_at, .int t_operators, .int t_recorded, .int t_lost, .int t_dropped, .int t_firings, .int t_time, .int t_thread, .int t_thrown, .int t_failed], zaZ K q_t_there 6 t_there, zaI K q_t_failures 6 t_failures, zaI K q_t_met 6 t_met, zaI K q_t_keys 3 t_keys, zaZ K q_t_on 6 t_on]) (wj := fun u => [zo 6 q_t [.ref q_t_text, .ref q_t_code, .ref q_t_site, .ref q_t_condition, .ref q_t_actions, .ref q_t_kind, .ref q_t_target, .ref q_t_first, .ref q_t_second, .ref q_t_failures, .ref q_t_met, .ref q_t_there, .ref q_t_on, .ref q_t_compared, .ref q_t_globals, .ref q_t_own, .ref q_t_records, .ref q_t_pile, .ref q_t_handed, .ref q_t_keys, .ref q_t_key, .ref q_t_count, .ref q_t_bins, .ref q_t_operator, .ref q_t_starts, .ref q_t_sum, .ref q_t_least, .ref q_t_greatest, .int t_newSite, .int t_newCondition, .int t_newActions, .int t_size, .int t_place, .int t_pos, .int t_at, .int t_operators, .int t_recorded, .int t_lost, .int t_dropped, .int t_firings, .int t_time, .int t_thread, .int t_thrown, .int t_failed], zaZ K q_t_there 6 t_there, zaI K q_t_failures 6 t_failures, zaI K q_t_met 6 t_met, zaI K q_t_keys 3 t_keys, zaZ K q_t_on 6 t_on]) C (c_Mo_in l D K y1 (20 : Int32) (25 : Int32)) (cwS 3 C.2.2.2.2.1 (z_gS wl_Mo_103 ws_Mo_in wz_Mo wk_Mo_in) rfl rfl rfl (by decide +kernel) ⟨Nat.le_of_ble_eq_true rfl, Nat.le_of_ble_eq_true rfl⟩) [] [0, 1, 2, 3, 4, 5] [0, 1, 2, 3, 4, 5] rfl rfl rfl rfl (by decide) (fun _ => rfl) rfl rfl rfl (Nat.le_of_ble_eq_true rfl) d_Mo_count_38 ⟨Nat.le_of_ble_eq_true rfl, Nat.le_of_ble_eq_true rfl⟩ (fun r3 u4 e5 => ?_)
      have hS6 := hS2 r3 e5
      refine z_if_eq (tgt := 70) C d_Mo_count_41 (by decide) (fun c7 => ?_) (fun c7 => ?_)
      · have hS8 := hS6.1 c7
        refine z_iload_n C d_Mo_count_70 rfl 1 rfl ?_
        refine z_bipush (v := (30 : Int32)) C d_Mo_count_71 (by decide) ?_
        refine z_bipush (v := (35 : Int32)) C d_Mo_count_73 (by decide) ?_
        refine z_callSi (As := [.int y1, .int (30 : Int32), .int (35 : Int32)]) (st := []) (wr := [zo 6 q_t [.ref q_t_text, .ref q_t_code, .ref q_t_site, .ref q_t_condition, .ref q_t_actions, .ref q_t_kind, .ref q_t_target, .ref q_t_first, .ref q_t_second, .ref q_t_failures, .ref q_t_met, .ref q_t_there, .ref q_t_on, .ref q_t_compared, .ref q_t_globals, .ref q_t_own, .ref q_t_records, .ref q_t_pile, .ref q_t_handed, .ref q_t_keys, .ref q_t_key, .ref q_t_count, .ref q_t_bins, .ref q_t_operator, .ref q_t_starts, .ref q_t_sum, .ref q_t_least, .ref q_t_greatest, .int t_newSite, .int t_newCondition, .int t_newActions, .int t_size, .int t_place, .int t_pos, .int t_at, .int t_operators, .int t_recorded, .int t_lost, .int t_dropped, .int t_firings, .int t_time, .int t_thread, .int t_thrown, .int t_failed], zaZ K q_t_there 6 t_there, zaI K q_t_failures 6 t_failures, zaI K q_t_met 6 t_met, zaI K q_t_keys 3 t_keys, zaZ K q_t_on 6 t_on]) (wj := fun u => [zo 6 q_t [.ref q_t_text, .ref q_t_code, .ref q_t_site, .ref q_t_condition, .ref q_t_actions, .ref q_t_kind, .ref q_t_target, .ref q_t_first, .ref q_t_second, .ref q_t_failures, .ref q_t_met, .ref q_t_there, .ref q_t_on, .ref q_t_compared, .ref q_t_globals, .ref q_t_own, .ref q_t_records, .ref q_t_pile, .ref q_t_handed, .ref q_t_keys, .ref q_t_key, .ref q_t_count, .ref q_t_bins, .ref q_t_operator, .ref q_t_starts, .ref q_t_sum, .ref q_t_least, .ref q_t_greatest, .int t_newSite, .int t_newCondition, .int t_newActions, .int t_size, .int t_place, .int t_pos, .int t_at, .int t_operators, .int t_recorded, .int t_lost, .int t_dropped, .int t_firings, .int t_time, .int t_thread, .int t_thrown, .int t_failed], zaZ K q_t_there 6 t_there, zaI K q_t_failures 6 t_failures, zaI K q_t_met 6 t_met, zaI K q_t_keys 3 t_keys, zaZ K q_t_on 6 t_on]) C (c_Mo_in l D K y1 (30 : Int32) (35 : Int32)) (cwS 3 C.2.2.2.2.1 (z_gS wl_Mo_103 ws_Mo_in wz_Mo wk_Mo_in) rfl rfl rfl (by decide +kernel) ⟨Nat.le_of_ble_eq_true rfl, Nat.le_of_ble_eq_true rfl⟩) [] [0, 1, 2, 3, 4, 5] [0, 1, 2, 3, 4, 5] rfl rfl rfl rfl (by decide) (fun _ => rfl) rfl rfl rfl (Nat.le_of_ble_eq_true rfl) d_Mo_count_75 ⟨Nat.le_of_ble_eq_true rfl, Nat.le_of_ble_eq_true rfl⟩ (fun r9 u10 e11 => ?_)
        have hS12 := hS8 r9 e11
        refine z_if_eq (tgt := 107) C d_Mo_count_78 (by decide) (fun c13 => ?_) (fun c13 => ?_)
        · have hS14 := hS12.1 c13
          refine z_iload_n C d_Mo_count_107 rfl 1 rfl ?_
          by_cases c15_0 : y1 = (0 : Int32)
          · refine z_tableIn (tgt := 168) C d_Mo_count_108 (by rw [c15_0]; decide) (by rw [c15_0]; decide) (by rw [c15_0]; rfl) (by decide) ?_
            have hS16 := hS14.1 c15_0
            refine z_aload_n C d_Mo_count_168 rfl 0 rfl ?_
            refine z_get C 0 rfl rfl in_Mo 32 (by decide) rfl wf_Mo_96 rfl d_Mo_count_169 ?_
            exact z_iret C hr hlk t_thrown rfl hS16 d_Mo_count_172
          have hS17 := hS14.2 c15_0
          by_cases c15_1 : y1 = (1 : Int32)
          · refine z_tableIn (tgt := 173) C d_Mo_count_108 (by rw [c15_1]; decide) (by rw [c15_1]; decide) (by rw [c15_1]; rfl) (by decide) ?_
            have hS18 := hS17.1 c15_1
            refine z_aload_n C d_Mo_count_173 rfl 0 rfl ?_
            refine z_get C 0 rfl rfl in_Mo 31 (by decide) rfl wf_Mo_111 rfl d_Mo_count_174 ?_
            exact z_iret C hr hlk t_thrown rfl hS18 d_Mo_count_177
          have hS19 := hS17.2 c15_1
          by_cases c15_2 : y1 = (2 : Int32)
          · refine z_tableIn (tgt := 178) C d_Mo_count_108 (by rw [c15_2]; decide) (by rw [c15_2]; decide) (by rw [c15_2]; rfl) (by decide) ?_
            have hS20 := hS19.1 c15_2
            refine z_iload_n C d_Mo_count_178 rfl 2 rfl ?_
            exact z_iret C hr hlk t_thrown rfl hS20 d_Mo_count_179
          have hS21 := hS19.2 c15_2
          by_cases c15_3 : y1 = (3 : Int32)
          · refine z_tableIn (tgt := 180) C d_Mo_count_108 (by rw [c15_3]; decide) (by rw [c15_3]; decide) (by rw [c15_3]; rfl) (by decide) ?_
            have hS22 := hS21.1 c15_3
            refine z_aload_n C d_Mo_count_180 rfl 0 rfl ?_
            refine z_callVi (As := []) (b := q_t) (st := []) (wr := [zaI K q_t_failures 6 t_failures, zaI K q_t_met 6 t_met, zaI K q_t_keys 3 t_keys]) (wj := fun u => [zo 6 q_t [.ref q_t_text, .ref q_t_code, .ref q_t_site, .ref q_t_condition, .ref q_t_actions, .ref q_t_kind, .ref q_t_target, .ref q_t_first, .ref q_t_second, .ref q_t_failures, .ref q_t_met, .ref q_t_there, .ref q_t_on, .ref q_t_compared, .ref q_t_globals, .ref q_t_own, .ref q_t_records, .ref q_t_pile, .ref q_t_handed, .ref q_t_keys, .ref q_t_key, .ref q_t_count, .ref q_t_bins, .ref q_t_operator, .ref q_t_starts, .ref q_t_sum, .ref q_t_least, .ref q_t_greatest, .int t_newSite, .int t_newCondition, .int t_newActions, .int t_size, .int t_place, .int t_pos, .int t_at, .int t_operators, .int t_recorded, .int t_lost, .int t_dropped, .int t_firings, .int t_time, .int t_thread, .int t_thrown, .int t_failed], zaZ K q_t_there 6 t_there, zaI K q_t_failures 6 t_failures, zaI K q_t_met 6 t_met, zaI K q_t_keys 3 t_keys, zaZ K q_t_on 6 t_on]) C 0 rfl rfl (c_Mo_rulesOn l D K q_t q_t_text q_t_code q_t_site q_t_condition q_t_actions q_t_kind q_t_target q_t_first q_t_second q_t_failures q_t_met q_t_there q_t_on q_t_compared q_t_globals q_t_own q_t_records q_t_pile q_t_handed q_t_keys q_t_key q_t_count q_t_bins q_t_operator q_t_starts q_t_sum q_t_least q_t_greatest t_newSite t_newCondition t_newActions t_size t_place t_pos t_at t_operators t_recorded t_lost t_dropped t_firings t_time t_thread t_thrown t_failed t_there t_on hS22.1) (cwV 0 C.2.2.2.2.1 (z_gV wl_Mo_237 wi_Mo_rulesOn wv_Mo_rulesOn wz_Mo wk_Mo_rulesOn) rfl rfl rfl (by decide +kernel) ⟨Nat.le_of_ble_eq_true rfl, Nat.le_of_ble_eq_true rfl⟩) [0, 1, 5] [2, 3, 4] [3, 4, 0, 1, 2, 5] rfl rfl rfl rfl (by decide) (fun _ => rfl) rfl rfl rfl (Nat.le_of_ble_eq_true rfl) d_Mo_count_181 ⟨Nat.le_of_ble_eq_true rfl, Nat.le_of_ble_eq_true rfl⟩ (fun r23 u24 e25 => ?_)
            have hS26 := hS22.2 r23 e25
            exact z_iret C hr hlk t_thrown rfl hS26 d_Mo_count_184
          have hS27 := hS21.2 c15_3
          by_cases c15_4 : y1 = (4 : Int32)
          · refine z_tableIn (tgt := 185) C d_Mo_count_108 (by rw [c15_4]; decide) (by rw [c15_4]; decide) (by rw [c15_4]; rfl) (by decide) ?_
            have hS28 := hS27.1 c15_4
            refine z_aload_n C d_Mo_count_185 rfl 0 rfl ?_
            refine z_get C 0 rfl rfl in_Mo 36 (by decide) rfl wf_Mo_202 rfl d_Mo_count_186 ?_
            exact z_iret C hr hlk t_thrown rfl hS28 d_Mo_count_189
          have hS29 := hS27.2 c15_4
          by_cases c15_5 : y1 = (5 : Int32)
          · refine z_tableIn (tgt := 190) C d_Mo_count_108 (by rw [c15_5]; decide) (by rw [c15_5]; decide) (by rw [c15_5]; rfl) (by decide) ?_
            have hS30 := hS29.1 c15_5
            refine z_aload_n C d_Mo_count_190 rfl 0 rfl ?_
            refine z_get C 0 rfl rfl in_Mo 37 (by decide) rfl wf_Mo_205 rfl d_Mo_count_191 ?_
            exact z_iret C hr hlk t_thrown rfl hS30 d_Mo_count_194
          have hS31 := hS29.2 c15_5
          by_cases c15_6 : y1 = (6 : Int32)
          · refine z_tableIn (tgt := 195) C d_Mo_count_108 (by rw [c15_6]; decide) (by rw [c15_6]; decide) (by rw [c15_6]; rfl) (by decide) ?_
            have hS32 := hS31.1 c15_6
            refine z_aload_n C d_Mo_count_195 rfl 0 rfl ?_
            refine z_get C 0 rfl rfl in_Mo 38 (by decide) rfl wf_Mo_195 rfl d_Mo_count_196 ?_
            exact z_iret C hr hlk t_thrown rfl hS32 d_Mo_count_199
          have hS33 := hS31.2 c15_6
          by_cases c15_7 : y1 = (7 : Int32)
          · refine z_tableIn (tgt := 200) C d_Mo_count_108 (by rw [c15_7]; decide) (by rw [c15_7]; decide) (by rw [c15_7]; rfl) (by decide) ?_
            have hS34 := hS33.1 c15_7
            refine z_aload_n C d_Mo_count_200 rfl 0 rfl ?_
            refine z_get C 0 rfl rfl in_Mo 39 (by decide) rfl wf_Mo_230 rfl d_Mo_count_201 ?_
            exact z_iret C hr hlk t_thrown rfl hS34 d_Mo_count_204
          have hS35 := hS33.2 c15_7
          by_cases c15_8 : y1 = (8 : Int32)
          · refine z_tableIn (tgt := 205) C d_Mo_count_108 (by rw [c15_8]; decide) (by rw [c15_8]; decide) (by rw [c15_8]; rfl) (by decide) ?_
            have hS36 := hS35.1 c15_8
            refine z_aload_n C d_Mo_count_205 rfl 0 rfl ?_
            refine z_get C 0 rfl rfl in_Mo 19 (by decide) rfl wf_Mo_69 rfl d_Mo_count_206 ?_
            refine z_iload_n C d_Mo_count_209 rfl 1 rfl ?_
            refine z_bipush (v := (8 : Int32)) C d_Mo_count_210 (by decide) ?_
            refine z_isub C d_Mo_count_212 ?_
            refine z_iald C 4 0 rfl rfl hS36.1 d_Mo_count_213 ?_
            have hS37 := hS36.2
            exact z_iret C hr hlk t_thrown rfl hS37 d_Mo_count_214
          have hS38 := hS35.2 c15_8
          by_cases c15_9 : y1 = (9 : Int32)
          · refine z_tableIn (tgt := 205) C d_Mo_count_108 (by rw [c15_9]; decide) (by rw [c15_9]; decide) (by rw [c15_9]; rfl) (by decide) ?_
            have hS39 := hS38.1 c15_9
            refine z_aload_n C d_Mo_count_205 rfl 0 rfl ?_
            refine z_get C 0 rfl rfl in_Mo 19 (by decide) rfl wf_Mo_69 rfl d_Mo_count_206 ?_
            refine z_iload_n C d_Mo_count_209 rfl 1 rfl ?_
            refine z_bipush (v := (8 : Int32)) C d_Mo_count_210 (by decide) ?_
            refine z_isub C d_Mo_count_212 ?_
            refine z_iald C 4 0 rfl rfl hS39.1 d_Mo_count_213 ?_
            have hS40 := hS39.2
            exact z_iret C hr hlk t_thrown rfl hS40 d_Mo_count_214
          have hS41 := hS38.2 c15_9
          by_cases c15_10 : y1 = (10 : Int32)
          · refine z_tableIn (tgt := 205) C d_Mo_count_108 (by rw [c15_10]; decide) (by rw [c15_10]; decide) (by rw [c15_10]; rfl) (by decide) ?_
            have hS42 := hS41.1 c15_10
            refine z_aload_n C d_Mo_count_205 rfl 0 rfl ?_
            refine z_get C 0 rfl rfl in_Mo 19 (by decide) rfl wf_Mo_69 rfl d_Mo_count_206 ?_
            refine z_iload_n C d_Mo_count_209 rfl 1 rfl ?_
            refine z_bipush (v := (8 : Int32)) C d_Mo_count_210 (by decide) ?_
            refine z_isub C d_Mo_count_212 ?_
            refine z_iald C 4 0 rfl rfl hS42.1 d_Mo_count_213 ?_
            have hS43 := hS42.2
            exact z_iret C hr hlk t_thrown rfl hS43 d_Mo_count_214
          have hS44 := hS41.2 c15_10
          refine z_tableOut (tgt := 215) C d_Mo_count_108 (zto_0_10 c15_0 c15_1 c15_2 c15_3 c15_4 c15_5 c15_6 c15_7 c15_8 c15_9 c15_10) (by decide) ?_
          refine z_bipush (v := (-2 : Int32)) C d_Mo_count_215 (by decide) ?_
          exact z_iret C hr hlk t_thrown rfl hS44 d_Mo_count_217
        · have hS14 := hS12.2 c13
          refine z_aload_n C d_Mo_count_81 rfl 0 rfl ?_
          refine z_get C 0 rfl rfl in_Mo 11 (by decide) rfl wf_Mo_43 rfl d_Mo_count_82 ?_
          refine z_iload_n C d_Mo_count_85 rfl 1 rfl ?_
          refine z_bipush (v := (30 : Int32)) C d_Mo_count_86 (by decide) ?_
          refine z_isub C d_Mo_count_88 ?_
          refine z_zald C 1 4 rfl rfl hS14.1 d_Mo_count_89 ?_
          have hS45 := hS14.2
          refine z_if_eq (tgt := 105) C d_Mo_count_90 (by decide) (fun c46 => ?_) (fun c46 => ?_)
          · have hS47 := hS45.1 c46
            refine z_iconst (v := (-1 : Int32)) C d_Mo_count_105 (by decide) ?_
            exact z_iret C hr hlk t_thrown rfl hS47 d_Mo_count_106
          · have hS47 := hS45.2 c46
            refine z_aload_n C d_Mo_count_93 rfl 0 rfl ?_
            refine z_get C 0 rfl rfl in_Mo 10 (by decide) rfl wf_Mo_40 rfl d_Mo_count_94 ?_
            refine z_iload_n C d_Mo_count_97 rfl 1 rfl ?_
            refine z_bipush (v := (30 : Int32)) C d_Mo_count_98 (by decide) ?_
            refine z_isub C d_Mo_count_100 ?_
            refine z_iald C 3 0 rfl rfl hS47.1 d_Mo_count_101 ?_
            have hS48 := hS47.2
            refine z_goto (tgt := 106) C d_Mo_count_102 (by decide) ?_
            exact z_iret C hr hlk t_thrown rfl hS48 d_Mo_count_106
      · have hS8 := hS6.2 c7
        refine z_aload_n C d_Mo_count_44 rfl 0 rfl ?_
        refine z_get C 0 rfl rfl in_Mo 11 (by decide) rfl wf_Mo_43 rfl d_Mo_count_45 ?_
        refine z_iload_n C d_Mo_count_48 rfl 1 rfl ?_
        refine z_bipush (v := (20 : Int32)) C d_Mo_count_49 (by decide) ?_
        refine z_isub C d_Mo_count_51 ?_
        refine z_zald C 1 4 rfl rfl hS8.1 d_Mo_count_52 ?_
        have hS49 := hS8.2
        refine z_if_eq (tgt := 68) C d_Mo_count_53 (by decide) (fun c50 => ?_) (fun c50 => ?_)
        · have hS51 := hS49.1 c50
          refine z_iconst (v := (-1 : Int32)) C d_Mo_count_68 (by decide) ?_
          exact z_iret C hr hlk t_thrown rfl hS51 d_Mo_count_69
        · have hS51 := hS49.2 c50
          refine z_aload_n C d_Mo_count_56 rfl 0 rfl ?_
          refine z_get C 0 rfl rfl in_Mo 9 (by decide) rfl wf_Mo_37 rfl d_Mo_count_57 ?_
          refine z_iload_n C d_Mo_count_60 rfl 1 rfl ?_
          refine z_bipush (v := (20 : Int32)) C d_Mo_count_61 (by decide) ?_
          refine z_isub C d_Mo_count_63 ?_
          refine z_iald C 2 0 rfl rfl hS51.1 d_Mo_count_64 ?_
          have hS52 := hS51.2
          refine z_goto (tgt := 69) C d_Mo_count_65 (by decide) ?_
          exact z_iret C hr hlk t_thrown rfl hS52 d_Mo_count_69
    · have hS2 := hS0.2 c1
      refine z_aload_n C d_Mo_count_15 rfl 0 rfl ?_
      refine z_get C 0 rfl rfl in_Mo 11 (by decide) rfl wf_Mo_43 rfl d_Mo_count_16 ?_
      refine z_iload_n C d_Mo_count_19 rfl 3 rfl ?_
      refine z_zald C 1 4 rfl rfl hS2.1 d_Mo_count_20 ?_
      have hS53 := hS2.2
      refine z_if_eq (tgt := 27) C d_Mo_count_21 (by decide) (fun c54 => ?_) (fun c54 => ?_)
      · have hS55 := hS53.1 c54
        refine z_iinc (j := 3) (v := y3 + (1 : Int32)) (lv' := [(3, .int (y3 + (1 : Int32))), (0, .ref q_t), (1, .int y1), (2, .int y2)]) C d_Mo_count_27 rfl rfl (by decide) rfl ?_
        refine z_goto (tgt := 9) C d_Mo_count_30 (by decide) ?_
        refine z_lpick (lv' := [(0, .ref q_t), (1, .int y1), (2, .int y2), (3, .int (y3 + (1 : Int32)))]) [1, 2, 3, 0] rfl ?_
        exact ih y1 y2 (y3 + (1 : Int32)) t_thrown hS55
      · have hS55 := hS53.2 c54
        refine z_iinc (j := 2) (v := y2 + (1 : Int32)) (lv' := [(2, .int (y2 + (1 : Int32))), (0, .ref q_t), (1, .int y1), (3, .int y3)]) C d_Mo_count_24 rfl rfl (by decide) rfl ?_
        refine z_iinc (j := 3) (v := y3 + (1 : Int32)) (lv' := [(3, .int (y3 + (1 : Int32))), (2, .int (y2 + (1 : Int32))), (0, .ref q_t), (1, .int y1)]) C d_Mo_count_27 rfl rfl (by decide) rfl ?_
        refine z_goto (tgt := 9) C d_Mo_count_30 (by decide) ?_
        refine z_lpick (lv' := [(0, .ref q_t), (1, .int y1), (2, .int (y2 + (1 : Int32))), (3, .int (y3 + (1 : Int32)))]) [2, 3, 1, 0] rfl ?_
        exact ih y1 (y2 + (1 : Int32)) (y3 + (1 : Int32)) t_thrown hS55
set_option maxHeartbeats 4000000 in
set_option maxRecDepth 100000 in
theorem cw_Mo_count (l : Launch) (D : va_G) (K : Nat → ClassId) (q_t : Nat) (q_t_text : Nat) (q_t_code : Nat) (q_t_site : Nat) (q_t_condition : Nat) (q_t_actions : Nat) (q_t_kind : Nat) (q_t_target : Nat) (q_t_first : Nat) (q_t_second : Nat) (q_t_failures : Nat) (q_t_met : Nat) (q_t_there : Nat) (q_t_on : Nat) (q_t_compared : Nat) (q_t_globals : Nat) (q_t_own : Nat) (q_t_records : Nat) (q_t_pile : Nat) (q_t_handed : Nat) (q_t_keys : Nat) (q_t_key : Nat) (q_t_count : Nat) (q_t_bins : Nat) (q_t_operator : Nat) (q_t_starts : Nat) (q_t_sum : Nat) (q_t_least : Nat) (q_t_greatest : Nat) (t_newSite : Int32) (t_newCondition : Int32) (t_newActions : Int32) (t_size : Int32) (t_place : Int32) (t_pos : Int32) (t_at : Int32) (t_operators : Int32) (t_recorded : Int32) (t_lost : Int32) (t_dropped : Int32) (t_firings : Int32) (t_time : Int32) (t_thread : Int32) (t_thrown : Int32) (t_failed : Int32) (t_there : Nat → Int32) (t_failures : Nat → Int32) (t_met : Nat → Int32) (t_keys : Nat → Int32) (t_on : Nat → Int32) (x1 : Int32) {Q : Int32 → Int32 → Prop} (hS0 : WP_Mo_count t_size t_place t_recorded t_lost t_dropped t_firings t_thrown t_there t_failures t_met t_keys t_on x1 Q) : zCi l y_Mo_count wy_Mo_count rm_Mo_count D zcl (zT K) [.ref q_t, .int x1] (w_Mo_count K q_t q_t_text q_t_code q_t_site q_t_condition q_t_actions q_t_kind q_t_target q_t_first q_t_second q_t_failures q_t_met q_t_there q_t_on q_t_compared q_t_globals q_t_own q_t_records q_t_pile q_t_handed q_t_keys q_t_key q_t_count q_t_bins q_t_operator q_t_starts q_t_sum q_t_least q_t_greatest t_newSite t_newCondition t_newActions t_size t_place t_pos t_at t_operators t_recorded t_lost t_dropped t_firings t_time t_thread t_failed t_there t_failures t_met t_keys t_on t_thrown) (w_Mo_count K q_t q_t_text q_t_code q_t_site q_t_condition q_t_actions q_t_kind q_t_target q_t_first q_t_second q_t_failures q_t_met q_t_there q_t_on q_t_compared q_t_globals q_t_own q_t_records q_t_pile q_t_handed q_t_keys q_t_key q_t_count q_t_bins q_t_operator q_t_starts q_t_sum q_t_least q_t_greatest t_newSite t_newCondition t_newActions t_size t_place t_pos t_at t_operators t_recorded t_lost t_dropped t_firings t_time t_thread t_failed t_there t_failures t_met t_keys t_on) Q 0 0 := by
  refine z_meti (cc := b_Mo_count) (maxL := 4) (ret := (some .int)) (by decide) rfl (Nat.le_of_ble_eq_true rfl) ?_
  intro p e s m args below meth c A C hr hlk hnm
  refine z_lpick (lv' := [(0, .ref q_t), (1, .int x1)]) [0, 1] rfl ?_
  refine z_weq (ws' := [zo 6 q_t [.ref q_t_text, .ref q_t_code, .ref q_t_site, .ref q_t_condition, .ref q_t_actions, .ref q_t_kind, .ref q_t_target, .ref q_t_first, .ref q_t_second, .ref q_t_failures, .ref q_t_met, .ref q_t_there, .ref q_t_on, .ref q_t_compared, .ref q_t_globals, .ref q_t_own, .ref q_t_records, .ref q_t_pile, .ref q_t_handed, .ref q_t_keys, .ref q_t_key, .ref q_t_count, .ref q_t_bins, .ref q_t_operator, .ref q_t_starts, .ref q_t_sum, .ref q_t_least, .ref q_t_greatest, .int t_newSite, .int t_newCondition, .int t_newActions, .int t_size, .int t_place, .int t_pos, .int t_at, .int t_operators, .int t_recorded, .int t_lost, .int t_dropped, .int t_firings, .int t_time, .int t_thread, .int t_thrown, .int t_failed], zaZ K q_t_there 6 t_there, zaI K q_t_failures 6 t_failures, zaI K q_t_met 6 t_met, zaI K q_t_keys 3 t_keys, zaZ K q_t_on 6 t_on]) rfl ?_
  refine z_aload_n C d_Mo_count_0 rfl 0 rfl ?_
  refine z_iconst (v := (0 : Int32)) C d_Mo_count_1 (by decide) ?_
  refine z_put (ty := .int) (ws' := [zo 6 q_t [.ref q_t_text, .ref q_t_code, .ref q_t_site, .ref q_t_condition, .ref q_t_actions, .ref q_t_kind, .ref q_t_target, .ref q_t_first, .ref q_t_second, .ref q_t_failures, .ref q_t_met, .ref q_t_there, .ref q_t_on, .ref q_t_compared, .ref q_t_globals, .ref q_t_own, .ref q_t_records, .ref q_t_pile, .ref q_t_handed, .ref q_t_keys, .ref q_t_key, .ref q_t_count, .ref q_t_bins, .ref q_t_operator, .ref q_t_starts, .ref q_t_sum, .ref q_t_least, .ref q_t_greatest, .int t_newSite, .int t_newCondition, .int t_newActions, .int t_size, .int t_place, .int t_pos, .int t_at, .int t_operators, .int t_recorded, .int t_lost, .int t_dropped, .int t_firings, .int t_time, .int t_thread, .int (0 : Int32), .int t_failed], zaZ K q_t_there 6 t_there, zaI K q_t_failures 6 t_failures, zaI K q_t_met 6 t_met, zaI K q_t_keys 3 t_keys, zaZ K q_t_on 6 t_on]) C ty_Mo to_Mo nm_Mo 0 rfl rfl in_Mo 42 (by decide) rfl wf_Mo_100 rfl rfl rfl rfl (Nat.le_of_ble_eq_true rfl) rfl d_Mo_count_2 ?_
  refine z_iconst (v := (0 : Int32)) C d_Mo_count_5 (by decide) ?_
  refine z_istore_n (lv' := [(2, .int (0 : Int32)), (0, .ref q_t), (1, .int x1)]) C d_Mo_count_6 rfl (by decide) rfl ?_
  refine z_iconst (v := (0 : Int32)) C d_Mo_count_7 (by decide) ?_
  refine z_istore_n (lv' := [(3, .int (0 : Int32)), (2, .int (0 : Int32)), (0, .ref q_t), (1, .int x1)]) C d_Mo_count_8 rfl (by decide) rfl ?_
  refine z_lpick (lv' := [(0, .ref q_t), (1, .int x1), (2, .int (0 : Int32)), (3, .int (0 : Int32))]) [2, 3, 1, 0] rfl ?_
  exact lw_Mo_count_L9 l D K q_t q_t_text q_t_code q_t_site q_t_condition q_t_actions q_t_kind q_t_target q_t_first q_t_second q_t_failures q_t_met q_t_there q_t_on q_t_compared q_t_globals q_t_own q_t_records q_t_pile q_t_handed q_t_keys q_t_key q_t_count q_t_bins q_t_operator q_t_starts q_t_sum q_t_least q_t_greatest t_newSite t_newCondition t_newActions t_size t_place t_pos t_at t_operators t_recorded t_lost t_dropped t_firings t_time t_thread t_failed t_there t_failures t_met t_keys t_on C hr hlk 600 x1 (0 : Int32) (0 : Int32) (0 : Int32) hS0
def s_Mo_count_L9 : Nat → Int32 → Int32 → Int32 → Int32 → Int32 → Int32 → Int32 → Int32 → Int32 → Int32 → (Nat → Int32) → (Nat → Int32) → (Nat → Int32) → (Nat → Int32) → (Nat → Int32) → Int32 × Int32
  | 0, _, _, _, _, _, _, _, _, _, t_thrown, _, _, _, _, _ => (0, t_thrown)
  | n + 1, y1, y2, y3, t_size, t_place, t_recorded, t_lost, t_dropped, t_firings, t_thrown, t_there, t_failures, t_met, t_keys, t_on => (if (6 : Int32) ≤ y3 then (zl1 (s_Mo_in y1 (20 : Int32) (25 : Int32)) fun r3 => (if r3 = 0 then (zl1 (s_Mo_in y1 (30 : Int32) (35 : Int32)) fun r9 => (if r9 = 0 then (if y1 = (0 : Int32) then (t_place, t_thrown) else (if y1 = (1 : Int32) then (t_size, t_thrown) else (if y1 = (2 : Int32) then (y2, t_thrown) else (if y1 = (3 : Int32) then (zl1 (s_Mo_rulesOn t_there t_on) fun r23 => (r23, t_thrown)) else (if y1 = (4 : Int32) then (t_recorded, t_thrown) else (if y1 = (5 : Int32) then (t_lost, t_thrown) else (if y1 = (6 : Int32) then (t_dropped, t_thrown) else (if y1 = (7 : Int32) then (t_firings, t_thrown) else (if y1 = (8 : Int32) then (t_keys (y1 - (8 : Int32)).toNatClampNeg, t_thrown) else (if y1 = (9 : Int32) then (t_keys (y1 - (8 : Int32)).toNatClampNeg, t_thrown) else (if y1 = (10 : Int32) then (t_keys (y1 - (8 : Int32)).toNatClampNeg, t_thrown) else ((-2 : Int32), t_thrown)))))))))))) else (if (t_there (y1 - (30 : Int32)).toNatClampNeg) = 0 then ((-1 : Int32), t_thrown) else (t_met (y1 - (30 : Int32)).toNatClampNeg, t_thrown)))) else (if (t_there (y1 - (20 : Int32)).toNatClampNeg) = 0 then ((-1 : Int32), t_thrown) else (t_failures (y1 - (20 : Int32)).toNatClampNeg, t_thrown)))) else (if (t_there y3.toNatClampNeg) = 0 then s_Mo_count_L9 n y1 y2 (y3 + (1 : Int32)) t_size t_place t_recorded t_lost t_dropped t_firings t_thrown t_there t_failures t_met t_keys t_on else s_Mo_count_L9 n y1 (y2 + (1 : Int32)) (y3 + (1 : Int32)) t_size t_place t_recorded t_lost t_dropped t_firings t_thrown t_there t_failures t_met t_keys t_on))
def s_Mo_count (t_size : Int32) (t_place : Int32) (t_recorded : Int32) (t_lost : Int32) (t_dropped : Int32) (t_firings : Int32) (t_thrown : Int32) (t_there : Nat → Int32) (t_failures : Nat → Int32) (t_met : Nat → Int32) (t_keys : Nat → Int32) (t_on : Nat → Int32) (x1 : Int32) : Int32 × Int32 := s_Mo_count_L9 600 x1 (0 : Int32) (0 : Int32) t_size t_place t_recorded t_lost t_dropped t_firings (0 : Int32) t_there t_failures t_met t_keys t_on
def p_Mo_count (t_size : Int32) (t_place : Int32) (t_recorded : Int32) (t_lost : Int32) (t_dropped : Int32) (t_firings : Int32) (t_thrown : Int32) (t_there : Nat → Int32) (t_failures : Nat → Int32) (t_met : Nat → Int32) (t_keys : Nat → Int32) (t_on : Nat → Int32) (x1 : Int32) : Prop := WP_Mo_count t_size t_place t_recorded t_lost t_dropped t_firings t_thrown t_there t_failures t_met t_keys t_on x1 (fun _ _ => True)
set_option maxRecDepth 100000 in
theorem v_Mo_count_L9 : ∀ (n : Nat) (y1 : Int32) (y2 : Int32) (y3 : Int32) (t_size : Int32) (t_place : Int32) (t_recorded : Int32) (t_lost : Int32) (t_dropped : Int32) (t_firings : Int32) (t_thrown : Int32) (t_there : Nat → Int32) (t_failures : Nat → Int32) (t_met : Nat → Int32) (t_keys : Nat → Int32) (t_on : Nat → Int32) (tgt : Int32 × Int32), s_Mo_count_L9 n y1 y2 y3 t_size t_place t_recorded t_lost t_dropped t_firings t_thrown t_there t_failures t_met t_keys t_on = tgt → WP_Mo_count_L9 n y1 y2 y3 t_size t_place t_recorded t_lost t_dropped t_firings t_thrown t_there t_failures t_met t_keys t_on (fun _ _ => True) → WP_Mo_count_L9 n y1 y2 y3 t_size t_place t_recorded t_lost t_dropped t_firings t_thrown t_there t_failures t_met t_keys t_on (fun r u => tgt = (r, u)) := by
  intro n
  induction n with
  | zero => intros; contradiction
  | succ n ih =>
    intro y1 y2 y3 t_size t_place t_recorded t_lost t_dropped t_firings t_thrown t_there t_failures t_met t_keys t_on tgt f0 hp
    unfold s_Mo_count_L9 at f0
    unfold WP_Mo_count_L9 at hp ⊢
    refine ⟨fun c1 => ?_, fun c1 => ?_⟩
    · have f1 := Eq.trans (Eq.symm (if_pos c1)) f0
      have g1 := hp.1 c1
      intro r3 e5
      have g2 := g1 r3 e5
      have f2 := Eq.trans (Eq.symm (zl1_eq e5)) f1
      refine ⟨fun c7 => ?_, fun c7 => ?_⟩
      · have f3 := Eq.trans (Eq.symm (if_pos c7)) f2
        have g3 := g2.1 c7
        intro r9 e11
        have g4 := g3 r9 e11
        have f4 := Eq.trans (Eq.symm (zl1_eq e11)) f3
        refine ⟨fun c13 => ?_, fun c13 => ?_⟩
        · have f5 := Eq.trans (Eq.symm (if_pos c13)) f4
          have g5 := g4.1 c13
          refine ⟨fun c15_0 => ?_, fun c15_0 => ?_⟩
          · have f6 := Eq.trans (Eq.symm (if_pos c15_0)) f5
            have g6 := g5.1 c15_0
            exact f6.symm
          · have f6 := Eq.trans (Eq.symm (if_neg c15_0)) f5
            have g6 := g5.2 c15_0
            refine ⟨fun c15_1 => ?_, fun c15_1 => ?_⟩
            · have f7 := Eq.trans (Eq.symm (if_pos c15_1)) f6
              have g7 := g6.1 c15_1
              exact f7.symm
            · have f7 := Eq.trans (Eq.symm (if_neg c15_1)) f6
              have g7 := g6.2 c15_1
              refine ⟨fun c15_2 => ?_, fun c15_2 => ?_⟩
              · have f8 := Eq.trans (Eq.symm (if_pos c15_2)) f7
                have g8 := g7.1 c15_2
                exact f8.symm
              · have f8 := Eq.trans (Eq.symm (if_neg c15_2)) f7
                have g8 := g7.2 c15_2
                refine ⟨fun c15_3 => ?_, fun c15_3 => ?_⟩
                · have f9 := Eq.trans (Eq.symm (if_pos c15_3)) f8
                  have g9 := g8.1 c15_3
                  refine ⟨g9.1, ?_⟩
                  have g11 := g9.2
                  intro r23 e25
                  have g10 := g11 r23 e25
                  have f10 := Eq.trans (Eq.symm (zl1_eq e25)) f9
                  exact f10.symm
                · have f9 := Eq.trans (Eq.symm (if_neg c15_3)) f8
                  have g9 := g8.2 c15_3
                  refine ⟨fun c15_4 => ?_, fun c15_4 => ?_⟩
                  · have f12 := Eq.trans (Eq.symm (if_pos c15_4)) f9
                    have g12 := g9.1 c15_4
                    exact f12.symm
                  · have f12 := Eq.trans (Eq.symm (if_neg c15_4)) f9
                    have g12 := g9.2 c15_4
                    refine ⟨fun c15_5 => ?_, fun c15_5 => ?_⟩
                    · have f13 := Eq.trans (Eq.symm (if_pos c15_5)) f12
                      have g13 := g12.1 c15_5
                      exact f13.symm
                    · have f13 := Eq.trans (Eq.symm (if_neg c15_5)) f12
                      have g13 := g12.2 c15_5
                      refine ⟨fun c15_6 => ?_, fun c15_6 => ?_⟩
                      · have f14 := Eq.trans (Eq.symm (if_pos c15_6)) f13
                        have g14 := g13.1 c15_6
                        exact f14.symm
                      · have f14 := Eq.trans (Eq.symm (if_neg c15_6)) f13
                        have g14 := g13.2 c15_6
                        refine ⟨fun c15_7 => ?_, fun c15_7 => ?_⟩
                        · have f15 := Eq.trans (Eq.symm (if_pos c15_7)) f14
                          have g15 := g14.1 c15_7
                          exact f15.symm
                        · have f15 := Eq.trans (Eq.symm (if_neg c15_7)) f14
                          have g15 := g14.2 c15_7
                          refine ⟨fun c15_8 => ?_, fun c15_8 => ?_⟩
                          · have f16 := Eq.trans (Eq.symm (if_pos c15_8)) f15
                            have g16 := g15.1 c15_8
                            refine ⟨g16.1, ?_⟩
                            have g17 := g16.2
                            exact f16.symm
                          · have f16 := Eq.trans (Eq.symm (if_neg c15_8)) f15
                            have g16 := g15.2 c15_8
                            refine ⟨fun c15_9 => ?_, fun c15_9 => ?_⟩
                            · have f18 := Eq.trans (Eq.symm (if_pos c15_9)) f16
                              have g18 := g16.1 c15_9
                              refine ⟨g18.1, ?_⟩
                              have g19 := g18.2
                              exact f18.symm
                            · have f18 := Eq.trans (Eq.symm (if_neg c15_9)) f16
                              have g18 := g16.2 c15_9
                              refine ⟨fun c15_10 => ?_, fun c15_10 => ?_⟩
                              · have f20 := Eq.trans (Eq.symm (if_pos c15_10)) f18
                                have g20 := g18.1 c15_10
                                refine ⟨g20.1, ?_⟩
                                have g21 := g20.2
                                exact f20.symm
                              · have f20 := Eq.trans (Eq.symm (if_neg c15_10)) f18
                                have g20 := g18.2 c15_10
                                exact f20.symm
        · have f5 := Eq.trans (Eq.symm (if_neg c13)) f4
          have g5 := g4.2 c13
          refine ⟨g5.1, ?_⟩
          have g22 := g5.2
          refine ⟨fun c46 => ?_, fun c46 => ?_⟩
          · have f23 := Eq.trans (Eq.symm (if_pos c46)) f5
            have g23 := g22.1 c46
            exact f23.symm
          · have f23 := Eq.trans (Eq.symm (if_neg c46)) f5
            have g23 := g22.2 c46
            refine ⟨g23.1, ?_⟩
            have g24 := g23.2
            exact f23.symm
      · have f3 := Eq.trans (Eq.symm (if_neg c7)) f2
        have g3 := g2.2 c7
        refine ⟨g3.1, ?_⟩
        have g25 := g3.2
        refine ⟨fun c50 => ?_, fun c50 => ?_⟩
        · have f26 := Eq.trans (Eq.symm (if_pos c50)) f3
          have g26 := g25.1 c50
          exact f26.symm
        · have f26 := Eq.trans (Eq.symm (if_neg c50)) f3
          have g26 := g25.2 c50
          refine ⟨g26.1, ?_⟩
          have g27 := g26.2
          exact f26.symm
    · have f1 := Eq.trans (Eq.symm (if_neg c1)) f0
      have g1 := hp.2 c1
      refine ⟨g1.1, ?_⟩
      have g28 := g1.2
      refine ⟨fun c54 => ?_, fun c54 => ?_⟩
      · have f29 := Eq.trans (Eq.symm (if_pos c54)) f1
        have g29 := g28.1 c54
        exact ih y1 y2 (y3 + (1 : Int32)) t_size t_place t_recorded t_lost t_dropped t_firings t_thrown t_there t_failures t_met t_keys t_on _ f29 g29
      · have f29 := Eq.trans (Eq.symm (if_neg c54)) f1
        have g29 := g28.2 c54
        exact ih y1 (y2 + (1 : Int32)) (y3 + (1 : Int32)) t_size t_place t_recorded t_lost t_dropped t_firings t_thrown t_there t_failures t_met t_keys t_on _ f29 g29
set_option maxRecDepth 100000 in
theorem v_Mo_count (t_size : Int32) (t_place : Int32) (t_recorded : Int32) (t_lost : Int32) (t_dropped : Int32) (t_firings : Int32) (t_thrown : Int32) (t_there : Nat → Int32) (t_failures : Nat → Int32) (t_met : Nat → Int32) (t_keys : Nat → Int32) (t_on : Nat → Int32) (x1 : Int32) (hp : p_Mo_count t_size t_place t_recorded t_lost t_dropped t_firings t_thrown t_there t_failures t_met t_keys t_on x1) : WP_Mo_count t_size t_place t_recorded t_lost t_dropped t_firings t_thrown t_there t_failures t_met t_keys t_on x1 (fun r u => s_Mo_count t_size t_place t_recorded t_lost t_dropped t_firings t_thrown t_there t_failures t_met t_keys t_on x1 = (r, u)) := by
  unfold p_Mo_count WP_Mo_count at hp
  obtain ⟨tgt, f0⟩ : ∃ tgt, s_Mo_count t_size t_place t_recorded t_lost t_dropped t_firings t_thrown t_there t_failures t_met t_keys t_on x1 = tgt := ⟨_, rfl⟩
  rw [f0]
  unfold s_Mo_count at f0
  unfold WP_Mo_count
  exact v_Mo_count_L9 600 x1 (0 : Int32) (0 : Int32) t_size t_place t_recorded t_lost t_dropped t_firings (0 : Int32) t_there t_failures t_met t_keys t_on _ f0 hp
theorem c_Mo_count (l : Launch) (D : va_G) (K : Nat → ClassId) (q_t : Nat) (q_t_text : Nat) (q_t_code : Nat) (q_t_site : Nat) (q_t_condition : Nat) (q_t_actions : Nat) (q_t_kind : Nat) (q_t_target : Nat) (q_t_first : Nat) (q_t_second : Nat) (q_t_failures : Nat) (q_t_met : Nat) (q_t_there : Nat) (q_t_on : Nat) (q_t_compared : Nat) (q_t_globals : Nat) (q_t_own : Nat) (q_t_records : Nat) (q_t_pile : Nat) (q_t_handed : Nat) (q_t_keys : Nat) (q_t_key : Nat) (q_t_count : Nat) (q_t_bins : Nat) (q_t_operator : Nat) (q_t_starts : Nat) (q_t_sum : Nat) (q_t_least : Nat) (q_t_greatest : Nat) (t_newSite : Int32) (t_newCondition : Int32) (t_newActions : Int32) (t_size : Int32) (t_place : Int32) (t_pos : Int32) (t_at : Int32) (t_operators : Int32) (t_recorded : Int32) (t_lost : Int32) (t_dropped : Int32) (t_firings : Int32) (t_time : Int32) (t_thread : Int32) (t_thrown : Int32) (t_failed : Int32) (t_there : Nat → Int32) (t_failures : Nat → Int32) (t_met : Nat → Int32) (t_keys : Nat → Int32) (t_on : Nat → Int32) (x1 : Int32) (hp : p_Mo_count t_size t_place t_recorded t_lost t_dropped t_firings t_thrown t_there t_failures t_met t_keys t_on x1) : zCi l y_Mo_count wy_Mo_count rm_Mo_count D zcl (zT K) [.ref q_t, .int x1] (w_Mo_count K q_t q_t_text q_t_code q_t_site q_t_condition q_t_actions q_t_kind q_t_target q_t_first q_t_second q_t_failures q_t_met q_t_there q_t_on q_t_compared q_t_globals q_t_own q_t_records q_t_pile q_t_handed q_t_keys q_t_key q_t_count q_t_bins q_t_operator q_t_starts q_t_sum q_t_least q_t_greatest t_newSite t_newCondition t_newActions t_size t_place t_pos t_at t_operators t_recorded t_lost t_dropped t_firings t_time t_thread t_failed t_there t_failures t_met t_keys t_on t_thrown) (w_Mo_count K q_t q_t_text q_t_code q_t_site q_t_condition q_t_actions q_t_kind q_t_target q_t_first q_t_second q_t_failures q_t_met q_t_there q_t_on q_t_compared q_t_globals q_t_own q_t_records q_t_pile q_t_handed q_t_keys q_t_key q_t_count q_t_bins q_t_operator q_t_starts q_t_sum q_t_least q_t_greatest t_newSite t_newCondition t_newActions t_size t_place t_pos t_at t_operators t_recorded t_lost t_dropped t_firings t_time t_thread t_failed t_there t_failures t_met t_keys t_on) (fun r u => s_Mo_count t_size t_place t_recorded t_lost t_dropped t_firings t_thrown t_there t_failures t_met t_keys t_on x1 = (r, u)) 0 0 := cw_Mo_count l D K q_t q_t_text q_t_code q_t_site q_t_condition q_t_actions q_t_kind q_t_target q_t_first q_t_second q_t_failures q_t_met q_t_there q_t_on q_t_compared q_t_globals q_t_own q_t_records q_t_pile q_t_handed q_t_keys q_t_key q_t_count q_t_bins q_t_operator q_t_starts q_t_sum q_t_least q_t_greatest t_newSite t_newCondition t_newActions t_size t_place t_pos t_at t_operators t_recorded t_lost t_dropped t_firings t_time t_thread t_thrown t_failed t_there t_failures t_met t_keys t_on x1 (v_Mo_count t_size t_place t_recorded t_lost t_dropped t_firings t_thrown t_there t_failures t_met t_keys t_on x1 hp)
