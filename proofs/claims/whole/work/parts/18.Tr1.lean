-- RuleTracer.rulesThere()I: reads ['t.rules[*].there'], changes []
abbrev w_Tr_rulesThere (K : Nat → ClassId) (q_t : Nat) (q_t_text : Nat) (q_t_rules : Nat) (q_t_runner : Nat) (q_t_rules_e : Nat → Nat) (q_t_rules_e_steps : Nat → Nat) (t_place : Int32) (t_firings : Int32) (t_rules_e_length : Nat → Int32) (t_rules_e_actions : Nat → Int32) (t_rules_e_site : Nat → Int32) (t_rules_e_exit : Nat → Int32) (t_rules_e_conditional : Nat → Int32) (t_rules_e_there : Nat → Int32) (t_rules_e_on : Nat → Int32) (t_rules_e_failures : Nat → Int32) (t_rules_e_meetings : Nat → Int32) (u : Unit) : va_W := [zo 5 q_t [.ref q_t_text, .ref q_t_rules, .ref q_t_runner, .int t_place, .int t_firings], zaR K 5 q_t_rules 6 (fun i => some (q_t_rules_e i)), zo 2 (q_t_rules_e 0) [.ref (q_t_rules_e_steps 0), .int (t_rules_e_length 0), .int (t_rules_e_actions 0), .int (t_rules_e_site 0), .int (t_rules_e_exit 0), .int (t_rules_e_conditional 0), .int (t_rules_e_there 0), .int (t_rules_e_on 0), .int (t_rules_e_failures 0), .int (t_rules_e_meetings 0)], zo 2 (q_t_rules_e 1) [.ref (q_t_rules_e_steps 1), .int (t_rules_e_length 1), .int (t_rules_e_actions 1), .int (t_rules_e_site 1), .int (t_rules_e_exit 1), .int (t_rules_e_conditional 1), .int (t_rules_e_there 1), .int (t_rules_e_on 1), .int (t_rules_e_failures 1), .int (t_rules_e_meetings 1)], zo 2 (q_t_rules_e 2) [.ref (q_t_rules_e_steps 2), .int (t_rules_e_length 2), .int (t_rules_e_actions 2), .int (t_rules_e_site 2), .int (t_rules_e_exit 2), .int (t_rules_e_conditional 2), .int (t_rules_e_there 2), .int (t_rules_e_on 2), .int (t_rules_e_failures 2), .int (t_rules_e_meetings 2)], zo 2 (q_t_rules_e 3) [.ref (q_t_rules_e_steps 3), .int (t_rules_e_length 3), .int (t_rules_e_actions 3), .int (t_rules_e_site 3), .int (t_rules_e_exit 3), .int (t_rules_e_conditional 3), .int (t_rules_e_there 3), .int (t_rules_e_on 3), .int (t_rules_e_failures 3), .int (t_rules_e_meetings 3)], zo 2 (q_t_rules_e 4) [.ref (q_t_rules_e_steps 4), .int (t_rules_e_length 4), .int (t_rules_e_actions 4), .int (t_rules_e_site 4), .int (t_rules_e_exit 4), .int (t_rules_e_conditional 4), .int (t_rules_e_there 4), .int (t_rules_e_on 4), .int (t_rules_e_failures 4), .int (t_rules_e_meetings 4)], zo 2 (q_t_rules_e 5) [.ref (q_t_rules_e_steps 5), .int (t_rules_e_length 5), .int (t_rules_e_actions 5), .int (t_rules_e_site 5), .int (t_rules_e_exit 5), .int (t_rules_e_conditional 5), .int (t_rules_e_there 5), .int (t_rules_e_on 5), .int (t_rules_e_failures 5), .int (t_rules_e_meetings 5)]]
abbrev rm_Tr_rulesThere : Room := { frames := 0, cells := 0, slots := 0, locals := 0 }
abbrev wy_Tr_rulesThere : List Cond := .code y_Tr_rulesThere b_Tr_rulesThere 3 (some .int) :: zWT
def WP_Tr_rulesThere_L4 : Nat → Int32 → Int32 → (Nat → Int32) → (Int32 → Unit → Prop) → Prop
  | 0, _, _, _, _ => False
  | n + 1, y1, y2, t_rules_e_there, Q => (((6 : Int32) ≤ y2) → Q y1 ()) ∧ ((¬ (6 : Int32) ≤ y2) → vp_in y2 6 ∧ (∀ j4 : Nat, y2 = nI j4 → j4 < 6 → (((t_rules_e_there j4) = 0) → WP_Tr_rulesThere_L4 n (y1 + (0 : Int32)) (y2 + (1 : Int32)) t_rules_e_there Q) ∧ ((¬ (t_rules_e_there j4) = 0) → WP_Tr_rulesThere_L4 n (y1 + (1 : Int32)) (y2 + (1 : Int32)) t_rules_e_there Q)))
def WP_Tr_rulesThere (t_rules_e_there : Nat → Int32) (Q : Int32 → Unit → Prop) : Prop := WP_Tr_rulesThere_L4 600 (0 : Int32) (0 : Int32) t_rules_e_there Q
set_option maxHeartbeats 4000000 in
set_option maxRecDepth 100000 in
theorem lw_Tr_rulesThere_L4 {p : Program} {e : Env} {s : State} {m : MethodId} {args : Array Value} {below : List Frame} {meth : Method} {c : Code} {A : Nat → Prop} (l : Launch) (D : va_G) (K : Nat → ClassId) (q_t : Nat) (q_t_text : Nat) (q_t_rules : Nat) (q_t_runner : Nat) (q_t_rules_e : Nat → Nat) (q_t_rules_e_steps : Nat → Nat) (t_place : Int32) (t_firings : Int32) (t_rules_e_length : Nat → Int32) (t_rules_e_actions : Nat → Int32) (t_rules_e_site : Nat → Int32) (t_rules_e_exit : Nat → Int32) (t_rules_e_conditional : Nat → Int32) (t_rules_e_there : Nat → Int32) (t_rules_e_on : Nat → Int32) (t_rules_e_failures : Nat → Int32) (t_rules_e_meetings : Nat → Int32) {Q : Int32 → Unit → Prop} (C : zCx p s m args c b_Tr_rulesThere 3 R_Tr zWT D zcl (zT K) A) (hr : meth.sig.returnType = (some .int)) (hlk : meth.locks = false) : ∀ (n : Nat) (y1 : Int32) (y2 : Int32), WP_Tr_rulesThere_L4 n y1 y2 t_rules_e_there Q → zW p l e (headSpec wy_Tr_rulesThere rm_Tr_rulesThere).room s m args below meth c D zcl A 3 0 0 (MQ below (va_Qi Q (zB D zcl (zT K) (w_Tr_rulesThere K q_t q_t_text q_t_rules q_t_runner q_t_rules_e q_t_rules_e_steps t_place t_firings t_rules_e_length t_rules_e_actions t_rules_e_site t_rules_e_exit t_rules_e_conditional t_rules_e_there t_rules_e_on t_rules_e_failures t_rules_e_meetings) A) A) args s 0 0 A) [(0, .ref q_t), (1, .int y1), (2, .int y2)] [zo 5 q_t [.ref q_t_text, .ref q_t_rules, .ref q_t_runner, .int t_place, .int t_firings], zaR K 5 q_t_rules 6 (fun i => some (q_t_rules_e i)), zo 2 (q_t_rules_e 0) [.ref (q_t_rules_e_steps 0), .int (t_rules_e_length 0), .int (t_rules_e_actions 0), .int (t_rules_e_site 0), .int (t_rules_e_exit 0), .int (t_rules_e_conditional 0), .int (t_rules_e_there 0), .int (t_rules_e_on 0), .int (t_rules_e_failures 0), .int (t_rules_e_meetings 0)], zo 2 (q_t_rules_e 1) [.ref (q_t_rules_e_steps 1), .int (t_rules_e_length 1), .int (t_rules_e_actions 1), .int (t_rules_e_site 1), .int (t_rules_e_exit 1), .int (t_rules_e_conditional 1), .int (t_rules_e_there 1), .int (t_rules_e_on 1), .int (t_rules_e_failures 1), .int (t_rules_e_meetings 1)], zo 2 (q_t_rules_e 2) [.ref (q_t_rules_e_steps 2), .int (t_rules_e_length 2), .int (t_rules_e_actions 2), .int (t_rules_e_site 2), .int (t_rules_e_exit 2), .int (t_rules_e_conditional 2), .int (t_rules_e_there 2), .int (t_rules_e_on 2), .int (t_rules_e_failures 2), .int (t_rules_e_meetings 2)], zo 2 (q_t_rules_e 3) [.ref (q_t_rules_e_steps 3), .int (t_rules_e_length 3), .int (t_rules_e_actions 3), .int (t_rules_e_site 3), .int (t_rules_e_exit 3), .int (t_rules_e_conditional 3), .int (t_rules_e_there 3), .int (t_rules_e_on 3), .int (t_rules_e_failures 3), .int (t_rules_e_meetings 3)], zo 2 (q_t_rules_e 4) [.ref (q_t_rules_e_steps 4), .int (t_rules_e_length 4), .int (t_rules_e_actions 4), .int (t_rules_e_site 4), .int (t_rules_e_exit 4), .int (t_rules_e_conditional 4), .int (t_rules_e_there 4), .int (t_rules_e_on 4), .int (t_rules_e_failures 4), .int (t_rules_e_meetings 4)], zo 2 (q_t_rules_e 5) [.ref (q_t_rules_e_steps 5), .int (t_rules_e_length 5), .int (t_rules_e_actions 5), .int (t_rules_e_site 5), .int (t_rules_e_exit 5), .int (t_rules_e_conditional 5), .int (t_rules_e_there 5), .int (t_rules_e_on 5), .int (t_rules_e_failures 5), .int (t_rules_e_meetings 5)]] 4 [] := by
  intro n
  induction n with
  | zero => intros; contradiction
  | succ n ih =>
    intro y1 y2 hS0
    refine z_iload_n C d_Tr_rulesThere_4 rfl 2 rfl ?_
    refine z_bipush (v := (6 : Int32)) C d_Tr_rulesThere_5 (by decide) ?_
    refine z_icmp_ge (tgt := 36) C d_Tr_rulesThere_7 (by decide) (fun c1 => ?_) (fun c1 => ?_)
    · have hS2 := hS0.1 c1
      refine z_iload_n C d_Tr_rulesThere_36 rfl 1 rfl ?_
      exact z_iret C hr hlk () rfl hS2 d_Tr_rulesThere_37
    · have hS2 := hS0.2 c1
      refine z_iload_n C d_Tr_rulesThere_10 rfl 1 rfl ?_
      refine z_aload_n C d_Tr_rulesThere_11 rfl 0 rfl ?_
      refine z_get C 0 rfl rfl in_Tr 1 (by decide) rfl wf_Tr_18 rfl d_Tr_rulesThere_12 ?_
      refine z_iload_n C d_Tr_rulesThere_15 rfl 2 rfl ?_
      rcases zix_6 hS2.1 with hj3 | hj3 | hj3 | hj3 | hj3 | hj3
      · have hS5 := hS2.2 0 hj3 (by decide)
        refine z_aldq (v := (q_t_rules_e 0)) C 1 5 rfl rfl hS2.1 (by rw [zix_cl hj3 (by decide)]) d_Tr_rulesThere_16 ?_
        refine z_get C 2 rfl rfl in_Ru 6 (by decide) rfl wf_Tr_82 rfl d_Tr_rulesThere_17 ?_
        refine z_if_eq (tgt := 27) C d_Tr_rulesThere_20 (by decide) (fun c6 => ?_) (fun c6 => ?_)
        · have hS7 := hS5.1 c6
          refine z_iconst (v := (0 : Int32)) C d_Tr_rulesThere_27 (by decide) ?_
          refine z_iadd C d_Tr_rulesThere_28 ?_
          refine z_istore_n (lv' := [(1, .int (y1 + (0 : Int32))), (0, .ref q_t), (2, .int y2)]) C d_Tr_rulesThere_29 rfl (by decide) rfl ?_
          refine z_iinc (j := 2) (v := y2 + (1 : Int32)) (lv' := [(2, .int (y2 + (1 : Int32))), (1, .int (y1 + (0 : Int32))), (0, .ref q_t)]) C d_Tr_rulesThere_30 rfl rfl (by decide) rfl ?_
          refine z_goto (tgt := 4) C d_Tr_rulesThere_33 (by decide) ?_
          refine z_lpick (lv' := [(0, .ref q_t), (1, .int (y1 + (0 : Int32))), (2, .int (y2 + (1 : Int32)))]) [2, 1, 0] rfl ?_
          exact ih (y1 + (0 : Int32)) (y2 + (1 : Int32)) hS7
        · have hS7 := hS5.2 c6
          refine z_iconst (v := (1 : Int32)) C d_Tr_rulesThere_23 (by decide) ?_
          refine z_goto (tgt := 28) C d_Tr_rulesThere_24 (by decide) ?_
          refine z_iadd C d_Tr_rulesThere_28 ?_
          refine z_istore_n (lv' := [(1, .int (y1 + (1 : Int32))), (0, .ref q_t), (2, .int y2)]) C d_Tr_rulesThere_29 rfl (by decide) rfl ?_
          refine z_iinc (j := 2) (v := y2 + (1 : Int32)) (lv' := [(2, .int (y2 + (1 : Int32))), (1, .int (y1 + (1 : Int32))), (0, .ref q_t)]) C d_Tr_rulesThere_30 rfl rfl (by decide) rfl ?_
          refine z_goto (tgt := 4) C d_Tr_rulesThere_33 (by decide) ?_
          refine z_lpick (lv' := [(0, .ref q_t), (1, .int (y1 + (1 : Int32))), (2, .int (y2 + (1 : Int32)))]) [2, 1, 0] rfl ?_
          exact ih (y1 + (1 : Int32)) (y2 + (1 : Int32)) hS7
      · have hS8 := hS2.2 1 hj3 (by decide)
        refine z_aldq (v := (q_t_rules_e 1)) C 1 5 rfl rfl hS2.1 (by rw [zix_cl hj3 (by decide)]) d_Tr_rulesThere_16 ?_
        refine z_get C 3 rfl rfl in_Ru 6 (by decide) rfl wf_Tr_82 rfl d_Tr_rulesThere_17 ?_
        refine z_if_eq (tgt := 27) C d_Tr_rulesThere_20 (by decide) (fun c9 => ?_) (fun c9 => ?_)
        · have hS10 := hS8.1 c9
          refine z_iconst (v := (0 : Int32)) C d_Tr_rulesThere_27 (by decide) ?_
          refine z_iadd C d_Tr_rulesThere_28 ?_
          refine z_istore_n (lv' := [(1, .int (y1 + (0 : Int32))), (0, .ref q_t), (2, .int y2)]) C d_Tr_rulesThere_29 rfl (by decide) rfl ?_
          refine z_iinc (j := 2) (v := y2 + (1 : Int32)) (lv' := [(2, .int (y2 + (1 : Int32))), (1, .int (y1 + (0 : Int32))), (0, .ref q_t)]) C d_Tr_rulesThere_30 rfl rfl (by decide) rfl ?_
          refine z_goto (tgt := 4) C d_Tr_rulesThere_33 (by decide) ?_
          refine z_lpick (lv' := [(0, .ref q_t), (1, .int (y1 + (0 : Int32))), (2, .int (y2 + (1 : Int32)))]) [2, 1, 0] rfl ?_
          exact ih (y1 + (0 : Int32)) (y2 + (1 : Int32)) hS10
        · have hS10 := hS8.2 c9
          refine z_iconst (v := (1 : Int32)) C d_Tr_rulesThere_23 (by decide) ?_
          refine z_goto (tgt := 28) C d_Tr_rulesThere_24 (by decide) ?_
          refine z_iadd C d_Tr_rulesThere_28 ?_
          refine z_istore_n (lv' := [(1, .int (y1 + (1 : Int32))), (0, .ref q_t), (2, .int y2)]) C d_Tr_rulesThere_29 rfl (by decide) rfl ?_
          refine z_iinc (j := 2) (v := y2 + (1 : Int32)) (lv' := [(2, .int (y2 + (1 : Int32))), (1, .int (y1 + (1 : Int32))), (0, .ref q_t)]) C d_Tr_rulesThere_30 rfl rfl (by decide) rfl ?_
          refine z_goto (tgt := 4) C d_Tr_rulesThere_33 (by decide) ?_
          refine z_lpick (lv' := [(0, .ref q_t), (1, .int (y1 + (1 : Int32))), (2, .int (y2 + (1 : Int32)))]) [2, 1, 0] rfl ?_
          exact ih (y1 + (1 : Int32)) (y2 + (1 : Int32)) hS10
      · have hS11 := hS2.2 2 hj3 (by decide)
        refine z_aldq (v := (q_t_rules_e 2)) C 1 5 rfl rfl hS2.1 (by rw [zix_cl hj3 (by decide)]) d_Tr_rulesThere_16 ?_
        refine z_get C 4 rfl rfl in_Ru 6 (by decide) rfl wf_Tr_82 rfl d_Tr_rulesThere_17 ?_
        refine z_if_eq (tgt := 27) C d_Tr_rulesThere_20 (by decide) (fun c12 => ?_) (fun c12 => ?_)
        · have hS13 := hS11.1 c12
          refine z_iconst (v := (0 : Int32)) C d_Tr_rulesThere_27 (by decide) ?_
          refine z_iadd C d_Tr_rulesThere_28 ?_
          refine z_istore_n (lv' := [(1, .int (y1 + (0 : Int32))), (0, .ref q_t), (2, .int y2)]) C d_Tr_rulesThere_29 rfl (by decide) rfl ?_
          refine z_iinc (j := 2) (v := y2 + (1 : Int32)) (lv' := [(2, .int (y2 + (1 : Int32))), (1, .int (y1 + (0 : Int32))), (0, .ref q_t)]) C d_Tr_rulesThere_30 rfl rfl (by decide) rfl ?_
          refine z_goto (tgt := 4) C d_Tr_rulesThere_33 (by decide) ?_
          refine z_lpick (lv' := [(0, .ref q_t), (1, .int (y1 + (0 : Int32))), (2, .int (y2 + (1 : Int32)))]) [2, 1, 0] rfl ?_
          exact ih (y1 + (0 : Int32)) (y2 + (1 : Int32)) hS13
        · have hS13 := hS11.2 c12
          refine z_iconst (v := (1 : Int32)) C d_Tr_rulesThere_23 (by decide) ?_
          refine z_goto (tgt := 28) C d_Tr_rulesThere_24 (by decide) ?_
          refine z_iadd C d_Tr_rulesThere_28 ?_
          refine z_istore_n (lv' := [(1, .int (y1 + (1 : Int32))), (0, .ref q_t), (2, .int y2)]) C d_Tr_rulesThere_29 rfl (by decide) rfl ?_
          refine z_iinc (j := 2) (v := y2 + (1 : Int32)) (lv' := [(2, .int (y2 + (1 : Int32))), (1, .int (y1 + (1 : Int32))), (0, .ref q_t)]) C d_Tr_rulesThere_30 rfl rfl (by decide) rfl ?_
          refine z_goto (tgt := 4) C d_Tr_rulesThere_33 (by decide) ?_
          refine z_lpick (lv' := [(0, .ref q_t), (1, .int (y1 + (1 : Int32))), (2, .int (y2 + (1 : Int32)))]) [2, 1, 0] rfl ?_
          exact ih (y1 + (1 : Int32)) (y2 + (1 : Int32)) hS13
      · have hS14 := hS2.2 3 hj3 (by decide)
        refine z_aldq (v := (q_t_rules_e 3)) C 1 5 rfl rfl hS2.1 (by rw [zix_cl hj3 (by decide)]) d_Tr_rulesThere_16 ?_
        refine z_get C 5 rfl rfl in_Ru 6 (by decide) rfl wf_Tr_82 rfl d_Tr_rulesThere_17 ?_
        refine z_if_eq (tgt := 27) C d_Tr_rulesThere_20 (by decide) (fun c15 => ?_) (fun c15 => ?_)
        · have hS16 := hS14.1 c15
          refine z_iconst (v := (0 : Int32)) C d_Tr_rulesThere_27 (by decide) ?_
          refine z_iadd C d_Tr_rulesThere_28 ?_
          refine z_istore_n (lv' := [(1, .int (y1 + (0 : Int32))), (0, .ref q_t), (2, .int y2)]) C d_Tr_rulesThere_29 rfl (by decide) rfl ?_
          refine z_iinc (j := 2) (v := y2 + (1 : Int32)) (lv' := [(2, .int (y2 + (1 : Int32))), (1, .int (y1 + (0 : Int32))), (0, .ref q_t)]) C d_Tr_rulesThere_30 rfl rfl (by decide) rfl ?_
          refine z_goto (tgt := 4) C d_Tr_rulesThere_33 (by decide) ?_
          refine z_lpick (lv' := [(0, .ref q_t), (1, .int (y1 + (0 : Int32))), (2, .int (y2 + (1 : Int32)))]) [2, 1, 0] rfl ?_
          exact ih (y1 + (0 : Int32)) (y2 + (1 : Int32)) hS16
        · have hS16 := hS14.2 c15
          refine z_iconst (v := (1 : Int32)) C d_Tr_rulesThere_23 (by decide) ?_
          refine z_goto (tgt := 28) C d_Tr_rulesThere_24 (by decide) ?_
          refine z_iadd C d_Tr_rulesThere_28 ?_
          refine z_istore_n (lv' := [(1, .int (y1 + (1 : Int32))), (0, .ref q_t), (2, .int y2)]) C d_Tr_rulesThere_29 rfl (by decide) rfl ?_
          refine z_iinc (j := 2) (v := y2 + (1 : Int32)) (lv' := [(2, .int (y2 + (1 : Int32))), (1, .int (y1 + (1 : Int32))), (0, .ref q_t)]) C d_Tr_rulesThere_30 rfl rfl (by decide) rfl ?_
          refine z_goto (tgt := 4) C d_Tr_rulesThere_33 (by decide) ?_
          refine z_lpick (lv' := [(0, .ref q_t), (1, .int (y1 + (1 : Int32))), (2, .int (y2 + (1 : Int32)))]) [2, 1, 0] rfl ?_
          exact ih (y1 + (1 : Int32)) (y2 + (1 : Int32)) hS16
      · have hS17 := hS2.2 4 hj3 (by decide)
        refine z_aldq (v := (q_t_rules_e 4)) C 1 5 rfl rfl hS2.1 (by rw [zix_cl hj3 (by decide)]) d_Tr_rulesThere_16 ?_
        refine z_get C 6 rfl rfl in_Ru 6 (by decide) rfl wf_Tr_82 rfl d_Tr_rulesThere_17 ?_
        refine z_if_eq (tgt := 27) C d_Tr_rulesThere_20 (by decide) (fun c18 => ?_) (fun c18 => ?_)
        · have hS19 := hS17.1 c18
          refine z_iconst (v := (0 : Int32)) C d_Tr_rulesThere_27 (by decide) ?_
          refine z_iadd C d_Tr_rulesThere_28 ?_
          refine z_istore_n (lv' := [(1, .int (y1 + (0 : Int32))), (0, .ref q_t), (2, .int y2)]) C d_Tr_rulesThere_29 rfl (by decide) rfl ?_
          refine z_iinc (j := 2) (v := y2 + (1 : Int32)) (lv' := [(2, .int (y2 + (1 : Int32))), (1, .int (y1 + (0 : Int32))), (0, .ref q_t)]) C d_Tr_rulesThere_30 rfl rfl (by decide) rfl ?_
          refine z_goto (tgt := 4) C d_Tr_rulesThere_33 (by decide) ?_
          refine z_lpick (lv' := [(0, .ref q_t), (1, .int (y1 + (0 : Int32))), (2, .int (y2 + (1 : Int32)))]) [2, 1, 0] rfl ?_
          exact ih (y1 + (0 : Int32)) (y2 + (1 : Int32)) hS19
        · have hS19 := hS17.2 c18
          refine z_iconst (v := (1 : Int32)) C d_Tr_rulesThere_23 (by decide) ?_
          refine z_goto (tgt := 28) C d_Tr_rulesThere_24 (by decide) ?_
          refine z_iadd C d_Tr_rulesThere_28 ?_
          refine z_istore_n (lv' := [(1, .int (y1 + (1 : Int32))), (0, .ref q_t), (2, .int y2)]) C d_Tr_rulesThere_29 rfl (by decide) rfl ?_
          refine z_iinc (j := 2) (v := y2 + (1 : Int32)) (lv' := [(2, .int (y2 + (1 : Int32))), (1, .int (y1 + (1 : Int32))), (0, .ref q_t)]) C d_Tr_rulesThere_30 rfl rfl (by decide) rfl ?_
          refine z_goto (tgt := 4) C d_Tr_rulesThere_33 (by decide) ?_
          refine z_lpick (lv' := [(0, .ref q_t), (1, .int (y1 + (1 : Int32))), (2, .int (y2 + (1 : Int32)))]) [2, 1, 0] rfl ?_
          exact ih (y1 + (1 : Int32)) (y2 + (1 : Int32)) hS19
      · have hS20 := hS2.2 5 hj3 (by decide)
        refine z_aldq (v := (q_t_rules_e 5)) C 1 5 rfl rfl hS2.1 (by rw [zix_cl hj3 (by decide)]) d_Tr_rulesThere_16 ?_
        refine z_get C 7 rfl rfl in_Ru 6 (by decide) rfl wf_Tr_82 rfl d_Tr_rulesThere_17 ?_
        refine z_if_eq (tgt := 27) C d_Tr_rulesThere_20 (by decide) (fun c21 => ?_) (fun c21 => ?_)
        · have hS22 := hS20.1 c21
          refine z_iconst (v := (0 : Int32)) C d_Tr_rulesThere_27 (by decide) ?_
          refine z_iadd C d_Tr_rulesThere_28 ?_
          refine z_istore_n (lv' := [(1, .int (y1 + (0 : Int32))), (0, .ref q_t), (2, .int y2)]) C d_Tr_rulesThere_29 rfl (by decide) rfl ?_
          refine z_iinc (j := 2) (v := y2 + (1 : Int32)) (lv' := [(2, .int (y2 + (1 : Int32))), (1, .int (y1 + (0 : Int32))), (0, .ref q_t)]) C d_Tr_rulesThere_30 rfl rfl (by decide) rfl ?_
          refine z_goto (tgt := 4) C d_Tr_rulesThere_33 (by decide) ?_
          refine z_lpick (lv' := [(0, .ref q_t), (1, .int (y1 + (0 : Int32))), (2, .int (y2 + (1 : Int32)))]) [2, 1, 0] rfl ?_
          exact ih (y1 + (0 : Int32)) (y2 + (1 : Int32)) hS22
        · have hS22 := hS20.2 c21
          refine z_iconst (v := (1 : Int32)) C d_Tr_rulesThere_23 (by decide) ?_
          refine z_goto (tgt := 28) C d_Tr_rulesThere_24 (by decide) ?_
          refine z_iadd C d_Tr_rulesThere_28 ?_
          refine z_istore_n (lv' := [(1, .int (y1 + (1 : Int32))), (0, .ref q_t), (2, .int y2)]) C d_Tr_rulesThere_29 rfl (by decide) rfl ?_
          refine z_iinc (j := 2) (v := y2 + (1 : Int32)) (lv' := [(2, .int (y2 + (1 : Int32))), (1, .int (y1 + (1 : Int32))), (0, .ref q_t)]) C d_Tr_rulesThere_30 rfl rfl (by decide) rfl ?_
          refine z_goto (tgt := 4) C d_Tr_rulesThere_33 (by decide) ?_
          refine z_lpick (lv' := [(0, .ref q_t), (1, .int (y1 + (1 : Int32))), (2, .int (y2 + (1 : Int32)))]) [2, 1, 0] rfl ?_
          exact ih (y1 + (1 : Int32)) (y2 + (1 : Int32)) hS22
set_option maxHeartbeats 4000000 in
set_option maxRecDepth 100000 in
theorem cw_Tr_rulesThere (l : Launch) (D : va_G) (K : Nat → ClassId) (q_t : Nat) (q_t_text : Nat) (q_t_rules : Nat) (q_t_runner : Nat) (q_t_rules_e : Nat → Nat) (q_t_rules_e_steps : Nat → Nat) (t_place : Int32) (t_firings : Int32) (t_rules_e_length : Nat → Int32) (t_rules_e_actions : Nat → Int32) (t_rules_e_site : Nat → Int32) (t_rules_e_exit : Nat → Int32) (t_rules_e_conditional : Nat → Int32) (t_rules_e_there : Nat → Int32) (t_rules_e_on : Nat → Int32) (t_rules_e_failures : Nat → Int32) (t_rules_e_meetings : Nat → Int32) {Q : Int32 → Unit → Prop} (hS0 : WP_Tr_rulesThere t_rules_e_there Q) : zCi l y_Tr_rulesThere wy_Tr_rulesThere rm_Tr_rulesThere D zcl (zT K) [.ref q_t] (w_Tr_rulesThere K q_t q_t_text q_t_rules q_t_runner q_t_rules_e q_t_rules_e_steps t_place t_firings t_rules_e_length t_rules_e_actions t_rules_e_site t_rules_e_exit t_rules_e_conditional t_rules_e_there t_rules_e_on t_rules_e_failures t_rules_e_meetings ()) (w_Tr_rulesThere K q_t q_t_text q_t_rules q_t_runner q_t_rules_e q_t_rules_e_steps t_place t_firings t_rules_e_length t_rules_e_actions t_rules_e_site t_rules_e_exit t_rules_e_conditional t_rules_e_there t_rules_e_on t_rules_e_failures t_rules_e_meetings) Q 0 0 := by
  refine z_meti (cc := b_Tr_rulesThere) (maxL := 3) (ret := (some .int)) (by decide) rfl (Nat.le_of_ble_eq_true rfl) ?_
  intro p e s m args below meth c A C hr hlk hnm
  refine z_lpick (lv' := [(0, .ref q_t)]) [0] rfl ?_
  refine z_weq (ws' := [zo 5 q_t [.ref q_t_text, .ref q_t_rules, .ref q_t_runner, .int t_place, .int t_firings], zaR K 5 q_t_rules 6 (fun i => some (q_t_rules_e i)), zo 2 (q_t_rules_e 0) [.ref (q_t_rules_e_steps 0), .int (t_rules_e_length 0), .int (t_rules_e_actions 0), .int (t_rules_e_site 0), .int (t_rules_e_exit 0), .int (t_rules_e_conditional 0), .int (t_rules_e_there 0), .int (t_rules_e_on 0), .int (t_rules_e_failures 0), .int (t_rules_e_meetings 0)], zo 2 (q_t_rules_e 1) [.ref (q_t_rules_e_steps 1), .int (t_rules_e_length 1), .int (t_rules_e_actions 1), .int (t_rules_e_site 1), .int (t_rules_e_exit 1), .int (t_rules_e_conditional 1), .int (t_rules_e_there 1), .int (t_rules_e_on 1), .int (t_rules_e_failures 1), .int (t_rules_e_meetings 1)], zo 2 (q_t_rules_e 2) [.ref (q_t_rules_e_steps 2), .int (t_rules_e_length 2), .int (t_rules_e_actions 2), .int (t_rules_e_site 2), .int (t_rules_e_exit 2), .int (t_rules_e_conditional 2), .int (t_rules_e_there 2), .int (t_rules_e_on 2), .int (t_rules_e_failures 2), .int (t_rules_e_meetings 2)], zo 2 (q_t_rules_e 3) [.ref (q_t_rules_e_steps 3), .int (t_rules_e_length 3), .int (t_rules_e_actions 3), .int (t_rules_e_site 3), .int (t_rules_e_exit 3), .int (t_rules_e_conditional 3), .int (t_rules_e_there 3), .int (t_rules_e_on 3), .int (t_rules_e_failures 3), .int (t_rules_e_meetings 3)], zo 2 (q_t_rules_e 4) [.ref (q_t_rules_e_steps 4), .int (t_rules_e_length 4), .int (t_rules_e_actions 4), .int (t_rules_e_site 4), .int (t_rules_e_exit 4), .int (t_rules_e_conditional 4), .int (t_rules_e_there 4), .int (t_rules_e_on 4), .int (t_rules_e_failures 4), .int (t_rules_e_meetings 4)], zo 2 (q_t_rules_e 5) [.ref (q_t_rules_e_steps 5), .int (t_rules_e_length 5), .int (t_rules_e_actions 5), .int (t_rules_e_site 5), .int (t_rules_e_exit 5), .int (t_rules_e_conditional 5), .int (t_rules_e_there 5), .int (t_rules_e_on 5), .int (t_rules_e_failures 5), .int (t_rules_e_meetings 5)]]) rfl ?_
  refine z_iconst (v := (0 : Int32)) C d_Tr_rulesThere_0 (by decide) ?_
  refine z_istore_n (lv' := [(1, .int (0 : Int32)), (0, .ref q_t)]) C d_Tr_rulesThere_1 rfl (by decide) rfl ?_
  refine z_iconst (v := (0 : Int32)) C d_Tr_rulesThere_2 (by decide) ?_
  refine z_istore_n (lv' := [(2, .int (0 : Int32)), (1, .int (0 : Int32)), (0, .ref q_t)]) C d_Tr_rulesThere_3 rfl (by decide) rfl ?_
  refine z_lpick (lv' := [(0, .ref q_t), (1, .int (0 : Int32)), (2, .int (0 : Int32))]) [2, 1, 0] rfl ?_
  exact lw_Tr_rulesThere_L4 l D K q_t q_t_text q_t_rules q_t_runner q_t_rules_e q_t_rules_e_steps t_place t_firings t_rules_e_length t_rules_e_actions t_rules_e_site t_rules_e_exit t_rules_e_conditional t_rules_e_there t_rules_e_on t_rules_e_failures t_rules_e_meetings C hr hlk 600 (0 : Int32) (0 : Int32) hS0
def s_Tr_rulesThere_L4 : Nat → Int32 → Int32 → (Nat → Int32) → Int32
  | 0, _, _, _ => 0
  | n + 1, y1, y2, t_rules_e_there => (if (6 : Int32) ≤ y2 then y1 else (zl1 y2.toNatClampNeg fun j4 => (if (t_rules_e_there j4) = 0 then s_Tr_rulesThere_L4 n (y1 + (0 : Int32)) (y2 + (1 : Int32)) t_rules_e_there else s_Tr_rulesThere_L4 n (y1 + (1 : Int32)) (y2 + (1 : Int32)) t_rules_e_there)))
def s_Tr_rulesThere (t_rules_e_there : Nat → Int32) : Int32 := s_Tr_rulesThere_L4 600 (0 : Int32) (0 : Int32) t_rules_e_there
def p_Tr_rulesThere (t_rules_e_there : Nat → Int32) : Prop := WP_Tr_rulesThere t_rules_e_there (fun _ _ => True)
set_option maxRecDepth 100000 in
theorem v_Tr_rulesThere_L4 : ∀ (n : Nat) (y1 : Int32) (y2 : Int32) (t_rules_e_there : Nat → Int32) (tgt : Int32), s_Tr_rulesThere_L4 n y1 y2 t_rules_e_there = tgt → WP_Tr_rulesThere_L4 n y1 y2 t_rules_e_there (fun _ _ => True) → WP_Tr_rulesThere_L4 n y1 y2 t_rules_e_there (fun r u => tgt = r) := by
  intro n
  induction n with
  | zero => intros; contradiction
  | succ n ih =>
    intro y1 y2 t_rules_e_there tgt f0 hp
    unfold s_Tr_rulesThere_L4 at f0
    unfold WP_Tr_rulesThere_L4 at hp ⊢
    refine ⟨fun c1 => ?_, fun c1 => ?_⟩
    · have f1 := Eq.trans (Eq.symm (if_pos c1)) f0
      have g1 := hp.1 c1
      exact f1.symm
    · have f1 := Eq.trans (Eq.symm (if_neg c1)) f0
      have g1 := hp.2 c1
      refine ⟨g1.1, fun j4 hj3 hlt_ => ?_⟩
      have g2 := g1.2 j4 hj3 hlt_
      have f2 := Eq.trans (Eq.symm (zl1_eq (zix_cl hj3 (Nat.lt_trans hlt_ (by decide : 6 < 2 ^ 31))))) f1
      refine ⟨fun c23 => ?_, fun c23 => ?_⟩
      · have f3 := Eq.trans (Eq.symm (if_pos c23)) f2
        have g3 := g2.1 c23
        exact ih (y1 + (0 : Int32)) (y2 + (1 : Int32)) t_rules_e_there _ f3 g3
      · have f3 := Eq.trans (Eq.symm (if_neg c23)) f2
        have g3 := g2.2 c23
        exact ih (y1 + (1 : Int32)) (y2 + (1 : Int32)) t_rules_e_there _ f3 g3
set_option maxRecDepth 100000 in
theorem v_Tr_rulesThere (t_rules_e_there : Nat → Int32) (hp : p_Tr_rulesThere t_rules_e_there) : WP_Tr_rulesThere t_rules_e_there (fun r u => s_Tr_rulesThere t_rules_e_there = r) := by
  unfold p_Tr_rulesThere WP_Tr_rulesThere at hp
  obtain ⟨tgt, f0⟩ : ∃ tgt, s_Tr_rulesThere t_rules_e_there = tgt := ⟨_, rfl⟩
  rw [f0]
  unfold s_Tr_rulesThere at f0
  unfold WP_Tr_rulesThere
  exact v_Tr_rulesThere_L4 600 (0 : Int32) (0 : Int32) t_rules_e_there _ f0 hp
theorem c_Tr_rulesThere (l : Launch) (D : va_G) (K : Nat → ClassId) (q_t : Nat) (q_t_text : Nat) (q_t_rules : Nat) (q_t_runner : Nat) (q_t_rules_e : Nat → Nat) (q_t_rules_e_steps : Nat → Nat) (t_place : Int32) (t_firings : Int32) (t_rules_e_length : Nat → Int32) (t_rules_e_actions : Nat → Int32) (t_rules_e_site : Nat → Int32) (t_rules_e_exit : Nat → Int32) (t_rules_e_conditional : Nat → Int32) (t_rules_e_there : Nat → Int32) (t_rules_e_on : Nat → Int32) (t_rules_e_failures : Nat → Int32) (t_rules_e_meetings : Nat → Int32) (hp : p_Tr_rulesThere t_rules_e_there) : zCi l y_Tr_rulesThere wy_Tr_rulesThere rm_Tr_rulesThere D zcl (zT K) [.ref q_t] (w_Tr_rulesThere K q_t q_t_text q_t_rules q_t_runner q_t_rules_e q_t_rules_e_steps t_place t_firings t_rules_e_length t_rules_e_actions t_rules_e_site t_rules_e_exit t_rules_e_conditional t_rules_e_there t_rules_e_on t_rules_e_failures t_rules_e_meetings ()) (w_Tr_rulesThere K q_t q_t_text q_t_rules q_t_runner q_t_rules_e q_t_rules_e_steps t_place t_firings t_rules_e_length t_rules_e_actions t_rules_e_site t_rules_e_exit t_rules_e_conditional t_rules_e_there t_rules_e_on t_rules_e_failures t_rules_e_meetings) (fun r u => s_Tr_rulesThere t_rules_e_there = r) 0 0 := cw_Tr_rulesThere l D K q_t q_t_text q_t_rules q_t_runner q_t_rules_e q_t_rules_e_steps t_place t_firings t_rules_e_length t_rules_e_actions t_rules_e_site t_rules_e_exit t_rules_e_conditional t_rules_e_there t_rules_e_on t_rules_e_failures t_rules_e_meetings (v_Tr_rulesThere t_rules_e_there hp)
-- RuleTracer.rulesOn()I: reads ['t.rules[*].on'], changes []
abbrev w_Tr_rulesOn (K : Nat → ClassId) (q_t : Nat) (q_t_text : Nat) (q_t_rules : Nat) (q_t_runner : Nat) (q_t_rules_e : Nat → Nat) (q_t_rules_e_steps : Nat → Nat) (t_place : Int32) (t_firings : Int32) (t_rules_e_length : Nat → Int32) (t_rules_e_actions : Nat → Int32) (t_rules_e_site : Nat → Int32) (t_rules_e_exit : Nat → Int32) (t_rules_e_conditional : Nat → Int32) (t_rules_e_there : Nat → Int32) (t_rules_e_on : Nat → Int32) (t_rules_e_failures : Nat → Int32) (t_rules_e_meetings : Nat → Int32) (u : Unit) : va_W := [zo 5 q_t [.ref q_t_text, .ref q_t_rules, .ref q_t_runner, .int t_place, .int t_firings], zaR K 5 q_t_rules 6 (fun i => some (q_t_rules_e i)), zo 2 (q_t_rules_e 0) [.ref (q_t_rules_e_steps 0), .int (t_rules_e_length 0), .int (t_rules_e_actions 0), .int (t_rules_e_site 0), .int (t_rules_e_exit 0), .int (t_rules_e_conditional 0), .int (t_rules_e_there 0), .int (t_rules_e_on 0), .int (t_rules_e_failures 0), .int (t_rules_e_meetings 0)], zo 2 (q_t_rules_e 1) [.ref (q_t_rules_e_steps 1), .int (t_rules_e_length 1), .int (t_rules_e_actions 1), .int (t_rules_e_site 1), .int (t_rules_e_exit 1), .int (t_rules_e_conditional 1), .int (t_rules_e_there 1), .int (t_rules_e_on 1), .int (t_rules_e_failures 1), .int (t_rules_e_meetings 1)], zo 2 (q_t_rules_e 2) [.ref (q_t_rules_e_steps 2), .int (t_rules_e_length 2), .int (t_rules_e_actions 2), .int (t_rules_e_site 2), .int (t_rules_e_exit 2), .int (t_rules_e_conditional 2), .int (t_rules_e_there 2), .int (t_rules_e_on 2), .int (t_rules_e_failures 2), .int (t_rules_e_meetings 2)], zo 2 (q_t_rules_e 3) [.ref (q_t_rules_e_steps 3), .int (t_rules_e_length 3), .int (t_rules_e_actions 3), .int (t_rules_e_site 3), .int (t_rules_e_exit 3), .int (t_rules_e_conditional 3), .int (t_rules_e_there 3), .int (t_rules_e_on 3), .int (t_rules_e_failures 3), .int (t_rules_e_meetings 3)], zo 2 (q_t_rules_e 4) [.ref (q_t_rules_e_steps 4), .int (t_rules_e_length 4), .int (t_rules_e_actions 4), .int (t_rules_e_site 4), .int (t_rules_e_exit 4), .int (t_rules_e_conditional 4), .int (t_rules_e_there 4), .int (t_rules_e_on 4), .int (t_rules_e_failures 4), .int (t_rules_e_meetings 4)], zo 2 (q_t_rules_e 5) [.ref (q_t_rules_e_steps 5), .int (t_rules_e_length 5), .int (t_rules_e_actions 5), .int (t_rules_e_site 5), .int (t_rules_e_exit 5), .int (t_rules_e_conditional 5), .int (t_rules_e_there 5), .int (t_rules_e_on 5), .int (t_rules_e_failures 5), .int (t_rules_e_meetings 5)]]
abbrev rm_Tr_rulesOn : Room := { frames := 0, cells := 0, slots := 0, locals := 0 }
abbrev wy_Tr_rulesOn : List Cond := .code y_Tr_rulesOn b_Tr_rulesOn 3 (some .int) :: zWT
def WP_Tr_rulesOn_L4 : Nat → Int32 → Int32 → (Nat → Int32) → (Int32 → Unit → Prop) → Prop
  | 0, _, _, _, _ => False
  | n + 1, y1, y2, t_rules_e_on, Q => (((6 : Int32) ≤ y2) → Q y1 ()) ∧ ((¬ (6 : Int32) ≤ y2) → vp_in y2 6 ∧ (∀ j4 : Nat, y2 = nI j4 → j4 < 6 → (((t_rules_e_on j4) = 0) → WP_Tr_rulesOn_L4 n (y1 + (0 : Int32)) (y2 + (1 : Int32)) t_rules_e_on Q) ∧ ((¬ (t_rules_e_on j4) = 0) → WP_Tr_rulesOn_L4 n (y1 + (1 : Int32)) (y2 + (1 : Int32)) t_rules_e_on Q)))
def WP_Tr_rulesOn (t_rules_e_on : Nat → Int32) (Q : Int32 → Unit → Prop) : Prop := WP_Tr_rulesOn_L4 600 (0 : Int32) (0 : Int32) t_rules_e_on Q
set_option maxHeartbeats 4000000 in
set_option maxRecDepth 100000 in
theorem lw_Tr_rulesOn_L4 {p : Program} {e : Env} {s : State} {m : MethodId} {args : Array Value} {below : List Frame} {meth : Method} {c : Code} {A : Nat → Prop} (l : Launch) (D : va_G) (K : Nat → ClassId) (q_t : Nat) (q_t_text : Nat) (q_t_rules : Nat) (q_t_runner : Nat) (q_t_rules_e : Nat → Nat) (q_t_rules_e_steps : Nat → Nat) (t_place : Int32) (t_firings : Int32) (t_rules_e_length : Nat → Int32) (t_rules_e_actions : Nat → Int32) (t_rules_e_site : Nat → Int32) (t_rules_e_exit : Nat → Int32) (t_rules_e_conditional : Nat → Int32) (t_rules_e_there : Nat → Int32) (t_rules_e_on : Nat → Int32) (t_rules_e_failures : Nat → Int32) (t_rules_e_meetings : Nat → Int32) {Q : Int32 → Unit → Prop} (C : zCx p s m args c b_Tr_rulesOn 3 R_Tr zWT D zcl (zT K) A) (hr : meth.sig.returnType = (some .int)) (hlk : meth.locks = false) : ∀ (n : Nat) (y1 : Int32) (y2 : Int32), WP_Tr_rulesOn_L4 n y1 y2 t_rules_e_on Q → zW p l e (headSpec wy_Tr_rulesOn rm_Tr_rulesOn).room s m args below meth c D zcl A 3 0 0 (MQ below (va_Qi Q (zB D zcl (zT K) (w_Tr_rulesOn K q_t q_t_text q_t_rules q_t_runner q_t_rules_e q_t_rules_e_steps t_place t_firings t_rules_e_length t_rules_e_actions t_rules_e_site t_rules_e_exit t_rules_e_conditional t_rules_e_there t_rules_e_on t_rules_e_failures t_rules_e_meetings) A) A) args s 0 0 A) [(0, .ref q_t), (1, .int y1), (2, .int y2)] [zo 5 q_t [.ref q_t_text, .ref q_t_rules, .ref q_t_runner, .int t_place, .int t_firings], zaR K 5 q_t_rules 6 (fun i => some (q_t_rules_e i)), zo 2 (q_t_rules_e 0) [.ref (q_t_rules_e_steps 0), .int (t_rules_e_length 0), .int (t_rules_e_actions 0), .int (t_rules_e_site 0), .int (t_rules_e_exit 0), .int (t_rules_e_conditional 0), .int (t_rules_e_there 0), .int (t_rules_e_on 0), .int (t_rules_e_failures 0), .int (t_rules_e_meetings 0)], zo 2 (q_t_rules_e 1) [.ref (q_t_rules_e_steps 1), .int (t_rules_e_length 1), .int (t_rules_e_actions 1), .int (t_rules_e_site 1), .int (t_rules_e_exit 1), .int (t_rules_e_conditional 1), .int (t_rules_e_there 1), .int (t_rules_e_on 1), .int (t_rules_e_failures 1), .int (t_rules_e_meetings 1)], zo 2 (q_t_rules_e 2) [.ref (q_t_rules_e_steps 2), .int (t_rules_e_length 2), .int (t_rules_e_actions 2), .int (t_rules_e_site 2), .int (t_rules_e_exit 2), .int (t_rules_e_conditional 2), .int (t_rules_e_there 2), .int (t_rules_e_on 2), .int (t_rules_e_failures 2), .int (t_rules_e_meetings 2)], zo 2 (q_t_rules_e 3) [.ref (q_t_rules_e_steps 3), .int (t_rules_e_length 3), .int (t_rules_e_actions 3), .int (t_rules_e_site 3), .int (t_rules_e_exit 3), .int (t_rules_e_conditional 3), .int (t_rules_e_there 3), .int (t_rules_e_on 3), .int (t_rules_e_failures 3), .int (t_rules_e_meetings 3)], zo 2 (q_t_rules_e 4) [.ref (q_t_rules_e_steps 4), .int (t_rules_e_length 4), .int (t_rules_e_actions 4), .int (t_rules_e_site 4), .int (t_rules_e_exit 4), .int (t_rules_e_conditional 4), .int (t_rules_e_there 4), .int (t_rules_e_on 4), .int (t_rules_e_failures 4), .int (t_rules_e_meetings 4)], zo 2 (q_t_rules_e 5) [.ref (q_t_rules_e_steps 5), .int (t_rules_e_length 5), .int (t_rules_e_actions 5), .int (t_rules_e_site 5), .int (t_rules_e_exit 5), .int (t_rules_e_conditional 5), .int (t_rules_e_there 5), .int (t_rules_e_on 5), .int (t_rules_e_failures 5), .int (t_rules_e_meetings 5)]] 4 [] := by
  intro n
  induction n with
  | zero => intros; contradiction
  | succ n ih =>
    intro y1 y2 hS0
    refine z_iload_n C d_Tr_rulesOn_4 rfl 2 rfl ?_
    refine z_bipush (v := (6 : Int32)) C d_Tr_rulesOn_5 (by decide) ?_
    refine z_icmp_ge (tgt := 36) C d_Tr_rulesOn_7 (by decide) (fun c1 => ?_) (fun c1 => ?_)
    · have hS2 := hS0.1 c1
      refine z_iload_n C d_Tr_rulesOn_36 rfl 1 rfl ?_
      exact z_iret C hr hlk () rfl hS2 d_Tr_rulesOn_37
    · have hS2 := hS0.2 c1
      refine z_iload_n C d_Tr_rulesOn_10 rfl 1 rfl ?_
      refine z_aload_n C d_Tr_rulesOn_11 rfl 0 rfl ?_
      refine z_get C 0 rfl rfl in_Tr 1 (by decide) rfl wf_Tr_18 rfl d_Tr_rulesOn_12 ?_
      refine z_iload_n C d_Tr_rulesOn_15 rfl 2 rfl ?_
      rcases zix_6 hS2.1 with hj3 | hj3 | hj3 | hj3 | hj3 | hj3
      · have hS5 := hS2.2 0 hj3 (by decide)
        refine z_aldq (v := (q_t_rules_e 0)) C 1 5 rfl rfl hS2.1 (by rw [zix_cl hj3 (by decide)]) d_Tr_rulesOn_16 ?_
        refine z_get C 2 rfl rfl in_Ru 7 (by decide) rfl wf_Tr_94 rfl d_Tr_rulesOn_17 ?_
        refine z_if_eq (tgt := 27) C d_Tr_rulesOn_20 (by decide) (fun c6 => ?_) (fun c6 => ?_)
        · have hS7 := hS5.1 c6
          refine z_iconst (v := (0 : Int32)) C d_Tr_rulesOn_27 (by decide) ?_
          refine z_iadd C d_Tr_rulesOn_28 ?_
          refine z_istore_n (lv' := [(1, .int (y1 + (0 : Int32))), (0, .ref q_t), (2, .int y2)]) C d_Tr_rulesOn_29 rfl (by decide) rfl ?_
          refine z_iinc (j := 2) (v := y2 + (1 : Int32)) (lv' := [(2, .int (y2 + (1 : Int32))), (1, .int (y1 + (0 : Int32))), (0, .ref q_t)]) C d_Tr_rulesOn_30 rfl rfl (by decide) rfl ?_
          refine z_goto (tgt := 4) C d_Tr_rulesOn_33 (by decide) ?_
          refine z_lpick (lv' := [(0, .ref q_t), (1, .int (y1 + (0 : Int32))), (2, .int (y2 + (1 : Int32)))]) [2, 1, 0] rfl ?_
          exact ih (y1 + (0 : Int32)) (y2 + (1 : Int32)) hS7
        · have hS7 := hS5.2 c6
          refine z_iconst (v := (1 : Int32)) C d_Tr_rulesOn_23 (by decide) ?_
          refine z_goto (tgt := 28) C d_Tr_rulesOn_24 (by decide) ?_
          refine z_iadd C d_Tr_rulesOn_28 ?_
          refine z_istore_n (lv' := [(1, .int (y1 + (1 : Int32))), (0, .ref q_t), (2, .int y2)]) C d_Tr_rulesOn_29 rfl (by decide) rfl ?_
          refine z_iinc (j := 2) (v := y2 + (1 : Int32)) (lv' := [(2, .int (y2 + (1 : Int32))), (1, .int (y1 + (1 : Int32))), (0, .ref q_t)]) C d_Tr_rulesOn_30 rfl rfl (by decide) rfl ?_
          refine z_goto (tgt := 4) C d_Tr_rulesOn_33 (by decide) ?_
          refine z_lpick (lv' := [(0, .ref q_t), (1, .int (y1 + (1 : Int32))), (2, .int (y2 + (1 : Int32)))]) [2, 1, 0] rfl ?_
          exact ih (y1 + (1 : Int32)) (y2 + (1 : Int32)) hS7
      · have hS8 := hS2.2 1 hj3 (by decide)
        refine z_aldq (v := (q_t_rules_e 1)) C 1 5 rfl rfl hS2.1 (by rw [zix_cl hj3 (by decide)]) d_Tr_rulesOn_16 ?_
        refine z_get C 3 rfl rfl in_Ru 7 (by decide) rfl wf_Tr_94 rfl d_Tr_rulesOn_17 ?_
        refine z_if_eq (tgt := 27) C d_Tr_rulesOn_20 (by decide) (fun c9 => ?_) (fun c9 => ?_)
        · have hS10 := hS8.1 c9
          refine z_iconst (v := (0 : Int32)) C d_Tr_rulesOn_27 (by decide) ?_
          refine z_iadd C d_Tr_rulesOn_28 ?_
          refine z_istore_n (lv' := [(1, .int (y1 + (0 : Int32))), (0, .ref q_t), (2, .int y2)]) C d_Tr_rulesOn_29 rfl (by decide) rfl ?_
          refine z_iinc (j := 2) (v := y2 + (1 : Int32)) (lv' := [(2, .int (y2 + (1 : Int32))), (1, .int (y1 + (0 : Int32))), (0, .ref q_t)]) C d_Tr_rulesOn_30 rfl rfl (by decide) rfl ?_
          refine z_goto (tgt := 4) C d_Tr_rulesOn_33 (by decide) ?_
          refine z_lpick (lv' := [(0, .ref q_t), (1, .int (y1 + (0 : Int32))), (2, .int (y2 + (1 : Int32)))]) [2, 1, 0] rfl ?_
          exact ih (y1 + (0 : Int32)) (y2 + (1 : Int32)) hS10
        · have hS10 := hS8.2 c9
          refine z_iconst (v := (1 : Int32)) C d_Tr_rulesOn_23 (by decide) ?_
          refine z_goto (tgt := 28) C d_Tr_rulesOn_24 (by decide) ?_
          refine z_iadd C d_Tr_rulesOn_28 ?_
          refine z_istore_n (lv' := [(1, .int (y1 + (1 : Int32))), (0, .ref q_t), (2, .int y2)]) C d_Tr_rulesOn_29 rfl (by decide) rfl ?_
          refine z_iinc (j := 2) (v := y2 + (1 : Int32)) (lv' := [(2, .int (y2 + (1 : Int32))), (1, .int (y1 + (1 : Int32))), (0, .ref q_t)]) C d_Tr_rulesOn_30 rfl rfl (by decide) rfl ?_
          refine z_goto (tgt := 4) C d_Tr_rulesOn_33 (by decide) ?_
          refine z_lpick (lv' := [(0, .ref q_t), (1, .int (y1 + (1 : Int32))), (2, .int (y2 + (1 : Int32)))]) [2, 1, 0] rfl ?_
          exact ih (y1 + (1 : Int32)) (y2 + (1 : Int32)) hS10
      · have hS11 := hS2.2 2 hj3 (by decide)
        refine z_aldq (v := (q_t_rules_e 2)) C 1 5 rfl rfl hS2.1 (by rw [zix_cl hj3 (by decide)]) d_Tr_rulesOn_16 ?_
        refine z_get C 4 rfl rfl in_Ru 7 (by decide) rfl wf_Tr_94 rfl d_Tr_rulesOn_17 ?_
        refine z_if_eq (tgt := 27) C d_Tr_rulesOn_20 (by decide) (fun c12 => ?_) (fun c12 => ?_)
        · have hS13 := hS11.1 c12
          refine z_iconst (v := (0 : Int32)) C d_Tr_rulesOn_27 (by decide) ?_
          refine z_iadd C d_Tr_rulesOn_28 ?_
          refine z_istore_n (lv' := [(1, .int (y1 + (0 : Int32))), (0, .ref q_t), (2, .int y2)]) C d_Tr_rulesOn_29 rfl (by decide) rfl ?_
          refine z_iinc (j := 2) (v := y2 + (1 : Int32)) (lv' := [(2, .int (y2 + (1 : Int32))), (1, .int (y1 + (0 : Int32))), (0, .ref q_t)]) C d_Tr_rulesOn_30 rfl rfl (by decide) rfl ?_
          refine z_goto (tgt := 4) C d_Tr_rulesOn_33 (by decide) ?_
          refine z_lpick (lv' := [(0, .ref q_t), (1, .int (y1 + (0 : Int32))), (2, .int (y2 + (1 : Int32)))]) [2, 1, 0] rfl ?_
          exact ih (y1 + (0 : Int32)) (y2 + (1 : Int32)) hS13
        · have hS13 := hS11.2 c12
          refine z_iconst (v := (1 : Int32)) C d_Tr_rulesOn_23 (by decide) ?_
          refine z_goto (tgt := 28) C d_Tr_rulesOn_24 (by decide) ?_
          refine z_iadd C d_Tr_rulesOn_28 ?_
          refine z_istore_n (lv' := [(1, .int (y1 + (1 : Int32))), (0, .ref q_t), (2, .int y2)]) C d_Tr_rulesOn_29 rfl (by decide) rfl ?_
          refine z_iinc (j := 2) (v := y2 + (1 : Int32)) (lv' := [(2, .int (y2 + (1 : Int32))), (1, .int (y1 + (1 : Int32))), (0, .ref q_t)]) C d_Tr_rulesOn_30 rfl rfl (by decide) rfl ?_
          refine z_goto (tgt := 4) C d_Tr_rulesOn_33 (by decide) ?_
          refine z_lpick (lv' := [(0, .ref q_t), (1, .int (y1 + (1 : Int32))), (2, .int (y2 + (1 : Int32)))]) [2, 1, 0] rfl ?_
          exact ih (y1 + (1 : Int32)) (y2 + (1 : Int32)) hS13
      · have hS14 := hS2.2 3 hj3 (by decide)
        refine z_aldq (v := (q_t_rules_e 3)) C 1 5 rfl rfl hS2.1 (by rw [zix_cl hj3 (by decide)]) d_Tr_rulesOn_16 ?_
        refine z_get C 5 rfl rfl in_Ru 7 (by decide) rfl wf_Tr_94 rfl d_Tr_rulesOn_17 ?_
        refine z_if_eq (tgt := 27) C d_Tr_rulesOn_20 (by decide) (fun c15 => ?_) (fun c15 => ?_)
        · have hS16 := hS14.1 c15
          refine z_iconst (v := (0 : Int32)) C d_Tr_rulesOn_27 (by decide) ?_
          refine z_iadd C d_Tr_rulesOn_28 ?_
          refine z_istore_n (lv' := [(1, .int (y1 + (0 : Int32))), (0, .ref q_t), (2, .int y2)]) C d_Tr_rulesOn_29 rfl (by decide) rfl ?_
          refine z_iinc (j := 2) (v := y2 + (1 : Int32)) (lv' := [(2, .int (y2 + (1 : Int32))), (1, .int (y1 + (0 : Int32))), (0, .ref q_t)]) C d_Tr_rulesOn_30 rfl rfl (by decide) rfl ?_
          refine z_goto (tgt := 4) C d_Tr_rulesOn_33 (by decide) ?_
          refine z_lpick (lv' := [(0, .ref q_t), (1, .int (y1 + (0 : Int32))), (2, .int (y2 + (1 : Int32)))]) [2, 1, 0] rfl ?_
          exact ih (y1 + (0 : Int32)) (y2 + (1 : Int32)) hS16
        · have hS16 := hS14.2 c15
          refine z_iconst (v := (1 : Int32)) C d_Tr_rulesOn_23 (by decide) ?_
          refine z_goto (tgt := 28) C d_Tr_rulesOn_24 (by decide) ?_
          refine z_iadd C d_Tr_rulesOn_28 ?_
          refine z_istore_n (lv' := [(1, .int (y1 + (1 : Int32))), (0, .ref q_t), (2, .int y2)]) C d_Tr_rulesOn_29 rfl (by decide) rfl ?_
          refine z_iinc (j := 2) (v := y2 + (1 : Int32)) (lv' := [(2, .int (y2 + (1 : Int32))), (1, .int (y1 + (1 : Int32))), (0, .ref q_t)]) C d_Tr_rulesOn_30 rfl rfl (by decide) rfl ?_
          refine z_goto (tgt := 4) C d_Tr_rulesOn_33 (by decide) ?_
          refine z_lpick (lv' := [(0, .ref q_t), (1, .int (y1 + (1 : Int32))), (2, .int (y2 + (1 : Int32)))]) [2, 1, 0] rfl ?_
          exact ih (y1 + (1 : Int32)) (y2 + (1 : Int32)) hS16
      · have hS17 := hS2.2 4 hj3 (by decide)
        refine z_aldq (v := (q_t_rules_e 4)) C 1 5 rfl rfl hS2.1 (by rw [zix_cl hj3 (by decide)]) d_Tr_rulesOn_16 ?_
        refine z_get C 6 rfl rfl in_Ru 7 (by decide) rfl wf_Tr_94 rfl d_Tr_rulesOn_17 ?_
        refine z_if_eq (tgt := 27) C d_Tr_rulesOn_20 (by decide) (fun c18 => ?_) (fun c18 => ?_)
        · have hS19 := hS17.1 c18
          refine z_iconst (v := (0 : Int32)) C d_Tr_rulesOn_27 (by decide) ?_
          refine z_iadd C d_Tr_rulesOn_28 ?_
          refine z_istore_n (lv' := [(1, .int (y1 + (0 : Int32))), (0, .ref q_t), (2, .int y2)]) C d_Tr_rulesOn_29 rfl (by decide) rfl ?_
          refine z_iinc (j := 2) (v := y2 + (1 : Int32)) (lv' := [(2, .int (y2 + (1 : Int32))), (1, .int (y1 + (0 : Int32))), (0, .ref q_t)]) C d_Tr_rulesOn_30 rfl rfl (by decide) rfl ?_
          refine z_goto (tgt := 4) C d_Tr_rulesOn_33 (by decide) ?_
          refine z_lpick (lv' := [(0, .ref q_t), (1, .int (y1 + (0 : Int32))), (2, .int (y2 + (1 : Int32)))]) [2, 1, 0] rfl ?_
          exact ih (y1 + (0 : Int32)) (y2 + (1 : Int32)) hS19
        · have hS19 := hS17.2 c18
          refine z_iconst (v := (1 : Int32)) C d_Tr_rulesOn_23 (by decide) ?_
          refine z_goto (tgt := 28) C d_Tr_rulesOn_24 (by decide) ?_
          refine z_iadd C d_Tr_rulesOn_28 ?_
          refine z_istore_n (lv' := [(1, .int (y1 + (1 : Int32))), (0, .ref q_t), (2, .int y2)]) C d_Tr_rulesOn_29 rfl (by decide) rfl ?_
          refine z_iinc (j := 2) (v := y2 + (1 : Int32)) (lv' := [(2, .int (y2 + (1 : Int32))), (1, .int (y1 + (1 : Int32))), (0, .ref q_t)]) C d_Tr_rulesOn_30 rfl rfl (by decide) rfl ?_
          refine z_goto (tgt := 4) C d_Tr_rulesOn_33 (by decide) ?_
          refine z_lpick (lv' := [(0, .ref q_t), (1, .int (y1 + (1 : Int32))), (2, .int (y2 + (1 : Int32)))]) [2, 1, 0] rfl ?_
          exact ih (y1 + (1 : Int32)) (y2 + (1 : Int32)) hS19
      · have hS20 := hS2.2 5 hj3 (by decide)
        refine z_aldq (v := (q_t_rules_e 5)) C 1 5 rfl rfl hS2.1 (by rw [zix_cl hj3 (by decide)]) d_Tr_rulesOn_16 ?_
        refine z_get C 7 rfl rfl in_Ru 7 (by decide) rfl wf_Tr_94 rfl d_Tr_rulesOn_17 ?_
        refine z_if_eq (tgt := 27) C d_Tr_rulesOn_20 (by decide) (fun c21 => ?_) (fun c21 => ?_)
        · have hS22 := hS20.1 c21
          refine z_iconst (v := (0 : Int32)) C d_Tr_rulesOn_27 (by decide) ?_
          refine z_iadd C d_Tr_rulesOn_28 ?_
          refine z_istore_n (lv' := [(1, .int (y1 + (0 : Int32))), (0, .ref q_t), (2, .int y2)]) C d_Tr_rulesOn_29 rfl (by decide) rfl ?_
          refine z_iinc (j := 2) (v := y2 + (1 : Int32)) (lv' := [(2, .int (y2 + (1 : Int32))), (1, .int (y1 + (0 : Int32))), (0, .ref q_t)]) C d_Tr_rulesOn_30 rfl rfl (by decide) rfl ?_
          refine z_goto (tgt := 4) C d_Tr_rulesOn_33 (by decide) ?_
          refine z_lpick (lv' := [(0, .ref q_t), (1, .int (y1 + (0 : Int32))), (2, .int (y2 + (1 : Int32)))]) [2, 1, 0] rfl ?_
          exact ih (y1 + (0 : Int32)) (y2 + (1 : Int32)) hS22
        · have hS22 := hS20.2 c21
          refine z_iconst (v := (1 : Int32)) C d_Tr_rulesOn_23 (by decide) ?_
          refine z_goto (tgt := 28) C d_Tr_rulesOn_24 (by decide) ?_
          refine z_iadd C d_Tr_rulesOn_28 ?_
          refine z_istore_n (lv' := [(1, .int (y1 + (1 : Int32))), (0, .ref q_t), (2, .int y2)]) C d_Tr_rulesOn_29 rfl (by decide) rfl ?_
          refine z_iinc (j := 2) (v := y2 + (1 : Int32)) (lv' := [(2, .int (y2 + (1 : Int32))), (1, .int (y1 + (1 : Int32))), (0, .ref q_t)]) C d_Tr_rulesOn_30 rfl rfl (by decide) rfl ?_
          refine z_goto (tgt := 4) C d_Tr_rulesOn_33 (by decide) ?_
          refine z_lpick (lv' := [(0, .ref q_t), (1, .int (y1 + (1 : Int32))), (2, .int (y2 + (1 : Int32)))]) [2, 1, 0] rfl ?_
          exact ih (y1 + (1 : Int32)) (y2 + (1 : Int32)) hS22
set_option maxHeartbeats 4000000 in
set_option maxRecDepth 100000 in
theorem cw_Tr_rulesOn (l : Launch) (D : va_G) (K : Nat → ClassId) (q_t : Nat) (q_t_text : Nat) (q_t_rules : Nat) (q_t_runner : Nat) (q_t_rules_e : Nat → Nat) (q_t_rules_e_steps : Nat → Nat) (t_place : Int32) (t_firings : Int32) (t_rules_e_length : Nat → Int32) (t_rules_e_actions : Nat → Int32) (t_rules_e_site : Nat → Int32) (t_rules_e_exit : Nat → Int32) (t_rules_e_conditional : Nat → Int32) (t_rules_e_there : Nat → Int32) (t_rules_e_on : Nat → Int32) (t_rules_e_failures : Nat → Int32) (t_rules_e_meetings : Nat → Int32) {Q : Int32 → Unit → Prop} (hS0 : WP_Tr_rulesOn t_rules_e_on Q) : zCi l y_Tr_rulesOn wy_Tr_rulesOn rm_Tr_rulesOn D zcl (zT K) [.ref q_t] (w_Tr_rulesOn K q_t q_t_text q_t_rules q_t_runner q_t_rules_e q_t_rules_e_steps t_place t_firings t_rules_e_length t_rules_e_actions t_rules_e_site t_rules_e_exit t_rules_e_conditional t_rules_e_there t_rules_e_on t_rules_e_failures t_rules_e_meetings ()) (w_Tr_rulesOn K q_t q_t_text q_t_rules q_t_runner q_t_rules_e q_t_rules_e_steps t_place t_firings t_rules_e_length t_rules_e_actions t_rules_e_site t_rules_e_exit t_rules_e_conditional t_rules_e_there t_rules_e_on t_rules_e_failures t_rules_e_meetings) Q 0 0 := by
  refine z_meti (cc := b_Tr_rulesOn) (maxL := 3) (ret := (some .int)) (by decide) rfl (Nat.le_of_ble_eq_true rfl) ?_
  intro p e s m args below meth c A C hr hlk hnm
  refine z_lpick (lv' := [(0, .ref q_t)]) [0] rfl ?_
  refine z_weq (ws' := [zo 5 q_t [.ref q_t_text, .ref q_t_rules, .ref q_t_runner, .int t_place, .int t_firings], zaR K 5 q_t_rules 6 (fun i => some (q_t_rules_e i)), zo 2 (q_t_rules_e 0) [.ref (q_t_rules_e_steps 0), .int (t_rules_e_length 0), .int (t_rules_e_actions 0), .int (t_rules_e_site 0), .int (t_rules_e_exit 0), .int (t_rules_e_conditional 0), .int (t_rules_e_there 0), .int (t_rules_e_on 0), .int (t_rules_e_failures 0), .int (t_rules_e_meetings 0)], zo 2 (q_t_rules_e 1) [.ref (q_t_rules_e_steps 1), .int (t_rules_e_length 1), .int (t_rules_e_actions 1), .int (t_rules_e_site 1), .int (t_rules_e_exit 1), .int (t_rules_e_conditional 1), .int (t_rules_e_there 1), .int (t_rules_e_on 1), .int (t_rules_e_failures 1), .int (t_rules_e_meetings 1)], zo 2 (q_t_rules_e 2) [.ref (q_t_rules_e_steps 2), .int (t_rules_e_length 2), .int (t_rules_e_actions 2), .int (t_rules_e_site 2), .int (t_rules_e_exit 2), .int (t_rules_e_conditional 2), .int (t_rules_e_there 2), .int (t_rules_e_on 2), .int (t_rules_e_failures 2), .int (t_rules_e_meetings 2)], zo 2 (q_t_rules_e 3) [.ref (q_t_rules_e_steps 3), .int (t_rules_e_length 3), .int (t_rules_e_actions 3), .int (t_rules_e_site 3), .int (t_rules_e_exit 3), .int (t_rules_e_conditional 3), .int (t_rules_e_there 3), .int (t_rules_e_on 3), .int (t_rules_e_failures 3), .int (t_rules_e_meetings 3)], zo 2 (q_t_rules_e 4) [.ref (q_t_rules_e_steps 4), .int (t_rules_e_length 4), .int (t_rules_e_actions 4), .int (t_rules_e_site 4), .int (t_rules_e_exit 4), .int (t_rules_e_conditional 4), .int (t_rules_e_there 4), .int (t_rules_e_on 4), .int (t_rules_e_failures 4), .int (t_rules_e_meetings 4)], zo 2 (q_t_rules_e 5) [.ref (q_t_rules_e_steps 5), .int (t_rules_e_length 5), .int (t_rules_e_actions 5), .int (t_rules_e_site 5), .int (t_rules_e_exit 5), .int (t_rules_e_conditional 5), .int (t_rules_e_there 5), .int (t_rules_e_on 5), .int (t_rules_e_failures 5), .int (t_rules_e_meetings 5)]]) rfl ?_
  refine z_iconst (v := (0 : Int32)) C d_Tr_rulesOn_0 (by decide) ?_
  refine z_istore_n (lv' := [(1, .int (0 : Int32)), (0, .ref q_t)]) C d_Tr_rulesOn_1 rfl (by decide) rfl ?_
  refine z_iconst (v := (0 : Int32)) C d_Tr_rulesOn_2 (by decide) ?_
  refine z_istore_n (lv' := [(2, .int (0 : Int32)), (1, .int (0 : Int32)), (0, .ref q_t)]) C d_Tr_rulesOn_3 rfl (by decide) rfl ?_
  refine z_lpick (lv' := [(0, .ref q_t), (1, .int (0 : Int32)), (2, .int (0 : Int32))]) [2, 1, 0] rfl ?_
  exact lw_Tr_rulesOn_L4 l D K q_t q_t_text q_t_rules q_t_runner q_t_rules_e q_t_rules_e_steps t_place t_firings t_rules_e_length t_rules_e_actions t_rules_e_site t_rules_e_exit t_rules_e_conditional t_rules_e_there t_rules_e_on t_rules_e_failures t_rules_e_meetings C hr hlk 600 (0 : Int32) (0 : Int32) hS0
def s_Tr_rulesOn_L4 : Nat → Int32 → Int32 → (Nat → Int32) → Int32
  | 0, _, _, _ => 0
  | n + 1, y1, y2, t_rules_e_on => (if (6 : Int32) ≤ y2 then y1 else (zl1 y2.toNatClampNeg fun j4 => (if (t_rules_e_on j4) = 0 then s_Tr_rulesOn_L4 n (y1 + (0 : Int32)) (y2 + (1 : Int32)) t_rules_e_on else s_Tr_rulesOn_L4 n (y1 + (1 : Int32)) (y2 + (1 : Int32)) t_rules_e_on)))
def s_Tr_rulesOn (t_rules_e_on : Nat → Int32) : Int32 := s_Tr_rulesOn_L4 600 (0 : Int32) (0 : Int32) t_rules_e_on
def p_Tr_rulesOn (t_rules_e_on : Nat → Int32) : Prop := WP_Tr_rulesOn t_rules_e_on (fun _ _ => True)
set_option maxRecDepth 100000 in
theorem v_Tr_rulesOn_L4 : ∀ (n : Nat) (y1 : Int32) (y2 : Int32) (t_rules_e_on : Nat → Int32) (tgt : Int32), s_Tr_rulesOn_L4 n y1 y2 t_rules_e_on = tgt → WP_Tr_rulesOn_L4 n y1 y2 t_rules_e_on (fun _ _ => True) → WP_Tr_rulesOn_L4 n y1 y2 t_rules_e_on (fun r u => tgt = r) := by
  intro n
  induction n with
  | zero => intros; contradiction
  | succ n ih =>
    intro y1 y2 t_rules_e_on tgt f0 hp
    unfold s_Tr_rulesOn_L4 at f0
    unfold WP_Tr_rulesOn_L4 at hp ⊢
    refine ⟨fun c1 => ?_, fun c1 => ?_⟩
    · have f1 := Eq.trans (Eq.symm (if_pos c1)) f0
      have g1 := hp.1 c1
      exact f1.symm
    · have f1 := Eq.trans (Eq.symm (if_neg c1)) f0
      have g1 := hp.2 c1
      refine ⟨g1.1, fun j4 hj3 hlt_ => ?_⟩
      have g2 := g1.2 j4 hj3 hlt_
      have f2 := Eq.trans (Eq.symm (zl1_eq (zix_cl hj3 (Nat.lt_trans hlt_ (by decide : 6 < 2 ^ 31))))) f1
      refine ⟨fun c23 => ?_, fun c23 => ?_⟩
      · have f3 := Eq.trans (Eq.symm (if_pos c23)) f2
        have g3 := g2.1 c23
        exact ih (y1 + (0 : Int32)) (y2 + (1 : Int32)) t_rules_e_on _ f3 g3
      · have f3 := Eq.trans (Eq.symm (if_neg c23)) f2
        have g3 := g2.2 c23
        exact ih (y1 + (1 : Int32)) (y2 + (1 : Int32)) t_rules_e_on _ f3 g3
set_option maxRecDepth 100000 in
theorem v_Tr_rulesOn (t_rules_e_on : Nat → Int32) (hp : p_Tr_rulesOn t_rules_e_on) : WP_Tr_rulesOn t_rules_e_on (fun r u => s_Tr_rulesOn t_rules_e_on = r) := by
  unfold p_Tr_rulesOn WP_Tr_rulesOn at hp
  obtain ⟨tgt, f0⟩ : ∃ tgt, s_Tr_rulesOn t_rules_e_on = tgt := ⟨_, rfl⟩
  rw [f0]
  unfold s_Tr_rulesOn at f0
  unfold WP_Tr_rulesOn
  exact v_Tr_rulesOn_L4 600 (0 : Int32) (0 : Int32) t_rules_e_on _ f0 hp
theorem c_Tr_rulesOn (l : Launch) (D : va_G) (K : Nat → ClassId) (q_t : Nat) (q_t_text : Nat) (q_t_rules : Nat) (q_t_runner : Nat) (q_t_rules_e : Nat → Nat) (q_t_rules_e_steps : Nat → Nat) (t_place : Int32) (t_firings : Int32) (t_rules_e_length : Nat → Int32) (t_rules_e_actions : Nat → Int32) (t_rules_e_site : Nat → Int32) (t_rules_e_exit : Nat → Int32) (t_rules_e_conditional : Nat → Int32) (t_rules_e_there : Nat → Int32) (t_rules_e_on : Nat → Int32) (t_rules_e_failures : Nat → Int32) (t_rules_e_meetings : Nat → Int32) (hp : p_Tr_rulesOn t_rules_e_on) : zCi l y_Tr_rulesOn wy_Tr_rulesOn rm_Tr_rulesOn D zcl (zT K) [.ref q_t] (w_Tr_rulesOn K q_t q_t_text q_t_rules q_t_runner q_t_rules_e q_t_rules_e_steps t_place t_firings t_rules_e_length t_rules_e_actions t_rules_e_site t_rules_e_exit t_rules_e_conditional t_rules_e_there t_rules_e_on t_rules_e_failures t_rules_e_meetings ()) (w_Tr_rulesOn K q_t q_t_text q_t_rules q_t_runner q_t_rules_e q_t_rules_e_steps t_place t_firings t_rules_e_length t_rules_e_actions t_rules_e_site t_rules_e_exit t_rules_e_conditional t_rules_e_there t_rules_e_on t_rules_e_failures t_rules_e_meetings) (fun r u => s_Tr_rulesOn t_rules_e_on = r) 0 0 := cw_Tr_rulesOn l D K q_t q_t_text q_t_rules q_t_runner q_t_rules_e q_t_rules_e_steps t_place t_firings t_rules_e_length t_rules_e_actions t_rules_e_site t_rules_e_exit t_rules_e_conditional t_rules_e_there t_rules_e_on t_rules_e_failures t_rules_e_meetings (v_Tr_rulesOn t_rules_e_on hp)
-- RuleTracer.count(I)I: reads ['t.place', 't.firings', 't.rules[*].there', 't.rules[*].on', 't.rules[*].failures', 't.rules[*].meetings', 't.runner.dropped', 't.text.length', 't.runner.gatherers[*].size', 't.runner.records.size', 't.runner.records.lost'], changes []
abbrev w_Tr_count (K : Nat → ClassId) (q_t : Nat) (q_t_text : Nat) (q_t_rules : Nat) (q_t_runner : Nat) (q_t_rules_e : Nat → Nat) (q_t_rules_e_steps : Nat → Nat) (q_t_runner_stack : Nat) (q_t_runner_variables : Nat) (q_t_runner_gatherers : Nat) (q_t_runner_records : Nat) (q_t_text_characters : Nat) (q_t_text_draft : Nat) (q_t_runner_gatherers_e : Nat → Nat) (q_t_runner_gatherers_e_keys : Nat → Nat) (q_t_runner_gatherers_e_least : Nat → Nat) (q_t_runner_gatherers_e_greatest : Nat → Nat) (q_t_runner_gatherers_e_sums : Nat → Nat) (q_t_runner_gatherers_e_values : Nat → Nat) (q_t_runner_gatherers_e_bins : Nat → Nat) (q_t_runner_records_ring : Nat) (t_place : Int32) (t_firings : Int32) (t_rules_e_length : Nat → Int32) (t_rules_e_actions : Nat → Int32) (t_rules_e_site : Nat → Int32) (t_rules_e_exit : Nat → Int32) (t_rules_e_conditional : Nat → Int32) (t_rules_e_there : Nat → Int32) (t_rules_e_on : Nat → Int32) (t_rules_e_failures : Nat → Int32) (t_rules_e_meetings : Nat → Int32) (t_runner_time : Int32) (t_runner_dropped : Int32) (t_runner_thread : Int32) (t_runner_handedA : UInt64) (t_runner_handedB : UInt64) (t_runner_handedC : UInt64) (t_runner_top : Int32) (t_runner_over : Int32) (t_runner_failed : Int32) (t_runner_met : Int32) (t_text_length : Int32) (t_text_at : Int32) (t_runner_gatherers_e_size : Nat → Int32) (t_runner_records_oldest : Int32) (t_runner_records_size : Int32) (t_runner_records_lost : Int32) (u : Unit) : va_W := [zo 5 q_t [.ref q_t_text, .ref q_t_rules, .ref q_t_runner, .int t_place, .int t_firings], zaR K 5 q_t_rules 6 (fun i => some (q_t_rules_e i)), zo 2 (q_t_rules_e 0) [.ref (q_t_rules_e_steps 0), .int (t_rules_e_length 0), .int (t_rules_e_actions 0), .int (t_rules_e_site 0), .int (t_rules_e_exit 0), .int (t_rules_e_conditional 0), .int (t_rules_e_there 0), .int (t_rules_e_on 0), .int (t_rules_e_failures 0), .int (t_rules_e_meetings 0)], zo 2 (q_t_rules_e 1) [.ref (q_t_rules_e_steps 1), .int (t_rules_e_length 1), .int (t_rules_e_actions 1), .int (t_rules_e_site 1), .int (t_rules_e_exit 1), .int (t_rules_e_conditional 1), .int (t_rules_e_there 1), .int (t_rules_e_on 1), .int (t_rules_e_failures 1), .int (t_rules_e_meetings 1)], zo 2 (q_t_rules_e 2) [.ref (q_t_rules_e_steps 2), .int (t_rules_e_length 2), .int (t_rules_e_actions 2), .int (t_rules_e_site 2), .int (t_rules_e_exit 2), .int (t_rules_e_conditional 2), .int (t_rules_e_there 2), .int (t_rules_e_on 2), .int (t_rules_e_failures 2), .int (t_rules_e_meetings 2)], zo 2 (q_t_rules_e 3) [.ref (q_t_rules_e_steps 3), .int (t_rules_e_length 3), .int (t_rules_e_actions 3), .int (t_rules_e_site 3), .int (t_rules_e_exit 3), .int (t_rules_e_conditional 3), .int (t_rules_e_there 3), .int (t_rules_e_on 3), .int (t_rules_e_failures 3), .int (t_rules_e_meetings 3)], zo 2 (q_t_rules_e 4) [.ref (q_t_rules_e_steps 4), .int (t_rules_e_length 4), .int (t_rules_e_actions 4), .int (t_rules_e_site 4), .int (t_rules_e_exit 4), .int (t_rules_e_conditional 4), .int (t_rules_e_there 4), .int (t_rules_e_on 4), .int (t_rules_e_failures 4), .int (t_rules_e_meetings 4)], zo 2 (q_t_rules_e 5) [.ref (q_t_rules_e_steps 5), .int (t_rules_e_length 5), .int (t_rules_e_actions 5), .int (t_rules_e_site 5), .int (t_rules_e_exit 5), .int (t_rules_e_conditional 5), .int (t_rules_e_there 5), .int (t_rules_e_on 5), .int (t_rules_e_failures 5), .int (t_rules_e_meetings 5)], zo 4 q_t_runner [.ref q_t_runner_stack, .ref q_t_runner_variables, .ref q_t_runner_gatherers, .ref q_t_runner_records, .int t_runner_time, .int t_runner_dropped, .int t_runner_thread, .double t_runner_handedA, .double t_runner_handedB, .double t_runner_handedC, .int t_runner_top, .int t_runner_over, .int t_runner_failed, .int t_runner_met], zo 3 q_t_text [.ref q_t_text_characters, .ref q_t_text_draft, .int t_text_length, .int t_text_at], zaR K 6 q_t_runner_gatherers 3 (fun i => some (q_t_runner_gatherers_e i)), zo 0 (q_t_runner_gatherers_e 0) [.ref (q_t_runner_gatherers_e_keys 0), .ref (q_t_runner_gatherers_e_least 0), .ref (q_t_runner_gatherers_e_greatest 0), .ref (q_t_runner_gatherers_e_sums 0), .ref (q_t_runner_gatherers_e_values 0), .ref (q_t_runner_gatherers_e_bins 0), .int (t_runner_gatherers_e_size 0)], zo 0 (q_t_runner_gatherers_e 1) [.ref (q_t_runner_gatherers_e_keys 1), .ref (q_t_runner_gatherers_e_least 1), .ref (q_t_runner_gatherers_e_greatest 1), .ref (q_t_runner_gatherers_e_sums 1), .ref (q_t_runner_gatherers_e_values 1), .ref (q_t_runner_gatherers_e_bins 1), .int (t_runner_gatherers_e_size 1)], zo 0 (q_t_runner_gatherers_e 2) [.ref (q_t_runner_gatherers_e_keys 2), .ref (q_t_runner_gatherers_e_least 2), .ref (q_t_runner_gatherers_e_greatest 2), .ref (q_t_runner_gatherers_e_sums 2), .ref (q_t_runner_gatherers_e_values 2), .ref (q_t_runner_gatherers_e_bins 2), .int (t_runner_gatherers_e_size 2)], zo 1 q_t_runner_records [.ref q_t_runner_records_ring, .int t_runner_records_oldest, .int t_runner_records_size, .int t_runner_records_lost]]
abbrev rm_Tr_count : Room := { frames := 1, cells := 0, slots := 0, locals := 22 }
abbrev wy_Tr_count : List Cond := .code y_Tr_count b_Tr_count 2 (some .int) :: zWT
def WP_Tr_count (t_place : Int32) (t_firings : Int32) (t_rules_e_there : Nat → Int32) (t_rules_e_on : Nat → Int32) (t_rules_e_failures : Nat → Int32) (t_rules_e_meetings : Nat → Int32) (t_runner_dropped : Int32) (t_text_length : Int32) (t_runner_gatherers_e_size : Nat → Int32) (t_runner_records_size : Int32) (t_runner_records_lost : Int32) (x1 : Int32) (Q : Int32 → Unit → Prop) : Prop := ((x1 < (20 : Int32)) → ((x1 < (30 : Int32)) → ((x1 < (8 : Int32)) → ((x1 = (0 : Int32)) → Q t_place ()) ∧ ((¬ x1 = (0 : Int32)) → ((x1 = (1 : Int32)) → Q t_text_length ()) ∧ ((¬ x1 = (1 : Int32)) → ((x1 = (2 : Int32)) → p_Tr_rulesThere t_rules_e_there ∧ (∀ (r13 : Int32), s_Tr_rulesThere t_rules_e_there = r13 → Q r13 ())) ∧ ((¬ x1 = (2 : Int32)) → ((x1 = (3 : Int32)) → p_Tr_rulesOn t_rules_e_on ∧ (∀ (r19 : Int32), s_Tr_rulesOn t_rules_e_on = r19 → Q r19 ())) ∧ ((¬ x1 = (3 : Int32)) → ((x1 = (4 : Int32)) → Q t_runner_records_size ()) ∧ ((¬ x1 = (4 : Int32)) → ((x1 = (5 : Int32)) → Q t_runner_records_lost ()) ∧ ((¬ x1 = (5 : Int32)) → ((x1 = (6 : Int32)) → Q t_runner_dropped ()) ∧ ((¬ x1 = (6 : Int32)) → ((x1 = (7 : Int32)) → Q t_firings ()) ∧ ((¬ x1 = (7 : Int32)) → Q (-2 : Int32) ()))))))))) ∧ ((¬ x1 < (8 : Int32)) → (((11 : Int32) ≤ x1) → ((x1 = (0 : Int32)) → Q t_place ()) ∧ ((¬ x1 = (0 : Int32)) → ((x1 = (1 : Int32)) → Q t_text_length ()) ∧ ((¬ x1 = (1 : Int32)) → ((x1 = (2 : Int32)) → p_Tr_rulesThere t_rules_e_there ∧ (∀ (r40 : Int32), s_Tr_rulesThere t_rules_e_there = r40 → Q r40 ())) ∧ ((¬ x1 = (2 : Int32)) → ((x1 = (3 : Int32)) → p_Tr_rulesOn t_rules_e_on ∧ (∀ (r46 : Int32), s_Tr_rulesOn t_rules_e_on = r46 → Q r46 ())) ∧ ((¬ x1 = (3 : Int32)) → ((x1 = (4 : Int32)) → Q t_runner_records_size ()) ∧ ((¬ x1 = (4 : Int32)) → ((x1 = (5 : Int32)) → Q t_runner_records_lost ()) ∧ ((¬ x1 = (5 : Int32)) → ((x1 = (6 : Int32)) → Q t_runner_dropped ()) ∧ ((¬ x1 = (6 : Int32)) → ((x1 = (7 : Int32)) → Q t_firings ()) ∧ ((¬ x1 = (7 : Int32)) → Q (-2 : Int32) ()))))))))) ∧ ((¬ (11 : Int32) ≤ x1) → vp_in (x1 - (8 : Int32)) 3 ∧ (∀ j60 : Nat, (x1 - (8 : Int32)) = nI j60 → j60 < 3 → Q (t_runner_gatherers_e_size j60) ())))) ∧ ((¬ x1 < (30 : Int32)) → (((36 : Int32) ≤ x1) → ((x1 < (8 : Int32)) → ((x1 = (0 : Int32)) → Q t_place ()) ∧ ((¬ x1 = (0 : Int32)) → ((x1 = (1 : Int32)) → Q t_text_length ()) ∧ ((¬ x1 = (1 : Int32)) → ((x1 = (2 : Int32)) → p_Tr_rulesThere t_rules_e_there ∧ (∀ (r74 : Int32), s_Tr_rulesThere t_rules_e_there = r74 → Q r74 ())) ∧ ((¬ x1 = (2 : Int32)) → ((x1 = (3 : Int32)) → p_Tr_rulesOn t_rules_e_on ∧ (∀ (r80 : Int32), s_Tr_rulesOn t_rules_e_on = r80 → Q r80 ())) ∧ ((¬ x1 = (3 : Int32)) → ((x1 = (4 : Int32)) → Q t_runner_records_size ()) ∧ ((¬ x1 = (4 : Int32)) → ((x1 = (5 : Int32)) → Q t_runner_records_lost ()) ∧ ((¬ x1 = (5 : Int32)) → ((x1 = (6 : Int32)) → Q t_runner_dropped ()) ∧ ((¬ x1 = (6 : Int32)) → ((x1 = (7 : Int32)) → Q t_firings ()) ∧ ((¬ x1 = (7 : Int32)) → Q (-2 : Int32) ()))))))))) ∧ ((¬ x1 < (8 : Int32)) → (((11 : Int32) ≤ x1) → ((x1 = (0 : Int32)) → Q t_place ()) ∧ ((¬ x1 = (0 : Int32)) → ((x1 = (1 : Int32)) → Q t_text_length ()) ∧ ((¬ x1 = (1 : Int32)) → ((x1 = (2 : Int32)) → p_Tr_rulesThere t_rules_e_there ∧ (∀ (r101 : Int32), s_Tr_rulesThere t_rules_e_there = r101 → Q r101 ())) ∧ ((¬ x1 = (2 : Int32)) → ((x1 = (3 : Int32)) → p_Tr_rulesOn t_rules_e_on ∧ (∀ (r107 : Int32), s_Tr_rulesOn t_rules_e_on = r107 → Q r107 ())) ∧ ((¬ x1 = (3 : Int32)) → ((x1 = (4 : Int32)) → Q t_runner_records_size ()) ∧ ((¬ x1 = (4 : Int32)) → ((x1 = (5 : Int32)) → Q t_runner_records_lost ()) ∧ ((¬ x1 = (5 : Int32)) → ((x1 = (6 : Int32)) → Q t_runner_dropped ()) ∧ ((¬ x1 = (6 : Int32)) → ((x1 = (7 : Int32)) → Q t_firings ()) ∧ ((¬ x1 = (7 : Int32)) → Q (-2 : Int32) ()))))))))) ∧ ((¬ (11 : Int32) ≤ x1) → vp_in (x1 - (8 : Int32)) 3 ∧ (∀ j121 : Nat, (x1 - (8 : Int32)) = nI j121 → j121 < 3 → Q (t_runner_gatherers_e_size j121) ())))) ∧ ((¬ (36 : Int32) ≤ x1) → vp_in (x1 - (30 : Int32)) 6 ∧ (∀ j126 : Nat, (x1 - (30 : Int32)) = nI j126 → j126 < 6 → (((t_rules_e_there j126) = 0) → Q (-1 : Int32) ()) ∧ ((¬ (t_rules_e_there j126) = 0) → Q (t_rules_e_meetings j126) ()))))) ∧ ((¬ x1 < (20 : Int32)) → (((26 : Int32) ≤ x1) → ((x1 < (30 : Int32)) → ((x1 < (8 : Int32)) → ((x1 = (0 : Int32)) → Q t_place ()) ∧ ((¬ x1 = (0 : Int32)) → ((x1 = (1 : Int32)) → Q t_text_length ()) ∧ ((¬ x1 = (1 : Int32)) → ((x1 = (2 : Int32)) → p_Tr_rulesThere t_rules_e_there ∧ (∀ (r159 : Int32), s_Tr_rulesThere t_rules_e_there = r159 → Q r159 ())) ∧ ((¬ x1 = (2 : Int32)) → ((x1 = (3 : Int32)) → p_Tr_rulesOn t_rules_e_on ∧ (∀ (r165 : Int32), s_Tr_rulesOn t_rules_e_on = r165 → Q r165 ())) ∧ ((¬ x1 = (3 : Int32)) → ((x1 = (4 : Int32)) → Q t_runner_records_size ()) ∧ ((¬ x1 = (4 : Int32)) → ((x1 = (5 : Int32)) → Q t_runner_records_lost ()) ∧ ((¬ x1 = (5 : Int32)) → ((x1 = (6 : Int32)) → Q t_runner_dropped ()) ∧ ((¬ x1 = (6 : Int32)) → ((x1 = (7 : Int32)) → Q t_firings ()) ∧ ((¬ x1 = (7 : Int32)) → Q (-2 : Int32) ()))))))))) ∧ ((¬ x1 < (8 : Int32)) → (((11 : Int32) ≤ x1) → ((x1 = (0 : Int32)) → Q t_place ()) ∧ ((¬ x1 = (0 : Int32)) → ((x1 = (1 : Int32)) → Q t_text_length ()) ∧ ((¬ x1 = (1 : Int32)) → ((x1 = (2 : Int32)) → p_Tr_rulesThere t_rules_e_there ∧ (∀ (r186 : Int32), s_Tr_rulesThere t_rules_e_there = r186 → Q r186 ())) ∧ ((¬ x1 = (2 : Int32)) → ((x1 = (3 : Int32)) → p_Tr_rulesOn t_rules_e_on ∧ (∀ (r192 : Int32), s_Tr_rulesOn t_rules_e_on = r192 → Q r192 ())) ∧ ((¬ x1 = (3 : Int32)) → ((x1 = (4 : Int32)) → Q t_runner_records_size ()) ∧ ((¬ x1 = (4 : Int32)) → ((x1 = (5 : Int32)) → Q t_runner_records_lost ()) ∧ ((¬ x1 = (5 : Int32)) → ((x1 = (6 : Int32)) → Q t_runner_dropped ()) ∧ ((¬ x1 = (6 : Int32)) → ((x1 = (7 : Int32)) → Q t_firings ()) ∧ ((¬ x1 = (7 : Int32)) → Q (-2 : Int32) ()))))))))) ∧ ((¬ (11 : Int32) ≤ x1) → vp_in (x1 - (8 : Int32)) 3 ∧ (∀ j206 : Nat, (x1 - (8 : Int32)) = nI j206 → j206 < 3 → Q (t_runner_gatherers_e_size j206) ())))) ∧ ((¬ x1 < (30 : Int32)) → (((36 : Int32) ≤ x1) → ((x1 < (8 : Int32)) → ((x1 = (0 : Int32)) → Q t_place ()) ∧ ((¬ x1 = (0 : Int32)) → ((x1 = (1 : Int32)) → Q t_text_length ()) ∧ ((¬ x1 = (1 : Int32)) → ((x1 = (2 : Int32)) → p_Tr_rulesThere t_rules_e_there ∧ (∀ (r220 : Int32), s_Tr_rulesThere t_rules_e_there = r220 → Q r220 ())) ∧ ((¬ x1 = (2 : Int32)) → ((x1 = (3 : Int32)) → p_Tr_rulesOn t_rules_e_on ∧ (∀ (r226 : Int32), s_Tr_rulesOn t_rules_e_on = r226 → Q r226 ())) ∧ ((¬ x1 = (3 : Int32)) → ((x1 = (4 : Int32)) → Q t_runner_records_size ()) ∧ ((¬ x1 = (4 : Int32)) → ((x1 = (5 : Int32)) → Q t_runner_records_lost ()) ∧ ((¬ x1 = (5 : Int32)) → ((x1 = (6 : Int32)) → Q t_runner_dropped ()) ∧ ((¬ x1 = (6 : Int32)) → ((x1 = (7 : Int32)) → Q t_firings ()) ∧ ((¬ x1 = (7 : Int32)) → Q (-2 : Int32) ()))))))))) ∧ ((¬ x1 < (8 : Int32)) → (((11 : Int32) ≤ x1) → ((x1 = (0 : Int32)) → Q t_place ()) ∧ ((¬ x1 = (0 : Int32)) → ((x1 = (1 : Int32)) → Q t_text_length ()) ∧ ((¬ x1 = (1 : Int32)) → ((x1 = (2 : Int32)) → p_Tr_rulesThere t_rules_e_there ∧ (∀ (r247 : Int32), s_Tr_rulesThere t_rules_e_there = r247 → Q r247 ())) ∧ ((¬ x1 = (2 : Int32)) → ((x1 = (3 : Int32)) → p_Tr_rulesOn t_rules_e_on ∧ (∀ (r253 : Int32), s_Tr_rulesOn t_rules_e_on = r253 → Q r253 ())) ∧ ((¬ x1 = (3 : Int32)) → ((x1 = (4 : Int32)) → Q t_runner_records_size ()) ∧ ((¬ x1 = (4 : Int32)) → ((x1 = (5 : Int32)) → Q t_runner_records_lost ()) ∧ ((¬ x1 = (5 : Int32)) → ((x1 = (6 : Int32)) → Q t_runner_dropped ()) ∧ ((¬ x1 = (6 : Int32)) → ((x1 = (7 : Int32)) → Q t_firings ()) ∧ ((¬ x1 = (7 : Int32)) → Q (-2 : Int32) ()))))))))) ∧ ((¬ (11 : Int32) ≤ x1) → vp_in (x1 - (8 : Int32)) 3 ∧ (∀ j267 : Nat, (x1 - (8 : Int32)) = nI j267 → j267 < 3 → Q (t_runner_gatherers_e_size j267) ())))) ∧ ((¬ (36 : Int32) ≤ x1) → vp_in (x1 - (30 : Int32)) 6 ∧ (∀ j272 : Nat, (x1 - (30 : Int32)) = nI j272 → j272 < 6 → (((t_rules_e_there j272) = 0) → Q (-1 : Int32) ()) ∧ ((¬ (t_rules_e_there j272) = 0) → Q (t_rules_e_meetings j272) ()))))) ∧ ((¬ (26 : Int32) ≤ x1) → vp_in (x1 - (20 : Int32)) 6 ∧ (∀ j294 : Nat, (x1 - (20 : Int32)) = nI j294 → j294 < 6 → (((t_rules_e_there j294) = 0) → Q (-1 : Int32) ()) ∧ ((¬ (t_rules_e_there j294) = 0) → Q (t_rules_e_failures j294) ()))))
set_option maxHeartbeats 4000000 in
set_option maxRecDepth 100000 in
theorem cw_Tr_count (l : Launch) (D : va_G) (K : Nat → ClassId) (q_t : Nat) (q_t_text : Nat) (q_t_rules : Nat) (q_t_runner : Nat) (q_t_rules_e : Nat → Nat) (q_t_rules_e_steps : Nat → Nat) (q_t_runner_stack : Nat) (q_t_runner_variables : Nat) (q_t_runner_gatherers : Nat) (q_t_runner_records : Nat) (q_t_text_characters : Nat) (q_t_text_draft : Nat) (q_t_runner_gatherers_e : Nat → Nat) (q_t_runner_gatherers_e_keys : Nat → Nat) (q_t_runner_gatherers_e_least : Nat → Nat) (q_t_runner_gatherers_e_greatest : Nat → Nat) (q_t_runner_gatherers_e_sums : Nat → Nat) (q_t_runner_gatherers_e_values : Nat → Nat) (q_t_runner_gatherers_e_bins : Nat → Nat) (q_t_runner_records_ring : Nat) (t_place : Int32) (t_firings : Int32) (t_rules_e_length : Nat → Int32) (t_rules_e_actions : Nat → Int32) (t_rules_e_site : Nat → Int32) (t_rules_e_exit : Nat → Int32) (t_rules_e_conditional : Nat → Int32) (t_rules_e_there : Nat → Int32) (t_rules_e_on : Nat → Int32) (t_rules_e_failures : Nat → Int32) (t_rules_e_meetings : Nat → Int32) (t_runner_time : Int32) (t_runner_dropped : Int32) (t_runner_thread : Int32) (t_runner_handedA : UInt64) (t_runner_handedB : UInt64) (t_runner_handedC : UInt64) (t_runner_top : Int32) (t_runner_over : Int32) (t_runner_failed : Int32) (t_runner_met : Int32) (t_text_length : Int32) (t_text_at : Int32) (t_runner_gatherers_e_size : Nat → Int32) (t_runner_records_oldest : Int32) (t_runner_records_size : Int32) (t_runner_records_lost : Int32) (x1 : Int32) {Q : Int32 → Unit → Prop} (hS0 : WP_Tr_count t_place t_firings t_rules_e_there t_rules_e_on t_rules_e_failures t_rules_e_meetings t_runner_dropped t_text_length t_runner_gatherers_e_size t_runner_records_size t_runner_records_lost x1 Q) : zCi l y_Tr_count wy_Tr_count rm_Tr_count D zcl (zT K) [.ref q_t, .int x1] (w_Tr_count K q_t q_t_text q_t_rules q_t_runner q_t_rules_e q_t_rules_e_steps q_t_runner_stack q_t_runner_variables q_t_runner_gatherers q_t_runner_records q_t_text_characters q_t_text_draft q_t_runner_gatherers_e q_t_runner_gatherers_e_keys q_t_runner_gatherers_e_least q_t_runner_gatherers_e_greatest q_t_runner_gatherers_e_sums q_t_runner_gatherers_e_values q_t_runner_gatherers_e_bins q_t_runner_records_ring t_place t_firings t_rules_e_length t_rules_e_actions t_rules_e_site t_rules_e_exit t_rules_e_conditional t_rules_e_there t_rules_e_on t_rules_e_failures t_rules_e_meetings t_runner_time t_runner_dropped t_runner_thread t_runner_handedA t_runner_handedB t_runner_handedC t_runner_top t_runner_over t_runner_failed t_runner_met t_text_length t_text_at t_runner_gatherers_e_size t_runner_records_oldest t_runner_records_size t_runner_records_lost ()) (w_Tr_count K q_t q_t_text q_t_rules q_t_runner q_t_rules_e q_t_rules_e_steps q_t_runner_stack q_t_runner_variables q_t_runner_gatherers q_t_runner_records q_t_text_characters q_t_text_draft q_t_runner_gatherers_e q_t_runner_gatherers_e_keys q_t_runner_gatherers_e_least q_t_runner_gatherers_e_greatest q_t_runner_gatherers_e_sums q_t_runner_gatherers_e_values q_t_runner_gatherers_e_bins q_t_runner_records_ring t_place t_firings t_rules_e_length t_rules_e_actions t_rules_e_site t_rules_e_exit t_rules_e_conditional t_rules_e_there t_rules_e_on t_rules_e_failures t_rules_e_meetings t_runner_time t_runner_dropped t_runner_thread t_runner_handedA t_runner_handedB t_runner_handedC t_runner_top t_runner_over t_runner_failed t_runner_met t_text_length t_text_at t_runner_gatherers_e_size t_runner_records_oldest t_runner_records_size t_runner_records_lost) Q 0 0 := by
  refine z_meti (cc := b_Tr_count) (maxL := 2) (ret := (some .int)) (by decide) rfl (Nat.le_of_ble_eq_true rfl) ?_
  intro p e s m args below meth c A C hr hlk hnm
  refine z_lpick (lv' := [(0, .ref q_t), (1, .int x1)]) [0, 1] rfl ?_
  refine z_weq (ws' := [zo 5 q_t [.ref q_t_text, .ref q_t_rules, .ref q_t_runner, .int t_place, .int t_firings], zaR K 5 q_t_rules 6 (fun i => some (q_t_rules_e i)), zo 2 (q_t_rules_e 0) [.ref (q_t_rules_e_steps 0), .int (t_rules_e_length 0), .int (t_rules_e_actions 0), .int (t_rules_e_site 0), .int (t_rules_e_exit 0), .int (t_rules_e_conditional 0), .int (t_rules_e_there 0), .int (t_rules_e_on 0), .int (t_rules_e_failures 0), .int (t_rules_e_meetings 0)], zo 2 (q_t_rules_e 1) [.ref (q_t_rules_e_steps 1), .int (t_rules_e_length 1), .int (t_rules_e_actions 1), .int (t_rules_e_site 1), .int (t_rules_e_exit 1), .int (t_rules_e_conditional 1), .int (t_rules_e_there 1), .int (t_rules_e_on 1), .int (t_rules_e_failures 1), .int (t_rules_e_meetings 1)], zo 2 (q_t_rules_e 2) [.ref (q_t_rules_e_steps 2), .int (t_rules_e_length 2), .int (t_rules_e_actions 2), .int (t_rules_e_site 2), .int (t_rules_e_exit 2), .int (t_rules_e_conditional 2), .int (t_rules_e_there 2), .int (t_rules_e_on 2), .int (t_rules_e_failures 2), .int (t_rules_e_meetings 2)], zo 2 (q_t_rules_e 3) [.ref (q_t_rules_e_steps 3), .int (t_rules_e_length 3), .int (t_rules_e_actions 3), .int (t_rules_e_site 3), .int (t_rules_e_exit 3), .int (t_rules_e_conditional 3), .int (t_rules_e_there 3), .int (t_rules_e_on 3), .int (t_rules_e_failures 3), .int (t_rules_e_meetings 3)], zo 2 (q_t_rules_e 4) [.ref (q_t_rules_e_steps 4), .int (t_rules_e_length 4), .int (t_rules_e_actions 4), .int (t_rules_e_site 4), .int (t_rules_e_exit 4), .int (t_rules_e_conditional 4), .int (t_rules_e_there 4), .int (t_rules_e_on 4), .int (t_rules_e_failures 4), .int (t_rules_e_meetings 4)], zo 2 (q_t_rules_e 5) [.ref (q_t_rules_e_steps 5), .int (t_rules_e_length 5), .int (t_rules_e_actions 5), .int (t_rules_e_site 5), .int (t_rules_e_exit 5), .int (t_rules_e_conditional 5), .int (t_rules_e_there 5), .int (t_rules_e_on 5), .int (t_rules_e_failures 5), .int (t_rules_e_meetings 5)], zo 4 q_t_runner [.ref q_t_runner_stack, .ref q_t_runner_variables, .ref q_t_runner_gatherers, .ref q_t_runner_records, .int t_runner_time, .int t_runner_dropped, .int t_runner_thread, .double t_runner_handedA, .double t_runner_handedB, .double t_runner_handedC, .int t_runner_top, .int t_runner_over, .int t_runner_failed, .int t_runner_met], zo 3 q_t_text [.ref q_t_text_characters, .ref q_t_text_draft, .int t_text_length, .int t_text_at], zaR K 6 q_t_runner_gatherers 3 (fun i => some (q_t_runner_gatherers_e i)), zo 0 (q_t_runner_gatherers_e 0) [.ref (q_t_runner_gatherers_e_keys 0), .ref (q_t_runner_gatherers_e_least 0), .ref (q_t_runner_gatherers_e_greatest 0), .ref (q_t_runner_gatherers_e_sums 0), .ref (q_t_runner_gatherers_e_values 0), .ref (q_t_runner_gatherers_e_bins 0), .int (t_runner_gatherers_e_size 0)], zo 0 (q_t_runner_gatherers_e 1) [.ref (q_t_runner_gatherers_e_keys 1), .ref (q_t_runner_gatherers_e_least 1), .ref (q_t_runner_gatherers_e_greatest 1), .ref (q_t_runner_gatherers_e_sums 1), .ref (q_t_runner_gatherers_e_values 1), .ref (q_t_runner_gatherers_e_bins 1), .int (t_runner_gatherers_e_size 1)], zo 0 (q_t_runner_gatherers_e 2) [.ref (q_t_runner_gatherers_e_keys 2), .ref (q_t_runner_gatherers_e_least 2), .ref (q_t_runner_gatherers_e_greatest 2), .ref (q_t_runner_gatherers_e_sums 2), .ref (q_t_runner_gatherers_e_values 2), .ref (q_t_runner_gatherers_e_bins 2), .int (t_runner_gatherers_e_size 2)], zo 1 q_t_runner_records [.ref q_t_runner_records_ring, .int t_runner_records_oldest, .int t_runner_records_size, .int t_runner_records_lost]]) rfl ?_
  refine z_iload_n C d_Tr_count_0 rfl 1 rfl ?_
  refine z_bipush (v := (20 : Int32)) C d_Tr_count_1 (by decide) ?_
  refine z_icmp_lt (tgt := 44) C d_Tr_count_3 (by decide) (fun c1 => ?_) (fun c1 => ?_)
  · have hS2 := hS0.1 c1
    refine z_iload_n C d_Tr_count_44 rfl 1 rfl ?_
    refine z_bipush (v := (30 : Int32)) C d_Tr_count_45 (by decide) ?_
    refine z_icmp_lt (tgt := 88) C d_Tr_count_47 (by decide) (fun c3 => ?_) (fun c3 => ?_)
    · have hS4 := hS2.1 c3
      refine z_iload_n C d_Tr_count_88 rfl 1 rfl ?_
      refine z_bipush (v := (8 : Int32)) C d_Tr_count_89 (by decide) ?_
      refine z_icmp_lt (tgt := 116) C d_Tr_count_91 (by decide) (fun c5 => ?_) (fun c5 => ?_)
      · have hS6 := hS4.1 c5
        refine z_iload_n C d_Tr_count_116 rfl 1 rfl ?_
        by_cases c7_0 : x1 = (0 : Int32)
        · refine z_tableIn (tgt := 164) C d_Tr_count_117 (by rw [c7_0]; decide) (by rw [c7_0]; decide) (by rw [c7_0]; rfl) (by decide) ?_
          have hS8 := hS6.1 c7_0
          refine z_aload_n C d_Tr_count_164 rfl 0 rfl ?_
          refine z_get C 0 rfl rfl in_Tr 3 (by decide) rfl wf_Tr_30 rfl d_Tr_count_165 ?_
          exact z_iret C hr hlk () rfl hS8 d_Tr_count_168
        have hS9 := hS6.2 c7_0
        by_cases c7_1 : x1 = (1 : Int32)
        · refine z_tableIn (tgt := 169) C d_Tr_count_117 (by rw [c7_1]; decide) (by rw [c7_1]; decide) (by rw [c7_1]; rfl) (by decide) ?_
          have hS10 := hS9.1 c7_1
          refine z_aload_n C d_Tr_count_169 rfl 0 rfl ?_
          refine z_get C 0 rfl rfl in_Tr 0 (by decide) rfl wf_Tr_10 rfl d_Tr_count_170 ?_
          refine z_get C 9 rfl rfl in_Te 2 (by decide) rfl wf_Tr_57 rfl d_Tr_count_173 ?_
          exact z_iret C hr hlk () rfl hS10 d_Tr_count_176
        have hS11 := hS9.2 c7_1
        by_cases c7_2 : x1 = (2 : Int32)
        · refine z_tableIn (tgt := 177) C d_Tr_count_117 (by rw [c7_2]; decide) (by rw [c7_2]; decide) (by rw [c7_2]; rfl) (by decide) ?_
          have hS12 := hS11.1 c7_2
          refine z_aload_n C d_Tr_count_177 rfl 0 rfl ?_
          refine z_callVi (As := []) (b := q_t) (st := []) (wr := [zo 4 q_t_runner [.ref q_t_runner_stack, .ref q_t_runner_variables, .ref q_t_runner_gatherers, .ref q_t_runner_records, .int t_runner_time, .int t_runner_dropped, .int t_runner_thread, .double t_runner_handedA, .double t_runner_handedB, .double t_runner_handedC, .int t_runner_top, .int t_runner_over, .int t_runner_failed, .int t_runner_met], zo 3 q_t_text [.ref q_t_text_characters, .ref q_t_text_draft, .int t_text_length, .int t_text_at], zaR K 6 q_t_runner_gatherers 3 (fun i => some (q_t_runner_gatherers_e i)), zo 0 (q_t_runner_gatherers_e 0) [.ref (q_t_runner_gatherers_e_keys 0), .ref (q_t_runner_gatherers_e_least 0), .ref (q_t_runner_gatherers_e_greatest 0), .ref (q_t_runner_gatherers_e_sums 0), .ref (q_t_runner_gatherers_e_values 0), .ref (q_t_runner_gatherers_e_bins 0), .int (t_runner_gatherers_e_size 0)], zo 0 (q_t_runner_gatherers_e 1) [.ref (q_t_runner_gatherers_e_keys 1), .ref (q_t_runner_gatherers_e_least 1), .ref (q_t_runner_gatherers_e_greatest 1), .ref (q_t_runner_gatherers_e_sums 1), .ref (q_t_runner_gatherers_e_values 1), .ref (q_t_runner_gatherers_e_bins 1), .int (t_runner_gatherers_e_size 1)], zo 0 (q_t_runner_gatherers_e 2) [.ref (q_t_runner_gatherers_e_keys 2), .ref (q_t_runner_gatherers_e_least 2), .ref (q_t_runner_gatherers_e_greatest 2), .ref (q_t_runner_gatherers_e_sums 2), .ref (q_t_runner_gatherers_e_values 2), .ref (q_t_runner_gatherers_e_bins 2), .int (t_runner_gatherers_e_size 2)], zo 1 q_t_runner_records [.ref q_t_runner_records_ring, .int t_runner_records_oldest, .int t_runner_records_size, .int t_runner_records_lost]]) (wj := fun u => [zo 5 q_t [.ref q_t_text, .ref q_t_rules, .ref q_t_runner, .int t_place, .int t_firings], zaR K 5 q_t_rules 6 (fun i => some (q_t_rules_e i)), zo 2 (q_t_rules_e 0) [.ref (q_t_rules_e_steps 0), .int (t_rules_e_length 0), .int (t_rules_e_actions 0), .int (t_rules_e_site 0), .int (t_rules_e_exit 0), .int (t_rules_e_conditional 0), .int (t_rules_e_there 0), .int (t_rules_e_on 0), .int (t_rules_e_failures 0), .int (t_rules_e_meetings 0)], zo 2 (q_t_rules_e 1) [.ref (q_t_rules_e_steps 1), .int (t_rules_e_length 1), .int (t_rules_e_actions 1), .int (t_rules_e_site 1), .int (t_rules_e_exit 1), .int (t_rules_e_conditional 1), .int (t_rules_e_there 1), .int (t_rules_e_on 1), .int (t_rules_e_failures 1), .int (t_rules_e_meetings 1)], zo 2 (q_t_rules_e 2) [.ref (q_t_rules_e_steps 2), .int (t_rules_e_length 2), .int (t_rules_e_actions 2), .int (t_rules_e_site 2), .int (t_rules_e_exit 2), .int (t_rules_e_conditional 2), .int (t_rules_e_there 2), .int (t_rules_e_on 2), .int (t_rules_e_failures 2), .int (t_rules_e_meetings 2)], zo 2 (q_t_rules_e 3) [.ref (q_t_rules_e_steps 3), .int (t_rules_e_length 3), .int (t_rules_e_actions 3), .int (t_rules_e_site 3), .int (t_rules_e_exit 3), .int (t_rules_e_conditional 3), .int (t_rules_e_there 3), .int (t_rules_e_on 3), .int (t_rules_e_failures 3), .int (t_rules_e_meetings 3)], zo 2 (q_t_rules_e 4) [.ref (q_t_rules_e_steps 4), .int (t_rules_e_length 4), .int (t_rules_e_actions 4), .int (t_rules_e_site 4), .int (t_rules_e_exit 4), .int (t_rules_e_conditional 4), .int (t_rules_e_there 4), .int (t_rules_e_on 4), .int (t_rules_e_failures 4), .int (t_rules_e_meetings 4)], zo 2 (q_t_rules_e 5) [.ref (q_t_rules_e_steps 5), .int (t_rules_e_length 5), .int (t_rules_e_actions 5), .int (t_rules_e_site 5), .int (t_rules_e_exit 5), .int (t_rules_e_conditional 5), .int (t_rules_e_there 5), .int (t_rules_e_on 5), .int (t_rules_e_failures 5), .int (t_rules_e_meetings 5)], zo 4 q_t_runner [.ref q_t_runner_stack, .ref q_t_runner_variables, .ref q_t_runner_gatherers, .ref q_t_runner_records, .int t_runner_time, .int t_runner_dropped, .int t_runner_thread, .double t_runner_handedA, .double t_runner_handedB, .double t_runner_handedC, .int t_runner_top, .int t_runner_over, .int t_runner_failed, .int t_runner_met], zo 3 q_t_text [.ref q_t_text_characters, .ref q_t_text_draft, .int t_text_length, .int t_text_at], zaR K 6 q_t_runner_gatherers 3 (fun i => some (q_t_runner_gatherers_e i)), zo 0 (q_t_runner_gatherers_e 0) [.ref (q_t_runner_gatherers_e_keys 0), .ref (q_t_runner_gatherers_e_least 0), .ref (q_t_runner_gatherers_e_greatest 0), .ref (q_t_runner_gatherers_e_sums 0), .ref (q_t_runner_gatherers_e_values 0), .ref (q_t_runner_gatherers_e_bins 0), .int (t_runner_gatherers_e_size 0)], zo 0 (q_t_runner_gatherers_e 1) [.ref (q_t_runner_gatherers_e_keys 1), .ref (q_t_runner_gatherers_e_least 1), .ref (q_t_runner_gatherers_e_greatest 1), .ref (q_t_runner_gatherers_e_sums 1), .ref (q_t_runner_gatherers_e_values 1), .ref (q_t_runner_gatherers_e_bins 1), .int (t_runner_gatherers_e_size 1)], zo 0 (q_t_runner_gatherers_e 2) [.ref (q_t_runner_gatherers_e_keys 2), .ref (q_t_runner_gatherers_e_least 2), .ref (q_t_runner_gatherers_e_greatest 2), .ref (q_t_runner_gatherers_e_sums 2), .ref (q_t_runner_gatherers_e_values 2), .ref (q_t_runner_gatherers_e_bins 2), .int (t_runner_gatherers_e_size 2)], zo 1 q_t_runner_records [.ref q_t_runner_records_ring, .int t_runner_records_oldest, .int t_runner_records_size, .int t_runner_records_lost]]) C 0 rfl rfl (c_Tr_rulesThere l D K q_t q_t_text q_t_rules q_t_runner q_t_rules_e q_t_rules_e_steps t_place t_firings t_rules_e_length t_rules_e_actions t_rules_e_site t_rules_e_exit t_rules_e_conditional t_rules_e_there t_rules_e_on t_rules_e_failures t_rules_e_meetings hS12.1) (cwV 0 C.2.2.2.2.1 (z_gV wl_Tr_185 wi_Tr_rulesThere wv_Tr_rulesThere wz_Tr wk_Tr_rulesThere) rfl rfl rfl (by decide +kernel) ⟨Nat.le_of_ble_eq_true rfl, Nat.le_of_ble_eq_true rfl⟩) [0, 1, 2, 3, 4, 5, 6, 7] [8, 9, 10, 11, 12, 13, 14] [7, 8, 9, 10, 11, 12, 13, 14, 0, 1, 2, 3, 4, 5, 6] rfl rfl rfl rfl (by decide) (fun _ => rfl) rfl rfl rfl (Nat.le_of_ble_eq_true rfl) d_Tr_count_178 ⟨Nat.le_of_ble_eq_true rfl, Nat.le_of_ble_eq_true rfl⟩ (fun r13 u14 e15 => ?_)
          have hS16 := hS12.2 r13 e15
          exact z_iret C hr hlk () rfl hS16 d_Tr_count_181
        have hS17 := hS11.2 c7_2
        by_cases c7_3 : x1 = (3 : Int32)
        · refine z_tableIn (tgt := 182) C d_Tr_count_117 (by rw [c7_3]; decide) (by rw [c7_3]; decide) (by rw [c7_3]; rfl) (by decide) ?_
          have hS18 := hS17.1 c7_3
          refine z_aload_n C d_Tr_count_182 rfl 0 rfl ?_
          refine z_callVi (As := []) (b := q_t) (st := []) (wr := [zo 4 q_t_runner [.ref q_t_runner_stack, .ref q_t_runner_variables, .ref q_t_runner_gatherers, .ref q_t_runner_records, .int t_runner_time, .int t_runner_dropped, .int t_runner_thread, .double t_runner_handedA, .double t_runner_handedB, .double t_runner_handedC, .int t_runner_top, .int t_runner_over, .int t_runner_failed, .int t_runner_met], zo 3 q_t_text [.ref q_t_text_characters, .ref q_t_text_draft, .int t_text_length, .int t_text_at], zaR K 6 q_t_runner_gatherers 3 (fun i => some (q_t_runner_gatherers_e i)), zo 0 (q_t_runner_gatherers_e 0) [.ref (q_t_runner_gatherers_e_keys 0), .ref (q_t_runner_gatherers_e_least 0), .ref (q_t_runner_gatherers_e_greatest 0), .ref (q_t_runner_gatherers_e_sums 0), .ref (q_t_runner_gatherers_e_values 0), .ref (q_t_runner_gatherers_e_bins 0), .int (t_runner_gatherers_e_size 0)], zo 0 (q_t_runner_gatherers_e 1) [.ref (q_t_runner_gatherers_e_keys 1), .ref (q_t_runner_gatherers_e_least 1), .ref (q_t_runner_gatherers_e_greatest 1), .ref (q_t_runner_gatherers_e_sums 1), .ref (q_t_runner_gatherers_e_values 1), .ref (q_t_runner_gatherers_e_bins 1), .int (t_runner_gatherers_e_size 1)], zo 0 (q_t_runner_gatherers_e 2) [.ref (q_t_runner_gatherers_e_keys 2), .ref (q_t_runner_gatherers_e_least 2), .ref (q_t_runner_gatherers_e_greatest 2), .ref (q_t_runner_gatherers_e_sums 2), .ref (q_t_runner_gatherers_e_values 2), .ref (q_t_runner_gatherers_e_bins 2), .int (t_runner_gatherers_e_size 2)], zo 1 q_t_runner_records [.ref q_t_runner_records_ring, .int t_runner_records_oldest, .int t_runner_records_size, .int t_runner_records_lost]]) (wj := fun u => [zo 5 q_t [.ref q_t_text, .ref q_t_rules, .ref q_t_runner, .int t_place, .int t_firings], zaR K 5 q_t_rules 6 (fun i => some (q_t_rules_e i)), zo 2 (q_t_rules_e 0) [.ref (q_t_rules_e_steps 0), .int (t_rules_e_length 0), .int (t_rules_e_actions 0), .int (t_rules_e_site 0), .int (t_rules_e_exit 0), .int (t_rules_e_conditional 0), .int (t_rules_e_there 0), .int (t_rules_e_on 0), .int (t_rules_e_failures 0), .int (t_rules_e_meetings 0)], zo 2 (q_t_rules_e 1) [.ref (q_t_rules_e_steps 1), .int (t_rules_e_length 1), .int (t_rules_e_actions 1), .int (t_rules_e_site 1), .int (t_rules_e_exit 1), .int (t_rules_e_conditional 1), .int (t_rules_e_there 1), .int (t_rules_e_on 1), .int (t_rules_e_failures 1), .int (t_rules_e_meetings 1)], zo 2 (q_t_rules_e 2) [.ref (q_t_rules_e_steps 2), .int (t_rules_e_length 2), .int (t_rules_e_actions 2), .int (t_rules_e_site 2), .int (t_rules_e_exit 2), .int (t_rules_e_conditional 2), .int (t_rules_e_there 2), .int (t_rules_e_on 2), .int (t_rules_e_failures 2), .int (t_rules_e_meetings 2)], zo 2 (q_t_rules_e 3) [.ref (q_t_rules_e_steps 3), .int (t_rules_e_length 3), .int (t_rules_e_actions 3), .int (t_rules_e_site 3), .int (t_rules_e_exit 3), .int (t_rules_e_conditional 3), .int (t_rules_e_there 3), .int (t_rules_e_on 3), .int (t_rules_e_failures 3), .int (t_rules_e_meetings 3)], zo 2 (q_t_rules_e 4) [.ref (q_t_rules_e_steps 4), .int (t_rules_e_length 4), .int (t_rules_e_actions 4), .int (t_rules_e_site 4), .int (t_rules_e_exit 4), .int (t_rules_e_conditional 4), .int (t_rules_e_there 4), .int (t_rules_e_on 4), .int (t_rules_e_failures 4), .int (t_rules_e_meetings 4)], zo 2 (q_t_rules_e 5) [.ref (q_t_rules_e_steps 5), .int (t_rules_e_length 5), .int (t_rules_e_actions 5), .int (t_rules_e_site 5), .int (t_rules_e_exit 5), .int (t_rules_e_conditional 5), .int (t_rules_e_there 5), .int (t_rules_e_on 5), .int (t_rules_e_failures 5), .int (t_rules_e_meetings 5)], zo 4 q_t_runner [.ref q_t_runner_stack, .ref q_t_runner_variables, .ref q_t_runner_gatherers, .ref q_t_runner_records, .int t_runner_time, .int t_runner_dropped, .int t_runner_thread, .double t_runner_handedA, .double t_runner_handedB, .double t_runner_handedC, .int t_runner_top, .int t_runner_over, .int t_runner_failed, .int t_runner_met], zo 3 q_t_text [.ref q_t_text_characters, .ref q_t_text_draft, .int t_text_length, .int t_text_at], zaR K 6 q_t_runner_gatherers 3 (fun i => some (q_t_runner_gatherers_e i)), zo 0 (q_t_runner_gatherers_e 0) [.ref (q_t_runner_gatherers_e_keys 0), .ref (q_t_runner_gatherers_e_least 0), .ref (q_t_runner_gatherers_e_greatest 0), .ref (q_t_runner_gatherers_e_sums 0), .ref (q_t_runner_gatherers_e_values 0), .ref (q_t_runner_gatherers_e_bins 0), .int (t_runner_gatherers_e_size 0)], zo 0 (q_t_runner_gatherers_e 1) [.ref (q_t_runner_gatherers_e_keys 1), .ref (q_t_runner_gatherers_e_least 1), .ref (q_t_runner_gatherers_e_greatest 1), .ref (q_t_runner_gatherers_e_sums 1), .ref (q_t_runner_gatherers_e_values 1), .ref (q_t_runner_gatherers_e_bins 1), .int (t_runner_gatherers_e_size 1)], zo 0 (q_t_runner_gatherers_e 2) [.ref (q_t_runner_gatherers_e_keys 2), .ref (q_t_runner_gatherers_e_least 2), .ref (q_t_runner_gatherers_e_greatest 2), .ref (q_t_runner_gatherers_e_sums 2), .ref (q_t_runner_gatherers_e_values 2), .ref (q_t_runner_gatherers_e_bins 2), .int (t_runner_gatherers_e_size 2)], zo 1 q_t_runner_records [.ref q_t_runner_records_ring, .int t_runner_records_oldest, .int t_runner_records_size, .int t_runner_records_lost]]) C 0 rfl rfl (c_Tr_rulesOn l D K q_t q_t_text q_t_rules q_t_runner q_t_rules_e q_t_rules_e_steps t_place t_firings t_rules_e_length t_rules_e_actions t_rules_e_site t_rules_e_exit t_rules_e_conditional t_rules_e_there t_rules_e_on t_rules_e_failures t_rules_e_meetings hS18.1) (cwV 0 C.2.2.2.2.1 (z_gV wl_Tr_97 wi_Tr_rulesOn wv_Tr_rulesOn wz_Tr wk_Tr_rulesOn) rfl rfl rfl (by decide +kernel) ⟨Nat.le_of_ble_eq_true rfl, Nat.le_of_ble_eq_true rfl⟩) [0, 1, 2, 3, 4, 5, 6, 7] [8, 9, 10, 11, 12, 13, 14] [7, 8, 9, 10, 11, 12, 13, 14, 0, 1, 2, 3, 4, 5, 6] rfl rfl rfl rfl (by decide) (fun _ => rfl) rfl rfl rfl (Nat.le_of_ble_eq_true rfl) d_Tr_count_183 ⟨Nat.le_of_ble_eq_true rfl, Nat.le_of_ble_eq_true rfl⟩ (fun r19 u20 e21 => ?_)
          have hS22 := hS18.2 r19 e21
          exact z_iret C hr hlk () rfl hS22 d_Tr_count_186
        have hS23 := hS17.2 c7_3
        by_cases c7_4 : x1 = (4 : Int32)
        · refine z_tableIn (tgt := 187) C d_Tr_count_117 (by rw [c7_4]; decide) (by rw [c7_4]; decide) (by rw [c7_4]; rfl) (by decide) ?_
          have hS24 := hS23.1 c7_4
          refine z_aload_n C d_Tr_count_187 rfl 0 rfl ?_
          refine z_get C 0 rfl rfl in_Tr 2 (by decide) rfl wf_Tr_26 rfl d_Tr_count_188 ?_
          refine z_get C 8 rfl rfl in_Rn 3 (by decide) rfl wf_Tr_163 rfl d_Tr_count_191 ?_
          refine z_get C 14 rfl rfl in_Re 2 (by decide) rfl wf_Tr_167 rfl d_Tr_count_194 ?_
          exact z_iret C hr hlk () rfl hS24 d_Tr_count_197
        have hS25 := hS23.2 c7_4
        by_cases c7_5 : x1 = (5 : Int32)
        · refine z_tableIn (tgt := 198) C d_Tr_count_117 (by rw [c7_5]; decide) (by rw [c7_5]; decide) (by rw [c7_5]; rfl) (by decide) ?_
          have hS26 := hS25.1 c7_5
          refine z_aload_n C d_Tr_count_198 rfl 0 rfl ?_
          refine z_get C 0 rfl rfl in_Tr 2 (by decide) rfl wf_Tr_26 rfl d_Tr_count_199 ?_
          refine z_get C 8 rfl rfl in_Rn 3 (by decide) rfl wf_Tr_163 rfl d_Tr_count_202 ?_
          refine z_get C 14 rfl rfl in_Re 3 (by decide) rfl wf_Tr_188 rfl d_Tr_count_205 ?_
          exact z_iret C hr hlk () rfl hS26 d_Tr_count_208
        have hS27 := hS25.2 c7_5
        by_cases c7_6 : x1 = (6 : Int32)
        · refine z_tableIn (tgt := 209) C d_Tr_count_117 (by rw [c7_6]; decide) (by rw [c7_6]; decide) (by rw [c7_6]; rfl) (by decide) ?_
          have hS28 := hS27.1 c7_6
          refine z_aload_n C d_Tr_count_209 rfl 0 rfl ?_
          refine z_get C 0 rfl rfl in_Tr 2 (by decide) rfl wf_Tr_26 rfl d_Tr_count_210 ?_
          refine z_get C 8 rfl rfl in_Rn 5 (by decide) rfl wf_Tr_191 rfl d_Tr_count_213 ?_
          exact z_iret C hr hlk () rfl hS28 d_Tr_count_216
        have hS29 := hS27.2 c7_6
        by_cases c7_7 : x1 = (7 : Int32)
        · refine z_tableIn (tgt := 217) C d_Tr_count_117 (by rw [c7_7]; decide) (by rw [c7_7]; decide) (by rw [c7_7]; rfl) (by decide) ?_
          have hS30 := hS29.1 c7_7
          refine z_aload_n C d_Tr_count_217 rfl 0 rfl ?_
          refine z_get C 0 rfl rfl in_Tr 4 (by decide) rfl wf_Tr_121 rfl d_Tr_count_218 ?_
          exact z_iret C hr hlk () rfl hS30 d_Tr_count_221
        have hS31 := hS29.2 c7_7
        refine z_tableOut (tgt := 222) C d_Tr_count_117 (zto_0_7 c7_0 c7_1 c7_2 c7_3 c7_4 c7_5 c7_6 c7_7) (by decide) ?_
        refine z_bipush (v := (-2 : Int32)) C d_Tr_count_222 (by decide) ?_
        exact z_iret C hr hlk () rfl hS31 d_Tr_count_224
      · have hS6 := hS4.2 c5
        refine z_iload_n C d_Tr_count_94 rfl 1 rfl ?_
        refine z_bipush (v := (11 : Int32)) C d_Tr_count_95 (by decide) ?_
        refine z_icmp_ge (tgt := 116) C d_Tr_count_97 (by decide) (fun c32 => ?_) (fun c32 => ?_)
        · have hS33 := hS6.1 c32
          refine z_iload_n C d_Tr_count_116 rfl 1 rfl ?_
          by_cases c34_0 : x1 = (0 : Int32)
          · refine z_tableIn (tgt := 164) C d_Tr_count_117 (by rw [c34_0]; decide) (by rw [c34_0]; decide) (by rw [c34_0]; rfl) (by decide) ?_
            have hS35 := hS33.1 c34_0
            refine z_aload_n C d_Tr_count_164 rfl 0 rfl ?_
            refine z_get C 0 rfl rfl in_Tr 3 (by decide) rfl wf_Tr_30 rfl d_Tr_count_165 ?_
            exact z_iret C hr hlk () rfl hS35 d_Tr_count_168
          have hS36 := hS33.2 c34_0
          by_cases c34_1 : x1 = (1 : Int32)
          · refine z_tableIn (tgt := 169) C d_Tr_count_117 (by rw [c34_1]; decide) (by rw [c34_1]; decide) (by rw [c34_1]; rfl) (by decide) ?_
            have hS37 := hS36.1 c34_1
            refine z_aload_n C d_Tr_count_169 rfl 0 rfl ?_
            refine z_get C 0 rfl rfl in_Tr 0 (by decide) rfl wf_Tr_10 rfl d_Tr_count_170 ?_
            refine z_get C 9 rfl rfl in_Te 2 (by decide) rfl wf_Tr_57 rfl d_Tr_count_173 ?_
            exact z_iret C hr hlk () rfl hS37 d_Tr_count_176
          have hS38 := hS36.2 c34_1
          by_cases c34_2 : x1 = (2 : Int32)
          · refine z_tableIn (tgt := 177) C d_Tr_count_117 (by rw [c34_2]; decide) (by rw [c34_2]; decide) (by rw [c34_2]; rfl) (by decide) ?_
            have hS39 := hS38.1 c34_2
            refine z_aload_n C d_Tr_count_177 rfl 0 rfl ?_
            refine z_callVi (As := []) (b := q_t) (st := []) (wr := [zo 4 q_t_runner [.ref q_t_runner_stack, .ref q_t_runner_variables, .ref q_t_runner_gatherers, .ref q_t_runner_records, .int t_runner_time, .int t_runner_dropped, .int t_runner_thread, .double t_runner_handedA, .double t_runner_handedB, .double t_runner_handedC, .int t_runner_top, .int t_runner_over, .int t_runner_failed, .int t_runner_met], zo 3 q_t_text [.ref q_t_text_characters, .ref q_t_text_draft, .int t_text_length, .int t_text_at], zaR K 6 q_t_runner_gatherers 3 (fun i => some (q_t_runner_gatherers_e i)), zo 0 (q_t_runner_gatherers_e 0) [.ref (q_t_runner_gatherers_e_keys 0), .ref (q_t_runner_gatherers_e_least 0), .ref (q_t_runner_gatherers_e_greatest 0), .ref (q_t_runner_gatherers_e_sums 0), .ref (q_t_runner_gatherers_e_values 0), .ref (q_t_runner_gatherers_e_bins 0), .int (t_runner_gatherers_e_size 0)], zo 0 (q_t_runner_gatherers_e 1) [.ref (q_t_runner_gatherers_e_keys 1), .ref (q_t_runner_gatherers_e_least 1), .ref (q_t_runner_gatherers_e_greatest 1), .ref (q_t_runner_gatherers_e_sums 1), .ref (q_t_runner_gatherers_e_values 1), .ref (q_t_runner_gatherers_e_bins 1), .int (t_runner_gatherers_e_size 1)], zo 0 (q_t_runner_gatherers_e 2) [.ref (q_t_runner_gatherers_e_keys 2), .ref (q_t_runner_gatherers_e_least 2), .ref (q_t_runner_gatherers_e_greatest 2), .ref (q_t_runner_gatherers_e_sums 2), .ref (q_t_runner_gatherers_e_values 2), .ref (q_t_runner_gatherers_e_bins 2), .int (t_runner_gatherers_e_size 2)], zo 1 q_t_runner_records [.ref q_t_runner_records_ring, .int t_runner_records_oldest, .int t_runner_records_size, .int t_runner_records_lost]]) (wj := fun u => [zo 5 q_t [.ref q_t_text, .ref q_t_rules, .ref q_t_runner, .int t_place, .int t_firings], zaR K 5 q_t_rules 6 (fun i => some (q_t_rules_e i)), zo 2 (q_t_rules_e 0) [.ref (q_t_rules_e_steps 0), .int (t_rules_e_length 0), .int (t_rules_e_actions 0), .int (t_rules_e_site 0), .int (t_rules_e_exit 0), .int (t_rules_e_conditional 0), .int (t_rules_e_there 0), .int (t_rules_e_on 0), .int (t_rules_e_failures 0), .int (t_rules_e_meetings 0)], zo 2 (q_t_rules_e 1) [.ref (q_t_rules_e_steps 1), .int (t_rules_e_length 1), .int (t_rules_e_actions 1), .int (t_rules_e_site 1), .int (t_rules_e_exit 1), .int (t_rules_e_conditional 1), .int (t_rules_e_there 1), .int (t_rules_e_on 1), .int (t_rules_e_failures 1), .int (t_rules_e_meetings 1)], zo 2 (q_t_rules_e 2) [.ref (q_t_rules_e_steps 2), .int (t_rules_e_length 2), .int (t_rules_e_actions 2), .int (t_rules_e_site 2), .int (t_rules_e_exit 2), .int (t_rules_e_conditional 2), .int (t_rules_e_there 2), .int (t_rules_e_on 2), .int (t_rules_e_failures 2), .int (t_rules_e_meetings 2)], zo 2 (q_t_rules_e 3) [.ref (q_t_rules_e_steps 3), .int (t_rules_e_length 3), .int (t_rules_e_actions 3), .int (t_rules_e_site 3), .int (t_rules_e_exit 3), .int (t_rules_e_conditional 3), .int (t_rules_e_there 3), .int (t_rules_e_on 3), .int (t_rules_e_failures 3), .int (t_rules_e_meetings 3)], zo 2 (q_t_rules_e 4) [.ref (q_t_rules_e_steps 4), .int (t_rules_e_length 4), .int (t_rules_e_actions 4), .int (t_rules_e_site 4), .int (t_rules_e_exit 4), .int (t_rules_e_conditional 4), .int (t_rules_e_there 4), .int (t_rules_e_on 4), .int (t_rules_e_failures 4), .int (t_rules_e_meetings 4)], zo 2 (q_t_rules_e 5) [.ref (q_t_rules_e_steps 5), .int (t_rules_e_length 5), .int (t_rules_e_actions 5), .int (t_rules_e_site 5), .int (t_rules_e_exit 5), .int (t_rules_e_conditional 5), .int (t_rules_e_there 5), .int (t_rules_e_on 5), .int (t_rules_e_failures 5), .int (t_rules_e_meetings 5)], zo 4 q_t_runner [.ref q_t_runner_stack, .ref q_t_runner_variables, .ref q_t_runner_gatherers, .ref q_t_runner_records, .int t_runner_time, .int t_runner_dropped, .int t_runner_thread, .double t_runner_handedA, .double t_runner_handedB, .double t_runner_handedC, .int t_runner_top, .int t_runner_over, .int t_runner_failed, .int t_runner_met], zo 3 q_t_text [.ref q_t_text_characters, .ref q_t_text_draft, .int t_text_length, .int t_text_at], zaR K 6 q_t_runner_gatherers 3 (fun i => some (q_t_runner_gatherers_e i)), zo 0 (q_t_runner_gatherers_e 0) [.ref (q_t_runner_gatherers_e_keys 0), .ref (q_t_runner_gatherers_e_least 0), .ref (q_t_runner_gatherers_e_greatest 0), .ref (q_t_runner_gatherers_e_sums 0), .ref (q_t_runner_gatherers_e_values 0), .ref (q_t_runner_gatherers_e_bins 0), .int (t_runner_gatherers_e_size 0)], zo 0 (q_t_runner_gatherers_e 1) [.ref (q_t_runner_gatherers_e_keys 1), .ref (q_t_runner_gatherers_e_least 1), .ref (q_t_runner_gatherers_e_greatest 1), .ref (q_t_runner_gatherers_e_sums 1), .ref (q_t_runner_gatherers_e_values 1), .ref (q_t_runner_gatherers_e_bins 1), .int (t_runner_gatherers_e_size 1)], zo 0 (q_t_runner_gatherers_e 2) [.ref (q_t_runner_gatherers_e_keys 2), .ref (q_t_runner_gatherers_e_least 2), .ref (q_t_runner_gatherers_e_greatest 2), .ref (q_t_runner_gatherers_e_sums 2), .ref (q_t_runner_gatherers_e_values 2), .ref (q_t_runner_gatherers_e_bins 2), .int (t_runner_gatherers_e_size 2)], zo 1 q_t_runner_records [.ref q_t_runner_records_ring, .int t_runner_records_oldest, .int t_runner_records_size, .int t_runner_records_lost]]) C 0 rfl rfl (c_Tr_rulesThere l D K q_t q_t_text q_t_rules q_t_runner q_t_rules_e q_t_rules_e_steps t_place t_firings t_rules_e_length t_rules_e_actions t_rules_e_site t_rules_e_exit t_rules_e_conditional t_rules_e_there t_rules_e_on t_rules_e_failures t_rules_e_meetings hS39.1) (cwV 0 C.2.2.2.2.1 (z_gV wl_Tr_185 wi_Tr_rulesThere wv_Tr_rulesThere wz_Tr wk_Tr_rulesThere) rfl rfl rfl (by decide +kernel) ⟨Nat.le_of_ble_eq_true rfl, Nat.le_of_ble_eq_true rfl⟩) [0, 1, 2, 3, 4, 5, 6, 7] [8, 9, 10, 11, 12, 13, 14] [7, 8, 9, 10, 11, 12, 13, 14, 0, 1, 2, 3, 4, 5, 6] rfl rfl rfl rfl (by decide) (fun _ => rfl) rfl rfl rfl (Nat.le_of_ble_eq_true rfl) d_Tr_count_178 ⟨Nat.le_of_ble_eq_true rfl, Nat.le_of_ble_eq_true rfl⟩ (fun r40 u41 e42 => ?_)
            have hS43 := hS39.2 r40 e42
            exact z_iret C hr hlk () rfl hS43 d_Tr_count_181
          have hS44 := hS38.2 c34_2
          by_cases c34_3 : x1 = (3 : Int32)
          · refine z_tableIn (tgt := 182) C d_Tr_count_117 (by rw [c34_3]; decide) (by rw [c34_3]; decide) (by rw [c34_3]; rfl) (by decide) ?_
            have hS45 := hS44.1 c34_3
            refine z_aload_n C d_Tr_count_182 rfl 0 rfl ?_
            refine z_callVi (As := []) (b := q_t) (st := []) (wr := [zo 4 q_t_runner [.ref q_t_runner_stack, .ref q_t_runner_variables, .ref q_t_runner_gatherers, .ref q_t_runner_records, .int t_runner_time, .int t_runner_dropped, .int t_runner_thread, .double t_runner_handedA, .double t_runner_handedB, .double t_runner_handedC, .int t_runner_top, .int t_runner_over, .int t_runner_failed, .int t_runner_met], zo 3 q_t_text [.ref q_t_text_characters, .ref q_t_text_draft, .int t_text_length, .int t_text_at], zaR K 6 q_t_runner_gatherers 3 (fun i => some (q_t_runner_gatherers_e i)), zo 0 (q_t_runner_gatherers_e 0) [.ref (q_t_runner_gatherers_e_keys 0), .ref (q_t_runner_gatherers_e_least 0), .ref (q_t_runner_gatherers_e_greatest 0), .ref (q_t_runner_gatherers_e_sums 0), .ref (q_t_runner_gatherers_e_values 0), .ref (q_t_runner_gatherers_e_bins 0), .int (t_runner_gatherers_e_size 0)], zo 0 (q_t_runner_gatherers_e 1) [.ref (q_t_runner_gatherers_e_keys 1), .ref (q_t_runner_gatherers_e_least 1), .ref (q_t_runner_gatherers_e_greatest 1), .ref (q_t_runner_gatherers_e_sums 1), .ref (q_t_runner_gatherers_e_values 1), .ref (q_t_runner_gatherers_e_bins 1), .int (t_runner_gatherers_e_size 1)], zo 0 (q_t_runner_gatherers_e 2) [.ref (q_t_runner_gatherers_e_keys 2), .ref (q_t_runner_gatherers_e_least 2), .ref (q_t_runner_gatherers_e_greatest 2), .ref (q_t_runner_gatherers_e_sums 2), .ref (q_t_runner_gatherers_e_values 2), .ref (q_t_runner_gatherers_e_bins 2), .int (t_runner_gatherers_e_size 2)], zo 1 q_t_runner_records [.ref q_t_runner_records_ring, .int t_runner_records_oldest, .int t_runner_records_size, .int t_runner_records_lost]]) (wj := fun u => [zo 5 q_t [.ref q_t_text, .ref q_t_rules, .ref q_t_runner, .int t_place, .int t_firings], zaR K 5 q_t_rules 6 (fun i => some (q_t_rules_e i)), zo 2 (q_t_rules_e 0) [.ref (q_t_rules_e_steps 0), .int (t_rules_e_length 0), .int (t_rules_e_actions 0), .int (t_rules_e_site 0), .int (t_rules_e_exit 0), .int (t_rules_e_conditional 0), .int (t_rules_e_there 0), .int (t_rules_e_on 0), .int (t_rules_e_failures 0), .int (t_rules_e_meetings 0)], zo 2 (q_t_rules_e 1) [.ref (q_t_rules_e_steps 1), .int (t_rules_e_length 1), .int (t_rules_e_actions 1), .int (t_rules_e_site 1), .int (t_rules_e_exit 1), .int (t_rules_e_conditional 1), .int (t_rules_e_there 1), .int (t_rules_e_on 1), .int (t_rules_e_failures 1), .int (t_rules_e_meetings 1)], zo 2 (q_t_rules_e 2) [.ref (q_t_rules_e_steps 2), .int (t_rules_e_length 2), .int (t_rules_e_actions 2), .int (t_rules_e_site 2), .int (t_rules_e_exit 2), .int (t_rules_e_conditional 2), .int (t_rules_e_there 2), .int (t_rules_e_on 2), .int (t_rules_e_failures 2), .int (t_rules_e_meetings 2)], zo 2 (q_t_rules_e 3) [.ref (q_t_rules_e_steps 3), .int (t_rules_e_length 3), .int (t_rules_e_actions 3), .int (t_rules_e_site 3), .int (t_rules_e_exit 3), .int (t_rules_e_conditional 3), .int (t_rules_e_there 3), .int (t_rules_e_on 3), .int (t_rules_e_failures 3), .int (t_rules_e_meetings 3)], zo 2 (q_t_rules_e 4) [.ref (q_t_rules_e_steps 4), .int (t_rules_e_length 4), .int (t_rules_e_actions 4), .int (t_rules_e_site 4), .int (t_rules_e_exit 4), .int (t_rules_e_conditional 4), .int (t_rules_e_there 4), .int (t_rules_e_on 4), .int (t_rules_e_failures 4), .int (t_rules_e_meetings 4)], zo 2 (q_t_rules_e 5) [.ref (q_t_rules_e_steps 5), .int (t_rules_e_length 5), .int (t_rules_e_actions 5), .int (t_rules_e_site 5), .int (t_rules_e_exit 5), .int (t_rules_e_conditional 5), .int (t_rules_e_there 5), .int (t_rules_e_on 5), .int (t_rules_e_failures 5), .int (t_rules_e_meetings 5)], zo 4 q_t_runner [.ref q_t_runner_stack, .ref q_t_runner_variables, .ref q_t_runner_gatherers, .ref q_t_runner_records, .int t_runner_time, .int t_runner_dropped, .int t_runner_thread, .double t_runner_handedA, .double t_runner_handedB, .double t_runner_handedC, .int t_runner_top, .int t_runner_over, .int t_runner_failed, .int t_runner_met], zo 3 q_t_text [.ref q_t_text_characters, .ref q_t_text_draft, .int t_text_length, .int t_text_at], zaR K 6 q_t_runner_gatherers 3 (fun i => some (q_t_runner_gatherers_e i)), zo 0 (q_t_runner_gatherers_e 0) [.ref (q_t_runner_gatherers_e_keys 0), .ref (q_t_runner_gatherers_e_least 0), .ref (q_t_runner_gatherers_e_greatest 0), .ref (q_t_runner_gatherers_e_sums 0), .ref (q_t_runner_gatherers_e_values 0), .ref (q_t_runner_gatherers_e_bins 0), .int (t_runner_gatherers_e_size 0)], zo 0 (q_t_runner_gatherers_e 1) [.ref (q_t_runner_gatherers_e_keys 1), .ref (q_t_runner_gatherers_e_least 1), .ref (q_t_runner_gatherers_e_greatest 1), .ref (q_t_runner_gatherers_e_sums 1), .ref (q_t_runner_gatherers_e_values 1), .ref (q_t_runner_gatherers_e_bins 1), .int (t_runner_gatherers_e_size 1)], zo 0 (q_t_runner_gatherers_e 2) [.ref (q_t_runner_gatherers_e_keys 2), .ref (q_t_runner_gatherers_e_least 2), .ref (q_t_runner_gatherers_e_greatest 2), .ref (q_t_runner_gatherers_e_sums 2), .ref (q_t_runner_gatherers_e_values 2), .ref (q_t_runner_gatherers_e_bins 2), .int (t_runner_gatherers_e_size 2)], zo 1 q_t_runner_records [.ref q_t_runner_records_ring, .int t_runner_records_oldest, .int t_runner_records_size, .int t_runner_records_lost]]) C 0 rfl rfl (c_Tr_rulesOn l D K q_t q_t_text q_t_rules q_t_runner q_t_rules_e q_t_rules_e_steps t_place t_firings t_rules_e_length t_rules_e_actions t_rules_e_site t_rules_e_exit t_rules_e_conditional t_rules_e_there t_rules_e_on t_rules_e_failures t_rules_e_meetings hS45.1) (cwV 0 C.2.2.2.2.1 (z_gV wl_Tr_97 wi_Tr_rulesOn wv_Tr_rulesOn wz_Tr wk_Tr_rulesOn) rfl rfl rfl (by decide +kernel) ⟨Nat.le_of_ble_eq_true rfl, Nat.le_of_ble_eq_true rfl⟩) [0, 1, 2, 3, 4, 5, 6, 7] [8, 9, 10, 11, 12, 13, 14] [7, 8, 9, 10, 11, 12, 13, 14, 0, 1, 2, 3, 4, 5, 6] rfl rfl rfl rfl (by decide) (fun _ => rfl) rfl rfl rfl (Nat.le_of_ble_eq_true rfl) d_Tr_count_183 ⟨Nat.le_of_ble_eq_true rfl, Nat.le_of_ble_eq_true rfl⟩ (fun r46 u47 e48 => ?_)
            have hS49 := hS45.2 r46 e48
            exact z_iret C hr hlk () rfl hS49 d_Tr_count_186
          have hS50 := hS44.2 c34_3
          by_cases c34_4 : x1 = (4 : Int32)
          · refine z_tableIn (tgt := 187) C d_Tr_count_117 (by rw [c34_4]; decide) (by rw [c34_4]; decide) (by rw [c34_4]; rfl) (by decide) ?_
            have hS51 := hS50.1 c34_4
            refine z_aload_n C d_Tr_count_187 rfl 0 rfl ?_
            refine z_get C 0 rfl rfl in_Tr 2 (by decide) rfl wf_Tr_26 rfl d_Tr_count_188 ?_
            refine z_get C 8 rfl rfl in_Rn 3 (by decide) rfl wf_Tr_163 rfl d_Tr_count_191 ?_
            refine z_get C 14 rfl rfl in_Re 2 (by decide) rfl wf_Tr_167 rfl d_Tr_count_194 ?_
            exact z_iret C hr hlk () rfl hS51 d_Tr_count_197
          have hS52 := hS50.2 c34_4
          by_cases c34_5 : x1 = (5 : Int32)
          · refine z_tableIn (tgt := 198) C d_Tr_count_117 (by rw [c34_5]; decide) (by rw [c34_5]; decide) (by rw [c34_5]; rfl) (by decide) ?_
            have hS53 := hS52.1 c34_5
            refine z_aload_n C d_Tr_count_198 rfl 0 rfl ?_
            refine z_get C 0 rfl rfl in_Tr 2 (by decide) rfl wf_Tr_26 rfl d_Tr_count_199 ?_
            refine z_get C 8 rfl rfl in_Rn 3 (by decide) rfl wf_Tr_163 rfl d_Tr_count_202 ?_
            refine z_get C 14 rfl rfl in_Re 3 (by decide) rfl wf_Tr_188 rfl d_Tr_count_205 ?_
            exact z_iret C hr hlk () rfl hS53 d_Tr_count_208
          have hS54 := hS52.2 c34_5
          by_cases c34_6 : x1 = (6 : Int32)
          · refine z_tableIn (tgt := 209) C d_Tr_count_117 (by rw [c34_6]; decide) (by rw [c34_6]; decide) (by rw [c34_6]; rfl) (by decide) ?_
            have hS55 := hS54.1 c34_6
            refine z_aload_n C d_Tr_count_209 rfl 0 rfl ?_
            refine z_get C 0 rfl rfl in_Tr 2 (by decide) rfl wf_Tr_26 rfl d_Tr_count_210 ?_
            refine z_get C 8 rfl rfl in_Rn 5 (by decide) rfl wf_Tr_191 rfl d_Tr_count_213 ?_
            exact z_iret C hr hlk () rfl hS55 d_Tr_count_216
          have hS56 := hS54.2 c34_6
          by_cases c34_7 : x1 = (7 : Int32)
          · refine z_tableIn (tgt := 217) C d_Tr_count_117 (by rw [c34_7]; decide) (by rw [c34_7]; decide) (by rw [c34_7]; rfl) (by decide) ?_
            have hS57 := hS56.1 c34_7
            refine z_aload_n C d_Tr_count_217 rfl 0 rfl ?_
            refine z_get C 0 rfl rfl in_Tr 4 (by decide) rfl wf_Tr_121 rfl d_Tr_count_218 ?_
            exact z_iret C hr hlk () rfl hS57 d_Tr_count_221
          have hS58 := hS56.2 c34_7
          refine z_tableOut (tgt := 222) C d_Tr_count_117 (zto_0_7 c34_0 c34_1 c34_2 c34_3 c34_4 c34_5 c34_6 c34_7) (by decide) ?_
          refine z_bipush (v := (-2 : Int32)) C d_Tr_count_222 (by decide) ?_
          exact z_iret C hr hlk () rfl hS58 d_Tr_count_224
        · have hS33 := hS6.2 c32
          refine z_aload_n C d_Tr_count_100 rfl 0 rfl ?_
          refine z_get C 0 rfl rfl in_Tr 2 (by decide) rfl wf_Tr_26 rfl d_Tr_count_101 ?_
          refine z_get C 8 rfl rfl in_Rn 2 (by decide) rfl wf_Tr_139 rfl d_Tr_count_104 ?_
          refine z_iload_n C d_Tr_count_107 rfl 1 rfl ?_
          refine z_bipush (v := (8 : Int32)) C d_Tr_count_108 (by decide) ?_
          refine z_isub C d_Tr_count_110 ?_
          rcases zix_3 hS33.1 with hj59 | hj59 | hj59
          · have hS61 := hS33.2 0 hj59 (by decide)
            refine z_aldq (v := (q_t_runner_gatherers_e 0)) C 10 6 rfl rfl hS33.1 (by rw [zix_cl hj59 (by decide)]) d_Tr_count_111 ?_
            refine z_get C 11 rfl rfl in_Ga 6 (by decide) rfl wf_Tr_184 rfl d_Tr_count_112 ?_
            exact z_iret C hr hlk () rfl hS61 d_Tr_count_115
          · have hS62 := hS33.2 1 hj59 (by decide)
            refine z_aldq (v := (q_t_runner_gatherers_e 1)) C 10 6 rfl rfl hS33.1 (by rw [zix_cl hj59 (by decide)]) d_Tr_count_111 ?_
            refine z_get C 12 rfl rfl in_Ga 6 (by decide) rfl wf_Tr_184 rfl d_Tr_count_112 ?_
            exact z_iret C hr hlk () rfl hS62 d_Tr_count_115
          · have hS63 := hS33.2 2 hj59 (by decide)
            refine z_aldq (v := (q_t_runner_gatherers_e 2)) C 10 6 rfl rfl hS33.1 (by rw [zix_cl hj59 (by decide)]) d_Tr_count_111 ?_
            refine z_get C 13 rfl rfl in_Ga 6 (by decide) rfl wf_Tr_184 rfl d_Tr_count_112 ?_
            exact z_iret C hr hlk () rfl hS63 d_Tr_count_115
    · have hS4 := hS2.2 c3
      refine z_iload_n C d_Tr_count_50 rfl 1 rfl ?_
      refine z_bipush (v := (36 : Int32)) C d_Tr_count_51 (by decide) ?_
      refine z_icmp_ge (tgt := 88) C d_Tr_count_53 (by decide) (fun c64 => ?_) (fun c64 => ?_)
      · have hS65 := hS4.1 c64
        refine z_iload_n C d_Tr_count_88 rfl 1 rfl ?_
        refine z_bipush (v := (8 : Int32)) C d_Tr_count_89 (by decide) ?_
        refine z_icmp_lt (tgt := 116) C d_Tr_count_91 (by decide) (fun c66 => ?_) (fun c66 => ?_)
        · have hS67 := hS65.1 c66
          refine z_iload_n C d_Tr_count_116 rfl 1 rfl ?_
          by_cases c68_0 : x1 = (0 : Int32)
          · refine z_tableIn (tgt := 164) C d_Tr_count_117 (by rw [c68_0]; decide) (by rw [c68_0]; decide) (by rw [c68_0]; rfl) (by decide) ?_
            have hS69 := hS67.1 c68_0
            refine z_aload_n C d_Tr_count_164 rfl 0 rfl ?_
            refine z_get C 0 rfl rfl in_Tr 3 (by decide) rfl wf_Tr_30 rfl d_Tr_count_165 ?_
            exact z_iret C hr hlk () rfl hS69 d_Tr_count_168
          have hS70 := hS67.2 c68_0
          by_cases c68_1 : x1 = (1 : Int32)
          · refine z_tableIn (tgt := 169) C d_Tr_count_117 (by rw [c68_1]; decide) (by rw [c68_1]; decide) (by rw [c68_1]; rfl) (by decide) ?_
            have hS71 := hS70.1 c68_1
            refine z_aload_n C d_Tr_count_169 rfl 0 rfl ?_
            refine z_get C 0 rfl rfl in_Tr 0 (by decide) rfl wf_Tr_10 rfl d_Tr_count_170 ?_
            refine z_get C 9 rfl rfl in_Te 2 (by decide) rfl wf_Tr_57 rfl d_Tr_count_173 ?_
            exact z_iret C hr hlk () rfl hS71 d_Tr_count_176
          have hS72 := hS70.2 c68_1
          by_cases c68_2 : x1 = (2 : Int32)
          · refine z_tableIn (tgt := 177) C d_Tr_count_117 (by rw [c68_2]; decide) (by rw [c68_2]; decide) (by rw [c68_2]; rfl) (by decide) ?_
            have hS73 := hS72.1 c68_2
            refine z_aload_n C d_Tr_count_177 rfl 0 rfl ?_
            refine z_callVi (As := []) (b := q_t) (st := []) (wr := [zo 4 q_t_runner [.ref q_t_runner_stack, .ref q_t_runner_variables, .ref q_t_runner_gatherers, .ref q_t_runner_records, .int t_runner_time, .int t_runner_dropped, .int t_runner_thread, .double t_runner_handedA, .double t_runner_handedB, .double t_runner_handedC, .int t_runner_top, .int t_runner_over, .int t_runner_failed, .int t_runner_met], zo 3 q_t_text [.ref q_t_text_characters, .ref q_t_text_draft, .int t_text_length, .int t_text_at], zaR K 6 q_t_runner_gatherers 3 (fun i => some (q_t_runner_gatherers_e i)), zo 0 (q_t_runner_gatherers_e 0) [.ref (q_t_runner_gatherers_e_keys 0), .ref (q_t_runner_gatherers_e_least 0), .ref (q_t_runner_gatherers_e_greatest 0), .ref (q_t_runner_gatherers_e_sums 0), .ref (q_t_runner_gatherers_e_values 0), .ref (q_t_runner_gatherers_e_bins 0), .int (t_runner_gatherers_e_size 0)], zo 0 (q_t_runner_gatherers_e 1) [.ref (q_t_runner_gatherers_e_keys 1), .ref (q_t_runner_gatherers_e_least 1), .ref (q_t_runner_gatherers_e_greatest 1), .ref (q_t_runner_gatherers_e_sums 1), .ref (q_t_runner_gatherers_e_values 1), .ref (q_t_runner_gatherers_e_bins 1), .int (t_runner_gatherers_e_size 1)], zo 0 (q_t_runner_gatherers_e 2) [.ref (q_t_runner_gatherers_e_keys 2), .ref (q_t_runner_gatherers_e_least 2), .ref (q_t_runner_gatherers_e_greatest 2), .ref (q_t_runner_gatherers_e_sums 2), .ref (q_t_runner_gatherers_e_values 2), .ref (q_t_runner_gatherers_e_bins 2), .int (t_runner_gatherers_e_size 2)], zo 1 q_t_runner_records [.ref q_t_runner_records_ring, .int t_runner_records_oldest, .int t_runner_records_size, .int t_runner_records_lost]]) (wj := fun u => [zo 5 q_t [.ref q_t_text, .ref q_t_rules, .ref q_t_runner, .int t_place, .int t_firings], zaR K 5 q_t_rules 6 (fun i => some (q_t_rules_e i)), zo 2 (q_t_rules_e 0) [.ref (q_t_rules_e_steps 0), .int (t_rules_e_length 0), .int (t_rules_e_actions 0), .int (t_rules_e_site 0), .int (t_rules_e_exit 0), .int (t_rules_e_conditional 0), .int (t_rules_e_there 0), .int (t_rules_e_on 0), .int (t_rules_e_failures 0), .int (t_rules_e_meetings 0)], zo 2 (q_t_rules_e 1) [.ref (q_t_rules_e_steps 1), .int (t_rules_e_length 1), .int (t_rules_e_actions 1), .int (t_rules_e_site 1), .int (t_rules_e_exit 1), .int (t_rules_e_conditional 1), .int (t_rules_e_there 1), .int (t_rules_e_on 1), .int (t_rules_e_failures 1), .int (t_rules_e_meetings 1)], zo 2 (q_t_rules_e 2) [.ref (q_t_rules_e_steps 2), .int (t_rules_e_length 2), .int (t_rules_e_actions 2), .int (t_rules_e_site 2), .int (t_rules_e_exit 2), .int (t_rules_e_conditional 2), .int (t_rules_e_there 2), .int (t_rules_e_on 2), .int (t_rules_e_failures 2), .int (t_rules_e_meetings 2)], zo 2 (q_t_rules_e 3) [.ref (q_t_rules_e_steps 3), .int (t_rules_e_length 3), .int (t_rules_e_actions 3), .int (t_rules_e_site 3), .int (t_rules_e_exit 3), .int (t_rules_e_conditional 3), .int (t_rules_e_there 3), .int (t_rules_e_on 3), .int (t_rules_e_failures 3), .int (t_rules_e_meetings 3)], zo 2 (q_t_rules_e 4) [.ref (q_t_rules_e_steps 4), .int (t_rules_e_length 4), .int (t_rules_e_actions 4), .int (t_rules_e_site 4), .int (t_rules_e_exit 4), .int (t_rules_e_conditional 4), .int (t_rules_e_there 4), .int (t_rules_e_on 4), .int (t_rules_e_failures 4), .int (t_rules_e_meetings 4)], zo 2 (q_t_rules_e 5) [.ref (q_t_rules_e_steps 5), .int (t_rules_e_length 5), .int (t_rules_e_actions 5), .int (t_rules_e_site 5), .int (t_rules_e_exit 5), .int (t_rules_e_conditional 5), .int (t_rules_e_there 5), .int (t_rules_e_on 5), .int (t_rules_e_failures 5), .int (t_rules_e_meetings 5)], zo 4 q_t_runner [.ref q_t_runner_stack, .ref q_t_runner_variables, .ref q_t_runner_gatherers, .ref q_t_runner_records, .int t_runner_time, .int t_runner_dropped, .int t_runner_thread, .double t_runner_handedA, .double t_runner_handedB, .double t_runner_handedC, .int t_runner_top, .int t_runner_over, .int t_runner_failed, .int t_runner_met], zo 3 q_t_text [.ref q_t_text_characters, .ref q_t_text_draft, .int t_text_length, .int t_text_at], zaR K 6 q_t_runner_gatherers 3 (fun i => some (q_t_runner_gatherers_e i)), zo 0 (q_t_runner_gatherers_e 0) [.ref (q_t_runner_gatherers_e_keys 0), .ref (q_t_runner_gatherers_e_least 0), .ref (q_t_runner_gatherers_e_greatest 0), .ref (q_t_runner_gatherers_e_sums 0), .ref (q_t_runner_gatherers_e_values 0), .ref (q_t_runner_gatherers_e_bins 0), .int (t_runner_gatherers_e_size 0)], zo 0 (q_t_runner_gatherers_e 1) [.ref (q_t_runner_gatherers_e_keys 1), .ref (q_t_runner_gatherers_e_least 1), .ref (q_t_runner_gatherers_e_greatest 1), .ref (q_t_runner_gatherers_e_sums 1), .ref (q_t_runner_gatherers_e_values 1), .ref (q_t_runner_gatherers_e_bins 1), .int (t_runner_gatherers_e_size 1)], zo 0 (q_t_runner_gatherers_e 2) [.ref (q_t_runner_gatherers_e_keys 2), .ref (q_t_runner_gatherers_e_least 2), .ref (q_t_runner_gatherers_e_greatest 2), .ref (q_t_runner_gatherers_e_sums 2), .ref (q_t_runner_gatherers_e_values 2), .ref (q_t_runner_gatherers_e_bins 2), .int (t_runner_gatherers_e_size 2)], zo 1 q_t_runner_records [.ref q_t_runner_records_ring, .int t_runner_records_oldest, .int t_runner_records_size, .int t_runner_records_lost]]) C 0 rfl rfl (c_Tr_rulesThere l D K q_t q_t_text q_t_rules q_t_runner q_t_rules_e q_t_rules_e_steps t_place t_firings t_rules_e_length t_rules_e_actions t_rules_e_site t_rules_e_exit t_rules_e_conditional t_rules_e_there t_rules_e_on t_rules_e_failures t_rules_e_meetings hS73.1) (cwV 0 C.2.2.2.2.1 (z_gV wl_Tr_185 wi_Tr_rulesThere wv_Tr_rulesThere wz_Tr wk_Tr_rulesThere) rfl rfl rfl (by decide +kernel) ⟨Nat.le_of_ble_eq_true rfl, Nat.le_of_ble_eq_true rfl⟩) [0, 1, 2, 3, 4, 5, 6, 7] [8, 9, 10, 11, 12, 13, 14] [7, 8, 9, 10, 11, 12, 13, 14, 0, 1, 2, 3, 4, 5, 6] rfl rfl rfl rfl (by decide) (fun _ => rfl) rfl rfl rfl (Nat.le_of_ble_eq_true rfl) d_Tr_count_178 ⟨Nat.le_of_ble_eq_true rfl, Nat.le_of_ble_eq_true rfl⟩ (fun r74 u75 e76 => ?_)
            have hS77 := hS73.2 r74 e76
            exact z_iret C hr hlk () rfl hS77 d_Tr_count_181
          have hS78 := hS72.2 c68_2
          by_cases c68_3 : x1 = (3 : Int32)
          · refine z_tableIn (tgt := 182) C d_Tr_count_117 (by rw [c68_3]; decide) (by rw [c68_3]; decide) (by rw [c68_3]; rfl) (by decide) ?_
            have hS79 := hS78.1 c68_3
            refine z_aload_n C d_Tr_count_182 rfl 0 rfl ?_
            refine z_callVi (As := []) (b := q_t) (st := []) (wr := [zo 4 q_t_runner [.ref q_t_runner_stack, .ref q_t_runner_variables, .ref q_t_runner_gatherers, .ref q_t_runner_records, .int t_runner_time, .int t_runner_dropped, .int t_runner_thread, .double t_runner_handedA, .double t_runner_handedB, .double t_runner_handedC, .int t_runner_top, .int t_runner_over, .int t_runner_failed, .int t_runner_met], zo 3 q_t_text [.ref q_t_text_characters, .ref q_t_text_draft, .int t_text_length, .int t_text_at], zaR K 6 q_t_runner_gatherers 3 (fun i => some (q_t_runner_gatherers_e i)), zo 0 (q_t_runner_gatherers_e 0) [.ref (q_t_runner_gatherers_e_keys 0), .ref (q_t_runner_gatherers_e_least 0), .ref (q_t_runner_gatherers_e_greatest 0), .ref (q_t_runner_gatherers_e_sums 0), .ref (q_t_runner_gatherers_e_values 0), .ref (q_t_runner_gatherers_e_bins 0), .int (t_runner_gatherers_e_size 0)], zo 0 (q_t_runner_gatherers_e 1) [.ref (q_t_runner_gatherers_e_keys 1), .ref (q_t_runner_gatherers_e_least 1), .ref (q_t_runner_gatherers_e_greatest 1), .ref (q_t_runner_gatherers_e_sums 1), .ref (q_t_runner_gatherers_e_values 1), .ref (q_t_runner_gatherers_e_bins 1), .int (t_runner_gatherers_e_size 1)], zo 0 (q_t_runner_gatherers_e 2) [.ref (q_t_runner_gatherers_e_keys 2), .ref (q_t_runner_gatherers_e_least 2), .ref (q_t_runner_gatherers_e_greatest 2), .ref (q_t_runner_gatherers_e_sums 2), .ref (q_t_runner_gatherers_e_values 2), .ref (q_t_runner_gatherers_e_bins 2), .int (t_runner_gatherers_e_size 2)], zo 1 q_t_runner_records [.ref q_t_runner_records_ring, .int t_runner_records_oldest, .int t_runner_records_size, .int t_runner_records_lost]]) (wj := fun u => [zo 5 q_t [.ref q_t_text, .ref q_t_rules, .ref q_t_runner, .int t_place, .int t_firings], zaR K 5 q_t_rules 6 (fun i => some (q_t_rules_e i)), zo 2 (q_t_rules_e 0) [.ref (q_t_rules_e_steps 0), .int (t_rules_e_length 0), .int (t_rules_e_actions 0), .int (t_rules_e_site 0), .int (t_rules_e_exit 0), .int (t_rules_e_conditional 0), .int (t_rules_e_there 0), .int (t_rules_e_on 0), .int (t_rules_e_failures 0), .int (t_rules_e_meetings 0)], zo 2 (q_t_rules_e 1) [.ref (q_t_rules_e_steps 1), .int (t_rules_e_length 1), .int (t_rules_e_actions 1), .int (t_rules_e_site 1), .int (t_rules_e_exit 1), .int (t_rules_e_conditional 1), .int (t_rules_e_there 1), .int (t_rules_e_on 1), .int (t_rules_e_failures 1), .int (t_rules_e_meetings 1)], zo 2 (q_t_rules_e 2) [.ref (q_t_rules_e_steps 2), .int (t_rules_e_length 2), .int (t_rules_e_actions 2), .int (t_rules_e_site 2), .int (t_rules_e_exit 2), .int (t_rules_e_conditional 2), .int (t_rules_e_there 2), .int (t_rules_e_on 2), .int (t_rules_e_failures 2), .int (t_rules_e_meetings 2)], zo 2 (q_t_rules_e 3) [.ref (q_t_rules_e_steps 3), .int (t_rules_e_length 3), .int (t_rules_e_actions 3), .int (t_rules_e_site 3), .int (t_rules_e_exit 3), .int (t_rules_e_conditional 3), .int (t_rules_e_there 3), .int (t_rules_e_on 3), .int (t_rules_e_failures 3), .int (t_rules_e_meetings 3)], zo 2 (q_t_rules_e 4) [.ref (q_t_rules_e_steps 4), .int (t_rules_e_length 4), .int (t_rules_e_actions 4), .int (t_rules_e_site 4), .int (t_rules_e_exit 4), .int (t_rules_e_conditional 4), .int (t_rules_e_there 4), .int (t_rules_e_on 4), .int (t_rules_e_failures 4), .int (t_rules_e_meetings 4)], zo 2 (q_t_rules_e 5) [.ref (q_t_rules_e_steps 5), .int (t_rules_e_length 5), .int (t_rules_e_actions 5), .int (t_rules_e_site 5), .int (t_rules_e_exit 5), .int (t_rules_e_conditional 5), .int (t_rules_e_there 5), .int (t_rules_e_on 5), .int (t_rules_e_failures 5), .int (t_rules_e_meetings 5)], zo 4 q_t_runner [.ref q_t_runner_stack, .ref q_t_runner_variables, .ref q_t_runner_gatherers, .ref q_t_runner_records, .int t_runner_time, .int t_runner_dropped, .int t_runner_thread, .double t_runner_handedA, .double t_runner_handedB, .double t_runner_handedC, .int t_runner_top, .int t_runner_over, .int t_runner_failed, .int t_runner_met], zo 3 q_t_text [.ref q_t_text_characters, .ref q_t_text_draft, .int t_text_length, .int t_text_at], zaR K 6 q_t_runner_gatherers 3 (fun i => some (q_t_runner_gatherers_e i)), zo 0 (q_t_runner_gatherers_e 0) [.ref (q_t_runner_gatherers_e_keys 0), .ref (q_t_runner_gatherers_e_least 0), .ref (q_t_runner_gatherers_e_greatest 0), .ref (q_t_runner_gatherers_e_sums 0), .ref (q_t_runner_gatherers_e_values 0), .ref (q_t_runner_gatherers_e_bins 0), .int (t_runner_gatherers_e_size 0)], zo 0 (q_t_runner_gatherers_e 1) [.ref (q_t_runner_gatherers_e_keys 1), .ref (q_t_runner_gatherers_e_least 1), .ref (q_t_runner_gatherers_e_greatest 1), .ref (q_t_runner_gatherers_e_sums 1), .ref (q_t_runner_gatherers_e_values 1), .ref (q_t_runner_gatherers_e_bins 1), .int (t_runner_gatherers_e_size 1)], zo 0 (q_t_runner_gatherers_e 2) [.ref (q_t_runner_gatherers_e_keys 2), .ref (q_t_runner_gatherers_e_least 2), .ref (q_t_runner_gatherers_e_greatest 2), .ref (q_t_runner_gatherers_e_sums 2), .ref (q_t_runner_gatherers_e_values 2), .ref (q_t_runner_gatherers_e_bins 2), .int (t_runner_gatherers_e_size 2)], zo 1 q_t_runner_records [.ref q_t_runner_records_ring, .int t_runner_records_oldest, .int t_runner_records_size, .int t_runner_records_lost]]) C 0 rfl rfl (c_Tr_rulesOn l D K q_t q_t_text q_t_rules q_t_runner q_t_rules_e q_t_rules_e_steps t_place t_firings t_rules_e_length t_rules_e_actions t_rules_e_site t_rules_e_exit t_rules_e_conditional t_rules_e_there t_rules_e_on t_rules_e_failures t_rules_e_meetings hS79.1) (cwV 0 C.2.2.2.2.1 (z_gV wl_Tr_97 wi_Tr_rulesOn wv_Tr_rulesOn wz_Tr wk_Tr_rulesOn) rfl rfl rfl (by decide +kernel) ⟨Nat.le_of_ble_eq_true rfl, Nat.le_of_ble_eq_true rfl⟩) [0, 1, 2, 3, 4, 5, 6, 7] [8, 9, 10, 11, 12, 13, 14] [7, 8, 9, 10, 11, 12, 13, 14, 0, 1, 2, 3, 4, 5, 6] rfl rfl rfl rfl (by decide) (fun _ => rfl) rfl rfl rfl (Nat.le_of_ble_eq_true rfl) d_Tr_count_183 ⟨Nat.le_of_ble_eq_true rfl, Nat.le_of_ble_eq_true rfl⟩ (fun r80 u81 e82 => ?_)
            have hS83 := hS79.2 r80 e82
            exact z_iret C hr hlk () rfl hS83 d_Tr_count_186
          have hS84 := hS78.2 c68_3
          by_cases c68_4 : x1 = (4 : Int32)
          · refine z_tableIn (tgt := 187) C d_Tr_count_117 (by rw [c68_4]; decide) (by rw [c68_4]; decide) (by rw [c68_4]; rfl) (by decide) ?_
            have hS85 := hS84.1 c68_4
            refine z_aload_n C d_Tr_count_187 rfl 0 rfl ?_
            refine z_get C 0 rfl rfl in_Tr 2 (by decide) rfl wf_Tr_26 rfl d_Tr_count_188 ?_
            refine z_get C 8 rfl rfl in_Rn 3 (by decide) rfl wf_Tr_163 rfl d_Tr_count_191 ?_
            refine z_get C 14 rfl rfl in_Re 2 (by decide) rfl wf_Tr_167 rfl d_Tr_count_194 ?_
            exact z_iret C hr hlk () rfl hS85 d_Tr_count_197
          have hS86 := hS84.2 c68_4
          by_cases c68_5 : x1 = (5 : Int32)
          · refine z_tableIn (tgt := 198) C d_Tr_count_117 (by rw [c68_5]; decide) (by rw [c68_5]; decide) (by rw [c68_5]; rfl) (by decide) ?_
            have hS87 := hS86.1 c68_5
            refine z_aload_n C d_Tr_count_198 rfl 0 rfl ?_
            refine z_get C 0 rfl rfl in_Tr 2 (by decide) rfl wf_Tr_26 rfl d_Tr_count_199 ?_
            refine z_get C 8 rfl rfl in_Rn 3 (by decide) rfl wf_Tr_163 rfl d_Tr_count_202 ?_
            refine z_get C 14 rfl rfl in_Re 3 (by decide) rfl wf_Tr_188 rfl d_Tr_count_205 ?_
            exact z_iret C hr hlk () rfl hS87 d_Tr_count_208
          have hS88 := hS86.2 c68_5
          by_cases c68_6 : x1 = (6 : Int32)
          · refine z_tableIn (tgt := 209) C d_Tr_count_117 (by rw [c68_6]; decide) (by rw [c68_6]; decide) (by rw [c68_6]; rfl) (by decide) ?_
            have hS89 := hS88.1 c68_6
            refine z_aload_n C d_Tr_count_209 rfl 0 rfl ?_
            refine z_get C 0 rfl rfl in_Tr 2 (by decide) rfl wf_Tr_26 rfl d_Tr_count_210 ?_
            refine z_get C 8 rfl rfl in_Rn 5 (by decide) rfl wf_Tr_191 rfl d_Tr_count_213 ?_
            exact z_iret C hr hlk () rfl hS89 d_Tr_count_216
          have hS90 := hS88.2 c68_6
          by_cases c68_7 : x1 = (7 : Int32)
          · refine z_tableIn (tgt := 217) C d_Tr_count_117 (by rw [c68_7]; decide) (by rw [c68_7]; decide) (by rw [c68_7]; rfl) (by decide) ?_
            have hS91 := hS90.1 c68_7
            refine z_aload_n C d_Tr_count_217 rfl 0 rfl ?_
            refine z_get C 0 rfl rfl in_Tr 4 (by decide) rfl wf_Tr_121 rfl d_Tr_count_218 ?_
            exact z_iret C hr hlk () rfl hS91 d_Tr_count_221
          have hS92 := hS90.2 c68_7
          refine z_tableOut (tgt := 222) C d_Tr_count_117 (zto_0_7 c68_0 c68_1 c68_2 c68_3 c68_4 c68_5 c68_6 c68_7) (by decide) ?_
          refine z_bipush (v := (-2 : Int32)) C d_Tr_count_222 (by decide) ?_
          exact z_iret C hr hlk () rfl hS92 d_Tr_count_224
        · have hS67 := hS65.2 c66
          refine z_iload_n C d_Tr_count_94 rfl 1 rfl ?_
          refine z_bipush (v := (11 : Int32)) C d_Tr_count_95 (by decide) ?_
          refine z_icmp_ge (tgt := 116) C d_Tr_count_97 (by decide) (fun c93 => ?_) (fun c93 => ?_)
          · have hS94 := hS67.1 c93
            refine z_iload_n C d_Tr_count_116 rfl 1 rfl ?_
            by_cases c95_0 : x1 = (0 : Int32)
            · refine z_tableIn (tgt := 164) C d_Tr_count_117 (by rw [c95_0]; decide) (by rw [c95_0]; decide) (by rw [c95_0]; rfl) (by decide) ?_
              have hS96 := hS94.1 c95_0
              refine z_aload_n C d_Tr_count_164 rfl 0 rfl ?_
              refine z_get C 0 rfl rfl in_Tr 3 (by decide) rfl wf_Tr_30 rfl d_Tr_count_165 ?_
              exact z_iret C hr hlk () rfl hS96 d_Tr_count_168
            have hS97 := hS94.2 c95_0
            by_cases c95_1 : x1 = (1 : Int32)
            · refine z_tableIn (tgt := 169) C d_Tr_count_117 (by rw [c95_1]; decide) (by rw [c95_1]; decide) (by rw [c95_1]; rfl) (by decide) ?_
              have hS98 := hS97.1 c95_1
              refine z_aload_n C d_Tr_count_169 rfl 0 rfl ?_
              refine z_get C 0 rfl rfl in_Tr 0 (by decide) rfl wf_Tr_10 rfl d_Tr_count_170 ?_
              refine z_get C 9 rfl rfl in_Te 2 (by decide) rfl wf_Tr_57 rfl d_Tr_count_173 ?_
              exact z_iret C hr hlk () rfl hS98 d_Tr_count_176
            have hS99 := hS97.2 c95_1
            by_cases c95_2 : x1 = (2 : Int32)
            · refine z_tableIn (tgt := 177) C d_Tr_count_117 (by rw [c95_2]; decide) (by rw [c95_2]; decide) (by rw [c95_2]; rfl) (by decide) ?_
              have hS100 := hS99.1 c95_2
              refine z_aload_n C d_Tr_count_177 rfl 0 rfl ?_
              refine z_callVi (As := []) (b := q_t) (st := []) (wr := [zo 4 q_t_runner [.ref q_t_runner_stack, .ref q_t_runner_variables, .ref q_t_runner_gatherers, .ref q_t_runner_records, .int t_runner_time, .int t_runner_dropped, .int t_runner_thread, .double t_runner_handedA, .double t_runner_handedB, .double t_runner_handedC, .int t_runner_top, .int t_runner_over, .int t_runner_failed, .int t_runner_met], zo 3 q_t_text [.ref q_t_text_characters, .ref q_t_text_draft, .int t_text_length, .int t_text_at], zaR K 6 q_t_runner_gatherers 3 (fun i => some (q_t_runner_gatherers_e i)), zo 0 (q_t_runner_gatherers_e 0) [.ref (q_t_runner_gatherers_e_keys 0), .ref (q_t_runner_gatherers_e_least 0), .ref (q_t_runner_gatherers_e_greatest 0), .ref (q_t_runner_gatherers_e_sums 0), .ref (q_t_runner_gatherers_e_values 0), .ref (q_t_runner_gatherers_e_bins 0), .int (t_runner_gatherers_e_size 0)], zo 0 (q_t_runner_gatherers_e 1) [.ref (q_t_runner_gatherers_e_keys 1), .ref (q_t_runner_gatherers_e_least 1), .ref (q_t_runner_gatherers_e_greatest 1), .ref (q_t_runner_gatherers_e_sums 1), .ref (q_t_runner_gatherers_e_values 1), .ref (q_t_runner_gatherers_e_bins 1), .int (t_runner_gatherers_e_size 1)], zo 0 (q_t_runner_gatherers_e 2) [.ref (q_t_runner_gatherers_e_keys 2), .ref (q_t_runner_gatherers_e_least 2), .ref (q_t_runner_gatherers_e_greatest 2), .ref (q_t_runner_gatherers_e_sums 2), .ref (q_t_runner_gatherers_e_values 2), .ref (q_t_runner_gatherers_e_bins 2), .int (t_runner_gatherers_e_size 2)], zo 1 q_t_runner_records [.ref q_t_runner_records_ring, .int t_runner_records_oldest, .int t_runner_records_size, .int t_runner_records_lost]]) (wj := fun u => [zo 5 q_t [.ref q_t_text, .ref q_t_rules, .ref q_t_runner, .int t_place, .int t_firings], zaR K 5 q_t_rules 6 (fun i => some (q_t_rules_e i)), zo 2 (q_t_rules_e 0) [.ref (q_t_rules_e_steps 0), .int (t_rules_e_length 0), .int (t_rules_e_actions 0), .int (t_rules_e_site 0), .int (t_rules_e_exit 0), .int (t_rules_e_conditional 0), .int (t_rules_e_there 0), .int (t_rules_e_on 0), .int (t_rules_e_failures 0), .int (t_rules_e_meetings 0)], zo 2 (q_t_rules_e 1) [.ref (q_t_rules_e_steps 1), .int (t_rules_e_length 1), .int (t_rules_e_actions 1), .int (t_rules_e_site 1), .int (t_rules_e_exit 1), .int (t_rules_e_conditional 1), .int (t_rules_e_there 1), .int (t_rules_e_on 1), .int (t_rules_e_failures 1), .int (t_rules_e_meetings 1)], zo 2 (q_t_rules_e 2) [.ref (q_t_rules_e_steps 2), .int (t_rules_e_length 2), .int (t_rules_e_actions 2), .int (t_rules_e_site 2), .int (t_rules_e_exit 2), .int (t_rules_e_conditional 2), .int (t_rules_e_there 2), .int (t_rules_e_on 2), .int (t_rules_e_failures 2), .int (t_rules_e_meetings 2)], zo 2 (q_t_rules_e 3) [.ref (q_t_rules_e_steps 3), .int (t_rules_e_length 3), .int (t_rules_e_actions 3), .int (t_rules_e_site 3), .int (t_rules_e_exit 3), .int (t_rules_e_conditional 3), .int (t_rules_e_there 3), .int (t_rules_e_on 3), .int (t_rules_e_failures 3), .int (t_rules_e_meetings 3)], zo 2 (q_t_rules_e 4) [.ref (q_t_rules_e_steps 4), .int (t_rules_e_length 4), .int (t_rules_e_actions 4), .int (t_rules_e_site 4), .int (t_rules_e_exit 4), .int (t_rules_e_conditional 4), .int (t_rules_e_there 4), .int (t_rules_e_on 4), .int (t_rules_e_failures 4), .int (t_rules_e_meetings 4)], zo 2 (q_t_rules_e 5) [.ref (q_t_rules_e_steps 5), .int (t_rules_e_length 5), .int (t_rules_e_actions 5), .int (t_rules_e_site 5), .int (t_rules_e_exit 5), .int (t_rules_e_conditional 5), .int (t_rules_e_there 5), .int (t_rules_e_on 5), .int (t_rules_e_failures 5), .int (t_rules_e_meetings 5)], zo 4 q_t_runner [.ref q_t_runner_stack, .ref q_t_runner_variables, .ref q_t_runner_gatherers, .ref q_t_runner_records, .int t_runner_time, .int t_runner_dropped, .int t_runner_thread, .double t_runner_handedA, .double t_runner_handedB, .double t_runner_handedC, .int t_runner_top, .int t_runner_over, .int t_runner_failed, .int t_runner_met], zo 3 q_t_text [.ref q_t_text_characters, .ref q_t_text_draft, .int t_text_length, .int t_text_at], zaR K 6 q_t_runner_gatherers 3 (fun i => some (q_t_runner_gatherers_e i)), zo 0 (q_t_runner_gatherers_e 0) [.ref (q_t_runner_gatherers_e_keys 0), .ref (q_t_runner_gatherers_e_least 0), .ref (q_t_runner_gatherers_e_greatest 0), .ref (q_t_runner_gatherers_e_sums 0), .ref (q_t_runner_gatherers_e_values 0), .ref (q_t_runner_gatherers_e_bins 0), .int (t_runner_gatherers_e_size 0)], zo 0 (q_t_runner_gatherers_e 1) [.ref (q_t_runner_gatherers_e_keys 1), .ref (q_t_runner_gatherers_e_least 1), .ref (q_t_runner_gatherers_e_greatest 1), .ref (q_t_runner_gatherers_e_sums 1), .ref (q_t_runner_gatherers_e_values 1), .ref (q_t_runner_gatherers_e_bins 1), .int (t_runner_gatherers_e_size 1)], zo 0 (q_t_runner_gatherers_e 2) [.ref (q_t_runner_gatherers_e_keys 2), .ref (q_t_runner_gatherers_e_least 2), .ref (q_t_runner_gatherers_e_greatest 2), .ref (q_t_runner_gatherers_e_sums 2), .ref (q_t_runner_gatherers_e_values 2), .ref (q_t_runner_gatherers_e_bins 2), .int (t_runner_gatherers_e_size 2)], zo 1 q_t_runner_records [.ref q_t_runner_records_ring, .int t_runner_records_oldest, .int t_runner_records_size, .int t_runner_records_lost]]) C 0 rfl rfl (c_Tr_rulesThere l D K q_t q_t_text q_t_rules q_t_runner q_t_rules_e q_t_rules_e_steps t_place t_firings t_rules_e_length t_rules_e_actions t_rules_e_site t_rules_e_exit t_rules_e_conditional t_rules_e_there t_rules_e_on t_rules_e_failures t_rules_e_meetings hS100.1) (cwV 0 C.2.2.2.2.1 (z_gV wl_Tr_185 wi_Tr_rulesThere wv_Tr_rulesThere wz_Tr wk_Tr_rulesThere) rfl rfl rfl (by decide +kernel) ⟨Nat.le_of_ble_eq_true rfl, Nat.le_of_ble_eq_true rfl⟩) [0, 1, 2, 3, 4, 5, 6, 7] [8, 9, 10, 11, 12, 13, 14] [7, 8, 9, 10, 11, 12, 13, 14, 0, 1, 2, 3, 4, 5, 6] rfl rfl rfl rfl (by decide) (fun _ => rfl) rfl rfl rfl (Nat.le_of_ble_eq_true rfl) d_Tr_count_178 ⟨Nat.le_of_ble_eq_true rfl, Nat.le_of_ble_eq_true rfl⟩ (fun r101 u102 e103 => ?_)
              have hS104 := hS100.2 r101 e103
              exact z_iret C hr hlk () rfl hS104 d_Tr_count_181
            have hS105 := hS99.2 c95_2
            by_cases c95_3 : x1 = (3 : Int32)
            · refine z_tableIn (tgt := 182) C d_Tr_count_117 (by rw [c95_3]; decide) (by rw [c95_3]; decide) (by rw [c95_3]; rfl) (by decide) ?_
              have hS106 := hS105.1 c95_3
              refine z_aload_n C d_Tr_count_182 rfl 0 rfl ?_
              refine z_callVi (As := []) (b := q_t) (st := []) (wr := [zo 4 q_t_runner [.ref q_t_runner_stack, .ref q_t_runner_variables, .ref q_t_runner_gatherers, .ref q_t_runner_records, .int t_runner_time, .int t_runner_dropped, .int t_runner_thread, .double t_runner_handedA, .double t_runner_handedB, .double t_runner_handedC, .int t_runner_top, .int t_runner_over, .int t_runner_failed, .int t_runner_met], zo 3 q_t_text [.ref q_t_text_characters, .ref q_t_text_draft, .int t_text_length, .int t_text_at], zaR K 6 q_t_runner_gatherers 3 (fun i => some (q_t_runner_gatherers_e i)), zo 0 (q_t_runner_gatherers_e 0) [.ref (q_t_runner_gatherers_e_keys 0), .ref (q_t_runner_gatherers_e_least 0), .ref (q_t_runner_gatherers_e_greatest 0), .ref (q_t_runner_gatherers_e_sums 0), .ref (q_t_runner_gatherers_e_values 0), .ref (q_t_runner_gatherers_e_bins 0), .int (t_runner_gatherers_e_size 0)], zo 0 (q_t_runner_gatherers_e 1) [.ref (q_t_runner_gatherers_e_keys 1), .ref (q_t_runner_gatherers_e_least 1), .ref (q_t_runner_gatherers_e_greatest 1), .ref (q_t_runner_gatherers_e_sums 1), .ref (q_t_runner_gatherers_e_values 1), .ref (q_t_runner_gatherers_e_bins 1), .int (t_runner_gatherers_e_size 1)], zo 0 (q_t_runner_gatherers_e 2) [.ref (q_t_runner_gatherers_e_keys 2), .ref (q_t_runner_gatherers_e_least 2), .ref (q_t_runner_gatherers_e_greatest 2), .ref (q_t_runner_gatherers_e_sums 2), .ref (q_t_runner_gatherers_e_values 2), .ref (q_t_runner_gatherers_e_bins 2), .int (t_runner_gatherers_e_size 2)], zo 1 q_t_runner_records [.ref q_t_runner_records_ring, .int t_runner_records_oldest, .int t_runner_records_size, .int t_runner_records_lost]]) (wj := fun u => [zo 5 q_t [.ref q_t_text, .ref q_t_rules, .ref q_t_runner, .int t_place, .int t_firings], zaR K 5 q_t_rules 6 (fun i => some (q_t_rules_e i)), zo 2 (q_t_rules_e 0) [.ref (q_t_rules_e_steps 0), .int (t_rules_e_length 0), .int (t_rules_e_actions 0), .int (t_rules_e_site 0), .int (t_rules_e_exit 0), .int (t_rules_e_conditional 0), .int (t_rules_e_there 0), .int (t_rules_e_on 0), .int (t_rules_e_failures 0), .int (t_rules_e_meetings 0)], zo 2 (q_t_rules_e 1) [.ref (q_t_rules_e_steps 1), .int (t_rules_e_length 1), .int (t_rules_e_actions 1), .int (t_rules_e_site 1), .int (t_rules_e_exit 1), .int (t_rules_e_conditional 1), .int (t_rules_e_there 1), .int (t_rules_e_on 1), .int (t_rules_e_failures 1), .int (t_rules_e_meetings 1)], zo 2 (q_t_rules_e 2) [.ref (q_t_rules_e_steps 2), .int (t_rules_e_length 2), .int (t_rules_e_actions 2), .int (t_rules_e_site 2), .int (t_rules_e_exit 2), .int (t_rules_e_conditional 2), .int (t_rules_e_there 2), .int (t_rules_e_on 2), .int (t_rules_e_failures 2), .int (t_rules_e_meetings 2)], zo 2 (q_t_rules_e 3) [.ref (q_t_rules_e_steps 3), .int (t_rules_e_length 3), .int (t_rules_e_actions 3), .int (t_rules_e_site 3), .int (t_rules_e_exit 3), .int (t_rules_e_conditional 3), .int (t_rules_e_there 3), .int (t_rules_e_on 3), .int (t_rules_e_failures 3), .int (t_rules_e_meetings 3)], zo 2 (q_t_rules_e 4) [.ref (q_t_rules_e_steps 4), .int (t_rules_e_length 4), .int (t_rules_e_actions 4), .int (t_rules_e_site 4), .int (t_rules_e_exit 4), .int (t_rules_e_conditional 4), .int (t_rules_e_there 4), .int (t_rules_e_on 4), .int (t_rules_e_failures 4), .int (t_rules_e_meetings 4)], zo 2 (q_t_rules_e 5) [.ref (q_t_rules_e_steps 5), .int (t_rules_e_length 5), .int (t_rules_e_actions 5), .int (t_rules_e_site 5), .int (t_rules_e_exit 5), .int (t_rules_e_conditional 5), .int (t_rules_e_there 5), .int (t_rules_e_on 5), .int (t_rules_e_failures 5), .int (t_rules_e_meetings 5)], zo 4 q_t_runner [.ref q_t_runner_stack, .ref q_t_runner_variables, .ref q_t_runner_gatherers, .ref q_t_runner_records, .int t_runner_time, .int t_runner_dropped, .int t_runner_thread, .double t_runner_handedA, .double t_runner_handedB, .double t_runner_handedC, .int t_runner_top, .int t_runner_over, .int t_runner_failed, .int t_runner_met], zo 3 q_t_text [.ref q_t_text_characters, .ref q_t_text_draft, .int t_text_length, .int t_text_at], zaR K 6 q_t_runner_gatherers 3 (fun i => some (q_t_runner_gatherers_e i)), zo 0 (q_t_runner_gatherers_e 0) [.ref (q_t_runner_gatherers_e_keys 0), .ref (q_t_runner_gatherers_e_least 0), .ref (q_t_runner_gatherers_e_greatest 0), .ref (q_t_runner_gatherers_e_sums 0), .ref (q_t_runner_gatherers_e_values 0), .ref (q_t_runner_gatherers_e_bins 0), .int (t_runner_gatherers_e_size 0)], zo 0 (q_t_runner_gatherers_e 1) [.ref (q_t_runner_gatherers_e_keys 1), .ref (q_t_runner_gatherers_e_least 1), .ref (q_t_runner_gatherers_e_greatest 1), .ref (q_t_runner_gatherers_e_sums 1), .ref (q_t_runner_gatherers_e_values 1), .ref (q_t_runner_gatherers_e_bins 1), .int (t_runner_gatherers_e_size 1)], zo 0 (q_t_runner_gatherers_e 2) [.ref (q_t_runner_gatherers_e_keys 2), .ref (q_t_runner_gatherers_e_least 2), .ref (q_t_runner_gatherers_e_greatest 2), .ref (q_t_runner_gatherers_e_sums 2), .ref (q_t_runner_gatherers_e_values 2), .ref (q_t_runner_gatherers_e_bins 2), .int (t_runner_gatherers_e_size 2)], zo 1 q_t_runner_records [.ref q_t_runner_records_ring, .int t_runner_records_oldest, .int t_runner_records_size, .int t_runner_records_lost]]) C 0 rfl rfl (c_Tr_rulesOn l D K q_t q_t_text q_t_rules q_t_runner q_t_rules_e q_t_rules_e_steps t_place t_firings t_rules_e_length t_rules_e_actions t_rules_e_site t_rules_e_exit t_rules_e_conditional t_rules_e_there t_rules_e_on t_rules_e_failures t_rules_e_meetings hS106.1) (cwV 0 C.2.2.2.2.1 (z_gV wl_Tr_97 wi_Tr_rulesOn wv_Tr_rulesOn wz_Tr wk_Tr_rulesOn) rfl rfl rfl (by decide +kernel) ⟨Nat.le_of_ble_eq_true rfl, Nat.le_of_ble_eq_true rfl⟩) [0, 1, 2, 3, 4, 5, 6, 7] [8, 9, 10, 11, 12, 13, 14] [7, 8, 9, 10, 11, 12, 13, 14, 0, 1, 2, 3, 4, 5, 6] rfl rfl rfl rfl (by decide) (fun _ => rfl) rfl rfl rfl (Nat.le_of_ble_eq_true rfl) d_Tr_count_183 ⟨Nat.le_of_ble_eq_true rfl, Nat.le_of_ble_eq_true rfl⟩ (fun r107 u108 e109 => ?_)
              have hS110 := hS106.2 r107 e109
              exact z_iret C hr hlk () rfl hS110 d_Tr_count_186
            have hS111 := hS105.2 c95_3
            by_cases c95_4 : x1 = (4 : Int32)
            · refine z_tableIn (tgt := 187) C d_Tr_count_117 (by rw [c95_4]; decide) (by rw [c95_4]; decide) (by rw [c95_4]; rfl) (by decide) ?_
              have hS112 := hS111.1 c95_4
              refine z_aload_n C d_Tr_count_187 rfl 0 rfl ?_
              refine z_get C 0 rfl rfl in_Tr 2 (by decide) rfl wf_Tr_26 rfl d_Tr_count_188 ?_
              refine z_get C 8 rfl rfl in_Rn 3 (by decide) rfl wf_Tr_163 rfl d_Tr_count_191 ?_
              refine z_get C 14 rfl rfl in_Re 2 (by decide) rfl wf_Tr_167 rfl d_Tr_count_194 ?_
              exact z_iret C hr hlk () rfl hS112 d_Tr_count_197
            have hS113 := hS111.2 c95_4
            by_cases c95_5 : x1 = (5 : Int32)
            · refine z_tableIn (tgt := 198) C d_Tr_count_117 (by rw [c95_5]; decide) (by rw [c95_5]; decide) (by rw [c95_5]; rfl) (by decide) ?_
              have hS114 := hS113.1 c95_5
              refine z_aload_n C d_Tr_count_198 rfl 0 rfl ?_
              refine z_get C 0 rfl rfl in_Tr 2 (by decide) rfl wf_Tr_26 rfl d_Tr_count_199 ?_
              refine z_get C 8 rfl rfl in_Rn 3 (by decide) rfl wf_Tr_163 rfl d_Tr_count_202 ?_
              refine z_get C 14 rfl rfl in_Re 3 (by decide) rfl wf_Tr_188 rfl d_Tr_count_205 ?_
              exact z_iret C hr hlk () rfl hS114 d_Tr_count_208
            have hS115 := hS113.2 c95_5
            by_cases c95_6 : x1 = (6 : Int32)
            · refine z_tableIn (tgt := 209) C d_Tr_count_117 (by rw [c95_6]; decide) (by rw [c95_6]; decide) (by rw [c95_6]; rfl) (by decide) ?_
              have hS116 := hS115.1 c95_6
              refine z_aload_n C d_Tr_count_209 rfl 0 rfl ?_
              refine z_get C 0 rfl rfl in_Tr 2 (by decide) rfl wf_Tr_26 rfl d_Tr_count_210 ?_
              refine z_get C 8 rfl rfl in_Rn 5 (by decide) rfl wf_Tr_191 rfl d_Tr_count_213 ?_
              exact z_iret C hr hlk () rfl hS116 d_Tr_count_216
            have hS117 := hS115.2 c95_6
            by_cases c95_7 : x1 = (7 : Int32)
            · refine z_tableIn (tgt := 217) C d_Tr_count_117 (by rw [c95_7]; decide) (by rw [c95_7]; decide) (by rw [c95_7]; rfl) (by decide) ?_
              have hS118 := hS117.1 c95_7
              refine z_aload_n C d_Tr_count_217 rfl 0 rfl ?_
              refine z_get C 0 rfl rfl in_Tr 4 (by decide) rfl wf_Tr_121 rfl d_Tr_count_218 ?_
              exact z_iret C hr hlk () rfl hS118 d_Tr_count_221
            have hS119 := hS117.2 c95_7
            refine z_tableOut (tgt := 222) C d_Tr_count_117 (zto_0_7 c95_0 c95_1 c95_2 c95_3 c95_4 c95_5 c95_6 c95_7) (by decide) ?_
            refine z_bipush (v := (-2 : Int32)) C d_Tr_count_222 (by decide) ?_
            exact z_iret C hr hlk () rfl hS119 d_Tr_count_224
          · have hS94 := hS67.2 c93
            refine z_aload_n C d_Tr_count_100 rfl 0 rfl ?_
            refine z_get C 0 rfl rfl in_Tr 2 (by decide) rfl wf_Tr_26 rfl d_Tr_count_101 ?_
            refine z_get C 8 rfl rfl in_Rn 2 (by decide) rfl wf_Tr_139 rfl d_Tr_count_104 ?_
            refine z_iload_n C d_Tr_count_107 rfl 1 rfl ?_
            refine z_bipush (v := (8 : Int32)) C d_Tr_count_108 (by decide) ?_
            refine z_isub C d_Tr_count_110 ?_
            rcases zix_3 hS94.1 with hj120 | hj120 | hj120
            · have hS122 := hS94.2 0 hj120 (by decide)
              refine z_aldq (v := (q_t_runner_gatherers_e 0)) C 10 6 rfl rfl hS94.1 (by rw [zix_cl hj120 (by decide)]) d_Tr_count_111 ?_
              refine z_get C 11 rfl rfl in_Ga 6 (by decide) rfl wf_Tr_184 rfl d_Tr_count_112 ?_
              exact z_iret C hr hlk () rfl hS122 d_Tr_count_115
            · have hS123 := hS94.2 1 hj120 (by decide)
              refine z_aldq (v := (q_t_runner_gatherers_e 1)) C 10 6 rfl rfl hS94.1 (by rw [zix_cl hj120 (by decide)]) d_Tr_count_111 ?_
              refine z_get C 12 rfl rfl in_Ga 6 (by decide) rfl wf_Tr_184 rfl d_Tr_count_112 ?_
              exact z_iret C hr hlk () rfl hS123 d_Tr_count_115
            · have hS124 := hS94.2 2 hj120 (by decide)
              refine z_aldq (v := (q_t_runner_gatherers_e 2)) C 10 6 rfl rfl hS94.1 (by rw [zix_cl hj120 (by decide)]) d_Tr_count_111 ?_
              refine z_get C 13 rfl rfl in_Ga 6 (by decide) rfl wf_Tr_184 rfl d_Tr_count_112 ?_
              exact z_iret C hr hlk () rfl hS124 d_Tr_count_115
      · have hS65 := hS4.2 c64
        refine z_aload_n C d_Tr_count_56 rfl 0 rfl ?_
        refine z_get C 0 rfl rfl in_Tr 1 (by decide) rfl wf_Tr_18 rfl d_Tr_count_57 ?_
        refine z_iload_n C d_Tr_count_60 rfl 1 rfl ?_
        refine z_bipush (v := (30 : Int32)) C d_Tr_count_61 (by decide) ?_
        refine z_isub C d_Tr_count_63 ?_
        rcases zix_6 hS65.1 with hj125 | hj125 | hj125 | hj125 | hj125 | hj125
        · have hS127 := hS65.2 0 hj125 (by decide)
          refine z_aldq (v := (q_t_rules_e 0)) C 1 5 rfl rfl hS65.1 (by rw [zix_cl hj125 (by decide)]) d_Tr_count_64 ?_
          refine z_get C 2 rfl rfl in_Ru 6 (by decide) rfl wf_Tr_82 rfl d_Tr_count_65 ?_
          refine z_if_eq (tgt := 86) C d_Tr_count_68 (by decide) (fun c128 => ?_) (fun c128 => ?_)
          · have hS129 := hS127.1 c128
            refine z_iconst (v := (-1 : Int32)) C d_Tr_count_86 (by decide) ?_
            exact z_iret C hr hlk () rfl hS129 d_Tr_count_87
          · have hS129 := hS127.2 c128
            refine z_aload_n C d_Tr_count_71 rfl 0 rfl ?_
            refine z_get C 0 rfl rfl in_Tr 1 (by decide) rfl wf_Tr_18 rfl d_Tr_count_72 ?_
            refine z_iload_n C d_Tr_count_75 rfl 1 rfl ?_
            refine z_bipush (v := (30 : Int32)) C d_Tr_count_76 (by decide) ?_
            refine z_isub C d_Tr_count_78 ?_
            refine z_aldq C 1 5 rfl rfl (zix_in hj125 (by decide) (by decide)) (by rw [zix_cl hj125 (by decide)]) d_Tr_count_79 ?_
            refine z_get C 2 rfl rfl in_Ru 9 (by decide) rfl wf_Tr_181 rfl d_Tr_count_80 ?_
            refine z_goto (tgt := 87) C d_Tr_count_83 (by decide) ?_
            exact z_iret C hr hlk () rfl hS129 d_Tr_count_87
        · have hS130 := hS65.2 1 hj125 (by decide)
          refine z_aldq (v := (q_t_rules_e 1)) C 1 5 rfl rfl hS65.1 (by rw [zix_cl hj125 (by decide)]) d_Tr_count_64 ?_
          refine z_get C 3 rfl rfl in_Ru 6 (by decide) rfl wf_Tr_82 rfl d_Tr_count_65 ?_
          refine z_if_eq (tgt := 86) C d_Tr_count_68 (by decide) (fun c131 => ?_) (fun c131 => ?_)
          · have hS132 := hS130.1 c131
            refine z_iconst (v := (-1 : Int32)) C d_Tr_count_86 (by decide) ?_
            exact z_iret C hr hlk () rfl hS132 d_Tr_count_87
          · have hS132 := hS130.2 c131
            refine z_aload_n C d_Tr_count_71 rfl 0 rfl ?_
            refine z_get C 0 rfl rfl in_Tr 1 (by decide) rfl wf_Tr_18 rfl d_Tr_count_72 ?_
            refine z_iload_n C d_Tr_count_75 rfl 1 rfl ?_
            refine z_bipush (v := (30 : Int32)) C d_Tr_count_76 (by decide) ?_
            refine z_isub C d_Tr_count_78 ?_
            refine z_aldq C 1 5 rfl rfl (zix_in hj125 (by decide) (by decide)) (by rw [zix_cl hj125 (by decide)]) d_Tr_count_79 ?_
            refine z_get C 3 rfl rfl in_Ru 9 (by decide) rfl wf_Tr_181 rfl d_Tr_count_80 ?_
            refine z_goto (tgt := 87) C d_Tr_count_83 (by decide) ?_
            exact z_iret C hr hlk () rfl hS132 d_Tr_count_87
        · have hS133 := hS65.2 2 hj125 (by decide)
          refine z_aldq (v := (q_t_rules_e 2)) C 1 5 rfl rfl hS65.1 (by rw [zix_cl hj125 (by decide)]) d_Tr_count_64 ?_
          refine z_get C 4 rfl rfl in_Ru 6 (by decide) rfl wf_Tr_82 rfl d_Tr_count_65 ?_
          refine z_if_eq (tgt := 86) C d_Tr_count_68 (by decide) (fun c134 => ?_) (fun c134 => ?_)
          · have hS135 := hS133.1 c134
            refine z_iconst (v := (-1 : Int32)) C d_Tr_count_86 (by decide) ?_
            exact z_iret C hr hlk () rfl hS135 d_Tr_count_87
          · have hS135 := hS133.2 c134
            refine z_aload_n C d_Tr_count_71 rfl 0 rfl ?_
            refine z_get C 0 rfl rfl in_Tr 1 (by decide) rfl wf_Tr_18 rfl d_Tr_count_72 ?_
            refine z_iload_n C d_Tr_count_75 rfl 1 rfl ?_
            refine z_bipush (v := (30 : Int32)) C d_Tr_count_76 (by decide) ?_
            refine z_isub C d_Tr_count_78 ?_
            refine z_aldq C 1 5 rfl rfl (zix_in hj125 (by decide) (by decide)) (by rw [zix_cl hj125 (by decide)]) d_Tr_count_79 ?_
            refine z_get C 4 rfl rfl in_Ru 9 (by decide) rfl wf_Tr_181 rfl d_Tr_count_80 ?_
            refine z_goto (tgt := 87) C d_Tr_count_83 (by decide) ?_
            exact z_iret C hr hlk () rfl hS135 d_Tr_count_87
        · have hS136 := hS65.2 3 hj125 (by decide)
          refine z_aldq (v := (q_t_rules_e 3)) C 1 5 rfl rfl hS65.1 (by rw [zix_cl hj125 (by decide)]) d_Tr_count_64 ?_
          refine z_get C 5 rfl rfl in_Ru 6 (by decide) rfl wf_Tr_82 rfl d_Tr_count_65 ?_
          refine z_if_eq (tgt := 86) C d_Tr_count_68 (by decide) (fun c137 => ?_) (fun c137 => ?_)
          · have hS138 := hS136.1 c137
            refine z_iconst (v := (-1 : Int32)) C d_Tr_count_86 (by decide) ?_
            exact z_iret C hr hlk () rfl hS138 d_Tr_count_87
          · have hS138 := hS136.2 c137
            refine z_aload_n C d_Tr_count_71 rfl 0 rfl ?_
            refine z_get C 0 rfl rfl in_Tr 1 (by decide) rfl wf_Tr_18 rfl d_Tr_count_72 ?_
            refine z_iload_n C d_Tr_count_75 rfl 1 rfl ?_
            refine z_bipush (v := (30 : Int32)) C d_Tr_count_76 (by decide) ?_
            refine z_isub C d_Tr_count_78 ?_
            refine z_aldq C 1 5 rfl rfl (zix_in hj125 (by decide) (by decide)) (by rw [zix_cl hj125 (by decide)]) d_Tr_count_79 ?_
            refine z_get C 5 rfl rfl in_Ru 9 (by decide) rfl wf_Tr_181 rfl d_Tr_count_80 ?_
            refine z_goto (tgt := 87) C d_Tr_count_83 (by decide) ?_
            exact z_iret C hr hlk () rfl hS138 d_Tr_count_87
        · have hS139 := hS65.2 4 hj125 (by decide)
          refine z_aldq (v := (q_t_rules_e 4)) C 1 5 rfl rfl hS65.1 (by rw [zix_cl hj125 (by decide)]) d_Tr_count_64 ?_
          refine z_get C 6 rfl rfl in_Ru 6 (by decide) rfl wf_Tr_82 rfl d_Tr_count_65 ?_
          refine z_if_eq (tgt := 86) C d_Tr_count_68 (by decide) (fun c140 => ?_) (fun c140 => ?_)
          · have hS141 := hS139.1 c140
            refine z_iconst (v := (-1 : Int32)) C d_Tr_count_86 (by decide) ?_
            exact z_iret C hr hlk () rfl hS141 d_Tr_count_87
          · have hS141 := hS139.2 c140
            refine z_aload_n C d_Tr_count_71 rfl 0 rfl ?_
            refine z_get C 0 rfl rfl in_Tr 1 (by decide) rfl wf_Tr_18 rfl d_Tr_count_72 ?_
            refine z_iload_n C d_Tr_count_75 rfl 1 rfl ?_
            refine z_bipush (v := (30 : Int32)) C d_Tr_count_76 (by decide) ?_
            refine z_isub C d_Tr_count_78 ?_
            refine z_aldq C 1 5 rfl rfl (zix_in hj125 (by decide) (by decide)) (by rw [zix_cl hj125 (by decide)]) d_Tr_count_79 ?_
            refine z_get C 6 rfl rfl in_Ru 9 (by decide) rfl wf_Tr_181 rfl d_Tr_count_80 ?_
            refine z_goto (tgt := 87) C d_Tr_count_83 (by decide) ?_
            exact z_iret C hr hlk () rfl hS141 d_Tr_count_87
        · have hS142 := hS65.2 5 hj125 (by decide)
          refine z_aldq (v := (q_t_rules_e 5)) C 1 5 rfl rfl hS65.1 (by rw [zix_cl hj125 (by decide)]) d_Tr_count_64 ?_
          refine z_get C 7 rfl rfl in_Ru 6 (by decide) rfl wf_Tr_82 rfl d_Tr_count_65 ?_
          refine z_if_eq (tgt := 86) C d_Tr_count_68 (by decide) (fun c143 => ?_) (fun c143 => ?_)
          · have hS144 := hS142.1 c143
            refine z_iconst (v := (-1 : Int32)) C d_Tr_count_86 (by decide) ?_
            exact z_iret C hr hlk () rfl hS144 d_Tr_count_87
          · have hS144 := hS142.2 c143
            refine z_aload_n C d_Tr_count_71 rfl 0 rfl ?_
            refine z_get C 0 rfl rfl in_Tr 1 (by decide) rfl wf_Tr_18 rfl d_Tr_count_72 ?_
            refine z_iload_n C d_Tr_count_75 rfl 1 rfl ?_
            refine z_bipush (v := (30 : Int32)) C d_Tr_count_76 (by decide) ?_
            refine z_isub C d_Tr_count_78 ?_
            refine z_aldq C 1 5 rfl rfl (zix_in hj125 (by decide) (by decide)) (by rw [zix_cl hj125 (by decide)]) d_Tr_count_79 ?_
            refine z_get C 7 rfl rfl in_Ru 9 (by decide) rfl wf_Tr_181 rfl d_Tr_count_80 ?_
            refine z_goto (tgt := 87) C d_Tr_count_83 (by decide) ?_
            exact z_iret C hr hlk () rfl hS144 d_Tr_count_87
  · have hS2 := hS0.2 c1
    refine z_iload_n C d_Tr_count_6 rfl 1 rfl ?_
    refine z_bipush (v := (26 : Int32)) C d_Tr_count_7 (by decide) ?_
    refine z_icmp_ge (tgt := 44) C d_Tr_count_9 (by decide) (fun c147 => ?_) (fun c147 => ?_)
    · have hS148 := hS2.1 c147
      refine z_iload_n C d_Tr_count_44 rfl 1 rfl ?_
      refine z_bipush (v := (30 : Int32)) C d_Tr_count_45 (by decide) ?_
      refine z_icmp_lt (tgt := 88) C d_Tr_count_47 (by decide) (fun c149 => ?_) (fun c149 => ?_)
      · have hS150 := hS148.1 c149
        refine z_iload_n C d_Tr_count_88 rfl 1 rfl ?_
        refine z_bipush (v := (8 : Int32)) C d_Tr_count_89 (by decide) ?_
        refine z_icmp_lt (tgt := 116) C d_Tr_count_91 (by decide) (fun c151 => ?_) (fun c151 => ?_)
        · have hS152 := hS150.1 c151
          refine z_iload_n C d_Tr_count_116 rfl 1 rfl ?_
          by_cases c153_0 : x1 = (0 : Int32)
          · refine z_tableIn (tgt := 164) C d_Tr_count_117 (by rw [c153_0]; decide) (by rw [c153_0]; decide) (by rw [c153_0]; rfl) (by decide) ?_
            have hS154 := hS152.1 c153_0
            refine z_aload_n C d_Tr_count_164 rfl 0 rfl ?_
            refine z_get C 0 rfl rfl in_Tr 3 (by decide) rfl wf_Tr_30 rfl d_Tr_count_165 ?_
            exact z_iret C hr hlk () rfl hS154 d_Tr_count_168
          have hS155 := hS152.2 c153_0
          by_cases c153_1 : x1 = (1 : Int32)
          · refine z_tableIn (tgt := 169) C d_Tr_count_117 (by rw [c153_1]; decide) (by rw [c153_1]; decide) (by rw [c153_1]; rfl) (by decide) ?_
            have hS156 := hS155.1 c153_1
            refine z_aload_n C d_Tr_count_169 rfl 0 rfl ?_
            refine z_get C 0 rfl rfl in_Tr 0 (by decide) rfl wf_Tr_10 rfl d_Tr_count_170 ?_
            refine z_get C 9 rfl rfl in_Te 2 (by decide) rfl wf_Tr_57 rfl d_Tr_count_173 ?_
            exact z_iret C hr hlk () rfl hS156 d_Tr_count_176
          have hS157 := hS155.2 c153_1
          by_cases c153_2 : x1 = (2 : Int32)
          · refine z_tableIn (tgt := 177) C d_Tr_count_117 (by rw [c153_2]; decide) (by rw [c153_2]; decide) (by rw [c153_2]; rfl) (by decide) ?_
            have hS158 := hS157.1 c153_2
            refine z_aload_n C d_Tr_count_177 rfl 0 rfl ?_
            refine z_callVi (As := []) (b := q_t) (st := []) (wr := [zo 4 q_t_runner [.ref q_t_runner_stack, .ref q_t_runner_variables, .ref q_t_runner_gatherers, .ref q_t_runner_records, .int t_runner_time, .int t_runner_dropped, .int t_runner_thread, .double t_runner_handedA, .double t_runner_handedB, .double t_runner_handedC, .int t_runner_top, .int t_runner_over, .int t_runner_failed, .int t_runner_met], zo 3 q_t_text [.ref q_t_text_characters, .ref q_t_text_draft, .int t_text_length, .int t_text_at], zaR K 6 q_t_runner_gatherers 3 (fun i => some (q_t_runner_gatherers_e i)), zo 0 (q_t_runner_gatherers_e 0) [.ref (q_t_runner_gatherers_e_keys 0), .ref (q_t_runner_gatherers_e_least 0), .ref (q_t_runner_gatherers_e_greatest 0), .ref (q_t_runner_gatherers_e_sums 0), .ref (q_t_runner_gatherers_e_values 0), .ref (q_t_runner_gatherers_e_bins 0), .int (t_runner_gatherers_e_size 0)], zo 0 (q_t_runner_gatherers_e 1) [.ref (q_t_runner_gatherers_e_keys 1), .ref (q_t_runner_gatherers_e_least 1), .ref (q_t_runner_gatherers_e_greatest 1), .ref (q_t_runner_gatherers_e_sums 1), .ref (q_t_runner_gatherers_e_values 1), .ref (q_t_runner_gatherers_e_bins 1), .int (t_runner_gatherers_e_size 1)], zo 0 (q_t_runner_gatherers_e 2) [.ref (q_t_runner_gatherers_e_keys 2), .ref (q_t_runner_gatherers_e_least 2), .ref (q_t_runner_gatherers_e_greatest 2), .ref (q_t_runner_gatherers_e_sums 2), .ref (q_t_runner_gatherers_e_values 2), .ref (q_t_runner_gatherers_e_bins 2), .int (t_runner_gatherers_e_size 2)], zo 1 q_t_runner_records [.ref q_t_runner_records_ring, .int t_runner_records_oldest, .int t_runner_records_size, .int t_runner_records_lost]]) (wj := fun u => [zo 5 q_t [.ref q_t_text, .ref q_t_rules, .ref q_t_runner, .int t_place, .int t_firings], zaR K 5 q_t_rules 6 (fun i => some (q_t_rules_e i)), zo 2 (q_t_rules_e 0) [.ref (q_t_rules_e_steps 0), .int (t_rules_e_length 0), .int (t_rules_e_actions 0), .int (t_rules_e_site 0), .int (t_rules_e_exit 0), .int (t_rules_e_conditional 0), .int (t_rules_e_there 0), .int (t_rules_e_on 0), .int (t_rules_e_failures 0), .int (t_rules_e_meetings 0)], zo 2 (q_t_rules_e 1) [.ref (q_t_rules_e_steps 1), .int (t_rules_e_length 1), .int (t_rules_e_actions 1), .int (t_rules_e_site 1), .int (t_rules_e_exit 1), .int (t_rules_e_conditional 1), .int (t_rules_e_there 1), .int (t_rules_e_on 1), .int (t_rules_e_failures 1), .int (t_rules_e_meetings 1)], zo 2 (q_t_rules_e 2) [.ref (q_t_rules_e_steps 2), .int (t_rules_e_length 2), .int (t_rules_e_actions 2), .int (t_rules_e_site 2), .int (t_rules_e_exit 2), .int (t_rules_e_conditional 2), .int (t_rules_e_there 2), .int (t_rules_e_on 2), .int (t_rules_e_failures 2), .int (t_rules_e_meetings 2)], zo 2 (q_t_rules_e 3) [.ref (q_t_rules_e_steps 3), .int (t_rules_e_length 3), .int (t_rules_e_actions 3), .int (t_rules_e_site 3), .int (t_rules_e_exit 3), .int (t_rules_e_conditional 3), .int (t_rules_e_there 3), .int (t_rules_e_on 3), .int (t_rules_e_failures 3), .int (t_rules_e_meetings 3)], zo 2 (q_t_rules_e 4) [.ref (q_t_rules_e_steps 4), .int (t_rules_e_length 4), .int (t_rules_e_actions 4), .int (t_rules_e_site 4), .int (t_rules_e_exit 4), .int (t_rules_e_conditional 4), .int (t_rules_e_there 4), .int (t_rules_e_on 4), .int (t_rules_e_failures 4), .int (t_rules_e_meetings 4)], zo 2 (q_t_rules_e 5) [.ref (q_t_rules_e_steps 5), .int (t_rules_e_length 5), .int (t_rules_e_actions 5), .int (t_rules_e_site 5), .int (t_rules_e_exit 5), .int (t_rules_e_conditional 5), .int (t_rules_e_there 5), .int (t_rules_e_on 5), .int (t_rules_e_failures 5), .int (t_rules_e_meetings 5)], zo 4 q_t_runner [.ref q_t_runner_stack, .ref q_t_runner_variables, .ref q_t_runner_gatherers, .ref q_t_runner_records, .int t_runner_time, .int t_runner_dropped, .int t_runner_thread, .double t_runner_handedA, .double t_runner_handedB, .double t_runner_handedC, .int t_runner_top, .int t_runner_over, .int t_runner_failed, .int t_runner_met], zo 3 q_t_text [.ref q_t_text_characters, .ref q_t_text_draft, .int t_text_length, .int t_text_at], zaR K 6 q_t_runner_gatherers 3 (fun i => some (q_t_runner_gatherers_e i)), zo 0 (q_t_runner_gatherers_e 0) [.ref (q_t_runner_gatherers_e_keys 0), .ref (q_t_runner_gatherers_e_least 0), .ref (q_t_runner_gatherers_e_greatest 0), .ref (q_t_runner_gatherers_e_sums 0), .ref (q_t_runner_gatherers_e_values 0), .ref (q_t_runner_gatherers_e_bins 0), .int (t_runner_gatherers_e_size 0)], zo 0 (q_t_runner_gatherers_e 1) [.ref (q_t_runner_gatherers_e_keys 1), .ref (q_t_runner_gatherers_e_least 1), .ref (q_t_runner_gatherers_e_greatest 1), .ref (q_t_runner_gatherers_e_sums 1), .ref (q_t_runner_gatherers_e_values 1), .ref (q_t_runner_gatherers_e_bins 1), .int (t_runner_gatherers_e_size 1)], zo 0 (q_t_runner_gatherers_e 2) [.ref (q_t_runner_gatherers_e_keys 2), .ref (q_t_runner_gatherers_e_least 2), .ref (q_t_runner_gatherers_e_greatest 2), .ref (q_t_runner_gatherers_e_sums 2), .ref (q_t_runner_gatherers_e_values 2), .ref (q_t_runner_gatherers_e_bins 2), .int (t_runner_gatherers_e_size 2)], zo 1 q_t_runner_records [.ref q_t_runner_records_ring, .int t_runner_records_oldest, .int t_runner_records_size, .int t_runner_records_lost]]) C 0 rfl rfl (c_Tr_rulesThere l D K q_t q_t_text q_t_rules q_t_runner q_t_rules_e q_t_rules_e_steps t_place t_firings t_rules_e_length t_rules_e_actions t_rules_e_site t_rules_e_exit t_rules_e_conditional t_rules_e_there t_rules_e_on t_rules_e_failures t_rules_e_meetings hS158.1) (cwV 0 C.2.2.2.2.1 (z_gV wl_Tr_185 wi_Tr_rulesThere wv_Tr_rulesThere wz_Tr wk_Tr_rulesThere) rfl rfl rfl (by decide +kernel) ⟨Nat.le_of_ble_eq_true rfl, Nat.le_of_ble_eq_true rfl⟩) [0, 1, 2, 3, 4, 5, 6, 7] [8, 9, 10, 11, 12, 13, 14] [7, 8, 9, 10, 11, 12, 13, 14, 0, 1, 2, 3, 4, 5, 6] rfl rfl rfl rfl (by decide) (fun _ => rfl) rfl rfl rfl (Nat.le_of_ble_eq_true rfl) d_Tr_count_178 ⟨Nat.le_of_ble_eq_true rfl, Nat.le_of_ble_eq_true rfl⟩ (fun r159 u160 e161 => ?_)
            have hS162 := hS158.2 r159 e161
            exact z_iret C hr hlk () rfl hS162 d_Tr_count_181
          have hS163 := hS157.2 c153_2
          by_cases c153_3 : x1 = (3 : Int32)
          · refine z_tableIn (tgt := 182) C d_Tr_count_117 (by rw [c153_3]; decide) (by rw [c153_3]; decide) (by rw [c153_3]; rfl) (by decide) ?_
            have hS164 := hS163.1 c153_3
            refine z_aload_n C d_Tr_count_182 rfl 0 rfl ?_
            refine z_callVi (As := []) (b := q_t) (st := []) (wr := [zo 4 q_t_runner [.ref q_t_runner_stack, .ref q_t_runner_variables, .ref q_t_runner_gatherers, .ref q_t_runner_records, .int t_runner_time, .int t_runner_dropped, .int t_runner_thread, .double t_runner_handedA, .double t_runner_handedB, .double t_runner_handedC, .int t_runner_top, .int t_runner_over, .int t_runner_failed, .int t_runner_met], zo 3 q_t_text [.ref q_t_text_characters, .ref q_t_text_draft, .int t_text_length, .int t_text_at], zaR K 6 q_t_runner_gatherers 3 (fun i => some (q_t_runner_gatherers_e i)), zo 0 (q_t_runner_gatherers_e 0) [.ref (q_t_runner_gatherers_e_keys 0), .ref (q_t_runner_gatherers_e_least 0), .ref (q_t_runner_gatherers_e_greatest 0), .ref (q_t_runner_gatherers_e_sums 0), .ref (q_t_runner_gatherers_e_values 0), .ref (q_t_runner_gatherers_e_bins 0), .int (t_runner_gatherers_e_size 0)], zo 0 (q_t_runner_gatherers_e 1) [.ref (q_t_runner_gatherers_e_keys 1), .ref (q_t_runner_gatherers_e_least 1), .ref (q_t_runner_gatherers_e_greatest 1), .ref (q_t_runner_gatherers_e_sums 1), .ref (q_t_runner_gatherers_e_values 1), .ref (q_t_runner_gatherers_e_bins 1), .int (t_runner_gatherers_e_size 1)], zo 0 (q_t_runner_gatherers_e 2) [.ref (q_t_runner_gatherers_e_keys 2), .ref (q_t_runner_gatherers_e_least 2), .ref (q_t_runner_gatherers_e_greatest 2), .ref (q_t_runner_gatherers_e_sums 2), .ref (q_t_runner_gatherers_e_values 2), .ref (q_t_runner_gatherers_e_bins 2), .int (t_runner_gatherers_e_size 2)], zo 1 q_t_runner_records [.ref q_t_runner_records_ring, .int t_runner_records_oldest, .int t_runner_records_size, .int t_runner_records_lost]]) (wj := fun u => [zo 5 q_t [.ref q_t_text, .ref q_t_rules, .ref q_t_runner, .int t_place, .int t_firings], zaR K 5 q_t_rules 6 (fun i => some (q_t_rules_e i)), zo 2 (q_t_rules_e 0) [.ref (q_t_rules_e_steps 0), .int (t_rules_e_length 0), .int (t_rules_e_actions 0), .int (t_rules_e_site 0), .int (t_rules_e_exit 0), .int (t_rules_e_conditional 0), .int (t_rules_e_there 0), .int (t_rules_e_on 0), .int (t_rules_e_failures 0), .int (t_rules_e_meetings 0)], zo 2 (q_t_rules_e 1) [.ref (q_t_rules_e_steps 1), .int (t_rules_e_length 1), .int (t_rules_e_actions 1), .int (t_rules_e_site 1), .int (t_rules_e_exit 1), .int (t_rules_e_conditional 1), .int (t_rules_e_there 1), .int (t_rules_e_on 1), .int (t_rules_e_failures 1), .int (t_rules_e_meetings 1)], zo 2 (q_t_rules_e 2) [.ref (q_t_rules_e_steps 2), .int (t_rules_e_length 2), .int (t_rules_e_actions 2), .int (t_rules_e_site 2), .int (t_rules_e_exit 2), .int (t_rules_e_conditional 2), .int (t_rules_e_there 2), .int (t_rules_e_on 2), .int (t_rules_e_failures 2), .int (t_rules_e_meetings 2)], zo 2 (q_t_rules_e 3) [.ref (q_t_rules_e_steps 3), .int (t_rules_e_length 3), .int (t_rules_e_actions 3), .int (t_rules_e_site 3), .int (t_rules_e_exit 3), .int (t_rules_e_conditional 3), .int (t_rules_e_there 3), .int (t_rules_e_on 3), .int (t_rules_e_failures 3), .int (t_rules_e_meetings 3)], zo 2 (q_t_rules_e 4) [.ref (q_t_rules_e_steps 4), .int (t_rules_e_length 4), .int (t_rules_e_actions 4), .int (t_rules_e_site 4), .int (t_rules_e_exit 4), .int (t_rules_e_conditional 4), .int (t_rules_e_there 4), .int (t_rules_e_on 4), .int (t_rules_e_failures 4), .int (t_rules_e_meetings 4)], zo 2 (q_t_rules_e 5) [.ref (q_t_rules_e_steps 5), .int (t_rules_e_length 5), .int (t_rules_e_actions 5), .int (t_rules_e_site 5), .int (t_rules_e_exit 5), .int (t_rules_e_conditional 5), .int (t_rules_e_there 5), .int (t_rules_e_on 5), .int (t_rules_e_failures 5), .int (t_rules_e_meetings 5)], zo 4 q_t_runner [.ref q_t_runner_stack, .ref q_t_runner_variables, .ref q_t_runner_gatherers, .ref q_t_runner_records, .int t_runner_time, .int t_runner_dropped, .int t_runner_thread, .double t_runner_handedA, .double t_runner_handedB, .double t_runner_handedC, .int t_runner_top, .int t_runner_over, .int t_runner_failed, .int t_runner_met], zo 3 q_t_text [.ref q_t_text_characters, .ref q_t_text_draft, .int t_text_length, .int t_text_at], zaR K 6 q_t_runner_gatherers 3 (fun i => some (q_t_runner_gatherers_e i)), zo 0 (q_t_runner_gatherers_e 0) [.ref (q_t_runner_gatherers_e_keys 0), .ref (q_t_runner_gatherers_e_least 0), .ref (q_t_runner_gatherers_e_greatest 0), .ref (q_t_runner_gatherers_e_sums 0), .ref (q_t_runner_gatherers_e_values 0), .ref (q_t_runner_gatherers_e_bins 0), .int (t_runner_gatherers_e_size 0)], zo 0 (q_t_runner_gatherers_e 1) [.ref (q_t_runner_gatherers_e_keys 1), .ref (q_t_runner_gatherers_e_least 1), .ref (q_t_runner_gatherers_e_greatest 1), .ref (q_t_runner_gatherers_e_sums 1), .ref (q_t_runner_gatherers_e_values 1), .ref (q_t_runner_gatherers_e_bins 1), .int (t_runner_gatherers_e_size 1)], zo 0 (q_t_runner_gatherers_e 2) [.ref (q_t_runner_gatherers_e_keys 2), .ref (q_t_runner_gatherers_e_least 2), .ref (q_t_runner_gatherers_e_greatest 2), .ref (q_t_runner_gatherers_e_sums 2), .ref (q_t_runner_gatherers_e_values 2), .ref (q_t_runner_gatherers_e_bins 2), .int (t_runner_gatherers_e_size 2)], zo 1 q_t_runner_records [.ref q_t_runner_records_ring, .int t_runner_records_oldest, .int t_runner_records_size, .int t_runner_records_lost]]) C 0 rfl rfl (c_Tr_rulesOn l D K q_t q_t_text q_t_rules q_t_runner q_t_rules_e q_t_rules_e_steps t_place t_firings t_rules_e_length t_rules_e_actions t_rules_e_site t_rules_e_exit t_rules_e_conditional t_rules_e_there t_rules_e_on t_rules_e_failures t_rules_e_meetings hS164.1) (cwV 0 C.2.2.2.2.1 (z_gV wl_Tr_97 wi_Tr_rulesOn wv_Tr_rulesOn wz_Tr wk_Tr_rulesOn) rfl rfl rfl (by decide +kernel) ⟨Nat.le_of_ble_eq_true rfl, Nat.le_of_ble_eq_true rfl⟩) [0, 1, 2, 3, 4, 5, 6, 7] [8, 9, 10, 11, 12, 13, 14] [7, 8, 9, 10, 11, 12, 13, 14, 0, 1, 2, 3, 4, 5, 6] rfl rfl rfl rfl (by decide) (fun _ => rfl) rfl rfl rfl (Nat.le_of_ble_eq_true rfl) d_Tr_count_183 ⟨Nat.le_of_ble_eq_true rfl, Nat.le_of_ble_eq_true rfl⟩ (fun r165 u166 e167 => ?_)
            have hS168 := hS164.2 r165 e167
            exact z_iret C hr hlk () rfl hS168 d_Tr_count_186
          have hS169 := hS163.2 c153_3
          by_cases c153_4 : x1 = (4 : Int32)
          · refine z_tableIn (tgt := 187) C d_Tr_count_117 (by rw [c153_4]; decide) (by rw [c153_4]; decide) (by rw [c153_4]; rfl) (by decide) ?_
            have hS170 := hS169.1 c153_4
            refine z_aload_n C d_Tr_count_187 rfl 0 rfl ?_
            refine z_get C 0 rfl rfl in_Tr 2 (by decide) rfl wf_Tr_26 rfl d_Tr_count_188 ?_
            refine z_get C 8 rfl rfl in_Rn 3 (by decide) rfl wf_Tr_163 rfl d_Tr_count_191 ?_
            refine z_get C 14 rfl rfl in_Re 2 (by decide) rfl wf_Tr_167 rfl d_Tr_count_194 ?_
            exact z_iret C hr hlk () rfl hS170 d_Tr_count_197
          have hS171 := hS169.2 c153_4
          by_cases c153_5 : x1 = (5 : Int32)
          · refine z_tableIn (tgt := 198) C d_Tr_count_117 (by rw [c153_5]; decide) (by rw [c153_5]; decide) (by rw [c153_5]; rfl) (by decide) ?_
            have hS172 := hS171.1 c153_5
            refine z_aload_n C d_Tr_count_198 rfl 0 rfl ?_
            refine z_get C 0 rfl rfl in_Tr 2 (by decide) rfl wf_Tr_26 rfl d_Tr_count_199 ?_
            refine z_get C 8 rfl rfl in_Rn 3 (by decide) rfl wf_Tr_163 rfl d_Tr_count_202 ?_
            refine z_get C 14 rfl rfl in_Re 3 (by decide) rfl wf_Tr_188 rfl d_Tr_count_205 ?_
            exact z_iret C hr hlk () rfl hS172 d_Tr_count_208
          have hS173 := hS171.2 c153_5
          by_cases c153_6 : x1 = (6 : Int32)
          · refine z_tableIn (tgt := 209) C d_Tr_count_117 (by rw [c153_6]; decide) (by rw [c153_6]; decide) (by rw [c153_6]; rfl) (by decide) ?_
            have hS174 := hS173.1 c153_6
            refine z_aload_n C d_Tr_count_209 rfl 0 rfl ?_
            refine z_get C 0 rfl rfl in_Tr 2 (by decide) rfl wf_Tr_26 rfl d_Tr_count_210 ?_
            refine z_get C 8 rfl rfl in_Rn 5 (by decide) rfl wf_Tr_191 rfl d_Tr_count_213 ?_
            exact z_iret C hr hlk () rfl hS174 d_Tr_count_216
          have hS175 := hS173.2 c153_6
          by_cases c153_7 : x1 = (7 : Int32)
          · refine z_tableIn (tgt := 217) C d_Tr_count_117 (by rw [c153_7]; decide) (by rw [c153_7]; decide) (by rw [c153_7]; rfl) (by decide) ?_
            have hS176 := hS175.1 c153_7
            refine z_aload_n C d_Tr_count_217 rfl 0 rfl ?_
            refine z_get C 0 rfl rfl in_Tr 4 (by decide) rfl wf_Tr_121 rfl d_Tr_count_218 ?_
            exact z_iret C hr hlk () rfl hS176 d_Tr_count_221
          have hS177 := hS175.2 c153_7
          refine z_tableOut (tgt := 222) C d_Tr_count_117 (zto_0_7 c153_0 c153_1 c153_2 c153_3 c153_4 c153_5 c153_6 c153_7) (by decide) ?_
          refine z_bipush (v := (-2 : Int32)) C d_Tr_count_222 (by decide) ?_
          exact z_iret C hr hlk () rfl hS177 d_Tr_count_224
        · have hS152 := hS150.2 c151
          refine z_iload_n C d_Tr_count_94 rfl 1 rfl ?_
          refine z_bipush (v := (11 : Int32)) C d_Tr_count_95 (by decide) ?_
          refine z_icmp_ge (tgt := 116) C d_Tr_count_97 (by decide) (fun c178 => ?_) (fun c178 => ?_)
          · have hS179 := hS152.1 c178
            refine z_iload_n C d_Tr_count_116 rfl 1 rfl ?_
            by_cases c180_0 : x1 = (0 : Int32)
            · refine z_tableIn (tgt := 164) C d_Tr_count_117 (by rw [c180_0]; decide) (by rw [c180_0]; decide) (by rw [c180_0]; rfl) (by decide) ?_
              have hS181 := hS179.1 c180_0
              refine z_aload_n C d_Tr_count_164 rfl 0 rfl ?_
              refine z_get C 0 rfl rfl in_Tr 3 (by decide) rfl wf_Tr_30 rfl d_Tr_count_165 ?_
              exact z_iret C hr hlk () rfl hS181 d_Tr_count_168
            have hS182 := hS179.2 c180_0
            by_cases c180_1 : x1 = (1 : Int32)
            · refine z_tableIn (tgt := 169) C d_Tr_count_117 (by rw [c180_1]; decide) (by rw [c180_1]; decide) (by rw [c180_1]; rfl) (by decide) ?_
              have hS183 := hS182.1 c180_1
              refine z_aload_n C d_Tr_count_169 rfl 0 rfl ?_
              refine z_get C 0 rfl rfl in_Tr 0 (by decide) rfl wf_Tr_10 rfl d_Tr_count_170 ?_
              refine z_get C 9 rfl rfl in_Te 2 (by decide) rfl wf_Tr_57 rfl d_Tr_count_173 ?_
              exact z_iret C hr hlk () rfl hS183 d_Tr_count_176
            have hS184 := hS182.2 c180_1
            by_cases c180_2 : x1 = (2 : Int32)
            · refine z_tableIn (tgt := 177) C d_Tr_count_117 (by rw [c180_2]; decide) (by rw [c180_2]; decide) (by rw [c180_2]; rfl) (by decide) ?_
              have hS185 := hS184.1 c180_2
              refine z_aload_n C d_Tr_count_177 rfl 0 rfl ?_
              refine z_callVi (As := []) (b := q_t) (st := []) (wr := [zo 4 q_t_runner [.ref q_t_runner_stack, .ref q_t_runner_variables, .ref q_t_runner_gatherers, .ref q_t_runner_records, .int t_runner_time, .int t_runner_dropped, .int t_runner_thread, .double t_runner_handedA, .double t_runner_handedB, .double t_runner_handedC, .int t_runner_top, .int t_runner_over, .int t_runner_failed, .int t_runner_met], zo 3 q_t_text [.ref q_t_text_characters, .ref q_t_text_draft, .int t_text_length, .int t_text_at], zaR K 6 q_t_runner_gatherers 3 (fun i => some (q_t_runner_gatherers_e i)), zo 0 (q_t_runner_gatherers_e 0) [.ref (q_t_runner_gatherers_e_keys 0), .ref (q_t_runner_gatherers_e_least 0), .ref (q_t_runner_gatherers_e_greatest 0), .ref (q_t_runner_gatherers_e_sums 0), .ref (q_t_runner_gatherers_e_values 0), .ref (q_t_runner_gatherers_e_bins 0), .int (t_runner_gatherers_e_size 0)], zo 0 (q_t_runner_gatherers_e 1) [.ref (q_t_runner_gatherers_e_keys 1), .ref (q_t_runner_gatherers_e_least 1), .ref (q_t_runner_gatherers_e_greatest 1), .ref (q_t_runner_gatherers_e_sums 1), .ref (q_t_runner_gatherers_e_values 1), .ref (q_t_runner_gatherers_e_bins 1), .int (t_runner_gatherers_e_size 1)], zo 0 (q_t_runner_gatherers_e 2) [.ref (q_t_runner_gatherers_e_keys 2), .ref (q_t_runner_gatherers_e_least 2), .ref (q_t_runner_gatherers_e_greatest 2), .ref (q_t_runner_gatherers_e_sums 2), .ref (q_t_runner_gatherers_e_values 2), .ref (q_t_runner_gatherers_e_bins 2), .int (t_runner_gatherers_e_size 2)], zo 1 q_t_runner_records [.ref q_t_runner_records_ring, .int t_runner_records_oldest, .int t_runner_records_size, .int t_runner_records_lost]]) (wj := fun u => [zo 5 q_t [.ref q_t_text, .ref q_t_rules, .ref q_t_runner, .int t_place, .int t_firings], zaR K 5 q_t_rules 6 (fun i => some (q_t_rules_e i)), zo 2 (q_t_rules_e 0) [.ref (q_t_rules_e_steps 0), .int (t_rules_e_length 0), .int (t_rules_e_actions 0), .int (t_rules_e_site 0), .int (t_rules_e_exit 0), .int (t_rules_e_conditional 0), .int (t_rules_e_there 0), .int (t_rules_e_on 0), .int (t_rules_e_failures 0), .int (t_rules_e_meetings 0)], zo 2 (q_t_rules_e 1) [.ref (q_t_rules_e_steps 1), .int (t_rules_e_length 1), .int (t_rules_e_actions 1), .int (t_rules_e_site 1), .int (t_rules_e_exit 1), .int (t_rules_e_conditional 1), .int (t_rules_e_there 1), .int (t_rules_e_on 1), .int (t_rules_e_failures 1), .int (t_rules_e_meetings 1)], zo 2 (q_t_rules_e 2) [.ref (q_t_rules_e_steps 2), .int (t_rules_e_length 2), .int (t_rules_e_actions 2), .int (t_rules_e_site 2), .int (t_rules_e_exit 2), .int (t_rules_e_conditional 2), .int (t_rules_e_there 2), .int (t_rules_e_on 2), .int (t_rules_e_failures 2), .int (t_rules_e_meetings 2)], zo 2 (q_t_rules_e 3) [.ref (q_t_rules_e_steps 3), .int (t_rules_e_length 3), .int (t_rules_e_actions 3), .int (t_rules_e_site 3), .int (t_rules_e_exit 3), .int (t_rules_e_conditional 3), .int (t_rules_e_there 3), .int (t_rules_e_on 3), .int (t_rules_e_failures 3), .int (t_rules_e_meetings 3)], zo 2 (q_t_rules_e 4) [.ref (q_t_rules_e_steps 4), .int (t_rules_e_length 4), .int (t_rules_e_actions 4), .int (t_rules_e_site 4), .int (t_rules_e_exit 4), .int (t_rules_e_conditional 4), .int (t_rules_e_there 4), .int (t_rules_e_on 4), .int (t_rules_e_failures 4), .int (t_rules_e_meetings 4)], zo 2 (q_t_rules_e 5) [.ref (q_t_rules_e_steps 5), .int (t_rules_e_length 5), .int (t_rules_e_actions 5), .int (t_rules_e_site 5), .int (t_rules_e_exit 5), .int (t_rules_e_conditional 5), .int (t_rules_e_there 5), .int (t_rules_e_on 5), .int (t_rules_e_failures 5), .int (t_rules_e_meetings 5)], zo 4 q_t_runner [.ref q_t_runner_stack, .ref q_t_runner_variables, .ref q_t_runner_gatherers, .ref q_t_runner_records, .int t_runner_time, .int t_runner_dropped, .int t_runner_thread, .double t_runner_handedA, .double t_runner_handedB, .double t_runner_handedC, .int t_runner_top, .int t_runner_over, .int t_runner_failed, .int t_runner_met], zo 3 q_t_text [.ref q_t_text_characters, .ref q_t_text_draft, .int t_text_length, .int t_text_at], zaR K 6 q_t_runner_gatherers 3 (fun i => some (q_t_runner_gatherers_e i)), zo 0 (q_t_runner_gatherers_e 0) [.ref (q_t_runner_gatherers_e_keys 0), .ref (q_t_runner_gatherers_e_least 0), .ref (q_t_runner_gatherers_e_greatest 0), .ref (q_t_runner_gatherers_e_sums 0), .ref (q_t_runner_gatherers_e_values 0), .ref (q_t_runner_gatherers_e_bins 0), .int (t_runner_gatherers_e_size 0)], zo 0 (q_t_runner_gatherers_e 1) [.ref (q_t_runner_gatherers_e_keys 1), .ref (q_t_runner_gatherers_e_least 1), .ref (q_t_runner_gatherers_e_greatest 1), .ref (q_t_runner_gatherers_e_sums 1), .ref (q_t_runner_gatherers_e_values 1), .ref (q_t_runner_gatherers_e_bins 1), .int (t_runner_gatherers_e_size 1)], zo 0 (q_t_runner_gatherers_e 2) [.ref (q_t_runner_gatherers_e_keys 2), .ref (q_t_runner_gatherers_e_least 2), .ref (q_t_runner_gatherers_e_greatest 2), .ref (q_t_runner_gatherers_e_sums 2), .ref (q_t_runner_gatherers_e_values 2), .ref (q_t_runner_gatherers_e_bins 2), .int (t_runner_gatherers_e_size 2)], zo 1 q_t_runner_records [.ref q_t_runner_records_ring, .int t_runner_records_oldest, .int t_runner_records_size, .int t_runner_records_lost]]) C 0 rfl rfl (c_Tr_rulesThere l D K q_t q_t_text q_t_rules q_t_runner q_t_rules_e q_t_rules_e_steps t_place t_firings t_rules_e_length t_rules_e_actions t_rules_e_site t_rules_e_exit t_rules_e_conditional t_rules_e_there t_rules_e_on t_rules_e_failures t_rules_e_meetings hS185.1) (cwV 0 C.2.2.2.2.1 (z_gV wl_Tr_185 wi_Tr_rulesThere wv_Tr_rulesThere wz_Tr wk_Tr_rulesThere) rfl rfl rfl (by decide +kernel) ⟨Nat.le_of_ble_eq_true rfl, Nat.le_of_ble_eq_true rfl⟩) [0, 1, 2, 3, 4, 5, 6, 7] [8, 9, 10, 11, 12, 13, 14] [7, 8, 9, 10, 11, 12, 13, 14, 0, 1, 2, 3, 4, 5, 6] rfl rfl rfl rfl (by decide) (fun _ => rfl) rfl rfl rfl (Nat.le_of_ble_eq_true rfl) d_Tr_count_178 ⟨Nat.le_of_ble_eq_true rfl, Nat.le_of_ble_eq_true rfl⟩ (fun r186 u187 e188 => ?_)
              have hS189 := hS185.2 r186 e188
              exact z_iret C hr hlk () rfl hS189 d_Tr_count_181
            have hS190 := hS184.2 c180_2
            by_cases c180_3 : x1 = (3 : Int32)
            · refine z_tableIn (tgt := 182) C d_Tr_count_117 (by rw [c180_3]; decide) (by rw [c180_3]; decide) (by rw [c180_3]; rfl) (by decide) ?_
              have hS191 := hS190.1 c180_3
              refine z_aload_n C d_Tr_count_182 rfl 0 rfl ?_
              refine z_callVi (As := []) (b := q_t) (st := []) (wr := [zo 4 q_t_runner [.ref q_t_runner_stack, .ref q_t_runner_variables, .ref q_t_runner_gatherers, .ref q_t_runner_records, .int t_runner_time, .int t_runner_dropped, .int t_runner_thread, .double t_runner_handedA, .double t_runner_handedB, .double t_runner_handedC, .int t_runner_top, .int t_runner_over, .int t_runner_failed, .int t_runner_met], zo 3 q_t_text [.ref q_t_text_characters, .ref q_t_text_draft, .int t_text_length, .int t_text_at], zaR K 6 q_t_runner_gatherers 3 (fun i => some (q_t_runner_gatherers_e i)), zo 0 (q_t_runner_gatherers_e 0) [.ref (q_t_runner_gatherers_e_keys 0), .ref (q_t_runner_gatherers_e_least 0), .ref (q_t_runner_gatherers_e_greatest 0), .ref (q_t_runner_gatherers_e_sums 0), .ref (q_t_runner_gatherers_e_values 0), .ref (q_t_runner_gatherers_e_bins 0), .int (t_runner_gatherers_e_size 0)], zo 0 (q_t_runner_gatherers_e 1) [.ref (q_t_runner_gatherers_e_keys 1), .ref (q_t_runner_gatherers_e_least 1), .ref (q_t_runner_gatherers_e_greatest 1), .ref (q_t_runner_gatherers_e_sums 1), .ref (q_t_runner_gatherers_e_values 1), .ref (q_t_runner_gatherers_e_bins 1), .int (t_runner_gatherers_e_size 1)], zo 0 (q_t_runner_gatherers_e 2) [.ref (q_t_runner_gatherers_e_keys 2), .ref (q_t_runner_gatherers_e_least 2), .ref (q_t_runner_gatherers_e_greatest 2), .ref (q_t_runner_gatherers_e_sums 2), .ref (q_t_runner_gatherers_e_values 2), .ref (q_t_runner_gatherers_e_bins 2), .int (t_runner_gatherers_e_size 2)], zo 1 q_t_runner_records [.ref q_t_runner_records_ring, .int t_runner_records_oldest, .int t_runner_records_size, .int t_runner_records_lost]]) (wj := fun u => [zo 5 q_t [.ref q_t_text, .ref q_t_rules, .ref q_t_runner, .int t_place, .int t_firings], zaR K 5 q_t_rules 6 (fun i => some (q_t_rules_e i)), zo 2 (q_t_rules_e 0) [.ref (q_t_rules_e_steps 0), .int (t_rules_e_length 0), .int (t_rules_e_actions 0), .int (t_rules_e_site 0), .int (t_rules_e_exit 0), .int (t_rules_e_conditional 0), .int (t_rules_e_there 0), .int (t_rules_e_on 0), .int (t_rules_e_failures 0), .int (t_rules_e_meetings 0)], zo 2 (q_t_rules_e 1) [.ref (q_t_rules_e_steps 1), .int (t_rules_e_length 1), .int (t_rules_e_actions 1), .int (t_rules_e_site 1), .int (t_rules_e_exit 1), .int (t_rules_e_conditional 1), .int (t_rules_e_there 1), .int (t_rules_e_on 1), .int (t_rules_e_failures 1), .int (t_rules_e_meetings 1)], zo 2 (q_t_rules_e 2) [.ref (q_t_rules_e_steps 2), .int (t_rules_e_length 2), .int (t_rules_e_actions 2), .int (t_rules_e_site 2), .int (t_rules_e_exit 2), .int (t_rules_e_conditional 2), .int (t_rules_e_there 2), .int (t_rules_e_on 2), .int (t_rules_e_failures 2), .int (t_rules_e_meetings 2)], zo 2 (q_t_rules_e 3) [.ref (q_t_rules_e_steps 3), .int (t_rules_e_length 3), .int (t_rules_e_actions 3), .int (t_rules_e_site 3), .int (t_rules_e_exit 3), .int (t_rules_e_conditional 3), .int (t_rules_e_there 3), .int (t_rules_e_on 3), .int (t_rules_e_failures 3), .int (t_rules_e_meetings 3)], zo 2 (q_t_rules_e 4) [.ref (q_t_rules_e_steps 4), .int (t_rules_e_length 4), .int (t_rules_e_actions 4), .int (t_rules_e_site 4), .int (t_rules_e_exit 4), .int (t_rules_e_conditional 4), .int (t_rules_e_there 4), .int (t_rules_e_on 4), .int (t_rules_e_failures 4), .int (t_rules_e_meetings 4)], zo 2 (q_t_rules_e 5) [.ref (q_t_rules_e_steps 5), .int (t_rules_e_length 5), .int (t_rules_e_actions 5), .int (t_rules_e_site 5), .int (t_rules_e_exit 5), .int (t_rules_e_conditional 5), .int (t_rules_e_there 5), .int (t_rules_e_on 5), .int (t_rules_e_failures 5), .int (t_rules_e_meetings 5)], zo 4 q_t_runner [.ref q_t_runner_stack, .ref q_t_runner_variables, .ref q_t_runner_gatherers, .ref q_t_runner_records, .int t_runner_time, .int t_runner_dropped, .int t_runner_thread, .double t_runner_handedA, .double t_runner_handedB, .double t_runner_handedC, .int t_runner_top, .int t_runner_over, .int t_runner_failed, .int t_runner_met], zo 3 q_t_text [.ref q_t_text_characters, .ref q_t_text_draft, .int t_text_length, .int t_text_at], zaR K 6 q_t_runner_gatherers 3 (fun i => some (q_t_runner_gatherers_e i)), zo 0 (q_t_runner_gatherers_e 0) [.ref (q_t_runner_gatherers_e_keys 0), .ref (q_t_runner_gatherers_e_least 0), .ref (q_t_runner_gatherers_e_greatest 0), .ref (q_t_runner_gatherers_e_sums 0), .ref (q_t_runner_gatherers_e_values 0), .ref (q_t_runner_gatherers_e_bins 0), .int (t_runner_gatherers_e_size 0)], zo 0 (q_t_runner_gatherers_e 1) [.ref (q_t_runner_gatherers_e_keys 1), .ref (q_t_runner_gatherers_e_least 1), .ref (q_t_runner_gatherers_e_greatest 1), .ref (q_t_runner_gatherers_e_sums 1), .ref (q_t_runner_gatherers_e_values 1), .ref (q_t_runner_gatherers_e_bins 1), .int (t_runner_gatherers_e_size 1)], zo 0 (q_t_runner_gatherers_e 2) [.ref (q_t_runner_gatherers_e_keys 2), .ref (q_t_runner_gatherers_e_least 2), .ref (q_t_runner_gatherers_e_greatest 2), .ref (q_t_runner_gatherers_e_sums 2), .ref (q_t_runner_gatherers_e_values 2), .ref (q_t_runner_gatherers_e_bins 2), .int (t_runner_gatherers_e_size 2)], zo 1 q_t_runner_records [.ref q_t_runner_records_ring, .int t_runner_records_oldest, .int t_runner_records_size, .int t_runner_records_lost]]) C 0 rfl rfl (c_Tr_rulesOn l D K q_t q_t_text q_t_rules q_t_runner q_t_rules_e q_t_rules_e_steps t_place t_firings t_rules_e_length t_rules_e_actions t_rules_e_site t_rules_e_exit t_rules_e_conditional t_rules_e_there t_rules_e_on t_rules_e_failures t_rules_e_meetings hS191.1) (cwV 0 C.2.2.2.2.1 (z_gV wl_Tr_97 wi_Tr_rulesOn wv_Tr_rulesOn wz_Tr wk_Tr_rulesOn) rfl rfl rfl (by decide +kernel) ⟨Nat.le_of_ble_eq_true rfl, Nat.le_of_ble_eq_true rfl⟩) [0, 1, 2, 3, 4, 5, 6, 7] [8, 9, 10, 11, 12, 13, 14] [7, 8, 9, 10, 11, 12, 13, 14, 0, 1, 2, 3, 4, 5, 6] rfl rfl rfl rfl (by decide) (fun _ => rfl) rfl rfl rfl (Nat.le_of_ble_eq_true rfl) d_Tr_count_183 ⟨Nat.le_of_ble_eq_true rfl, Nat.le_of_ble_eq_true rfl⟩ (fun r192 u193 e194 => ?_)
              have hS195 := hS191.2 r192 e194
              exact z_iret C hr hlk () rfl hS195 d_Tr_count_186
            have hS196 := hS190.2 c180_3
            by_cases c180_4 : x1 = (4 : Int32)
            · refine z_tableIn (tgt := 187) C d_Tr_count_117 (by rw [c180_4]; decide) (by rw [c180_4]; decide) (by rw [c180_4]; rfl) (by decide) ?_
              have hS197 := hS196.1 c180_4
              refine z_aload_n C d_Tr_count_187 rfl 0 rfl ?_
              refine z_get C 0 rfl rfl in_Tr 2 (by decide) rfl wf_Tr_26 rfl d_Tr_count_188 ?_
              refine z_get C 8 rfl rfl in_Rn 3 (by decide) rfl wf_Tr_163 rfl d_Tr_count_191 ?_
              refine z_get C 14 rfl rfl in_Re 2 (by decide) rfl wf_Tr_167 rfl d_Tr_count_194 ?_
              exact z_iret C hr hlk () rfl hS197 d_Tr_count_197
            have hS198 := hS196.2 c180_4
            by_cases c180_5 : x1 = (5 : Int32)
            · refine z_tableIn (tgt := 198) C d_Tr_count_117 (by rw [c180_5]; decide) (by rw [c180_5]; decide) (by rw [c180_5]; rfl) (by decide) ?_
              have hS199 := hS198.1 c180_5
              refine z_aload_n C d_Tr_count_198 rfl 0 rfl ?_
              refine z_get C 0 rfl rfl in_Tr 2 (by decide) rfl wf_Tr_26 rfl d_Tr_count_199 ?_
              refine z_get C 8 rfl rfl in_Rn 3 (by decide) rfl wf_Tr_163 rfl d_Tr_count_202 ?_
              refine z_get C 14 rfl rfl in_Re 3 (by decide) rfl wf_Tr_188 rfl d_Tr_count_205 ?_
              exact z_iret C hr hlk () rfl hS199 d_Tr_count_208
            have hS200 := hS198.2 c180_5
            by_cases c180_6 : x1 = (6 : Int32)
            · refine z_tableIn (tgt := 209) C d_Tr_count_117 (by rw [c180_6]; decide) (by rw [c180_6]; decide) (by rw [c180_6]; rfl) (by decide) ?_
              have hS201 := hS200.1 c180_6
              refine z_aload_n C d_Tr_count_209 rfl 0 rfl ?_
              refine z_get C 0 rfl rfl in_Tr 2 (by decide) rfl wf_Tr_26 rfl d_Tr_count_210 ?_
              refine z_get C 8 rfl rfl in_Rn 5 (by decide) rfl wf_Tr_191 rfl d_Tr_count_213 ?_
              exact z_iret C hr hlk () rfl hS201 d_Tr_count_216
            have hS202 := hS200.2 c180_6
            by_cases c180_7 : x1 = (7 : Int32)
            · refine z_tableIn (tgt := 217) C d_Tr_count_117 (by rw [c180_7]; decide) (by rw [c180_7]; decide) (by rw [c180_7]; rfl) (by decide) ?_
              have hS203 := hS202.1 c180_7
              refine z_aload_n C d_Tr_count_217 rfl 0 rfl ?_
              refine z_get C 0 rfl rfl in_Tr 4 (by decide) rfl wf_Tr_121 rfl d_Tr_count_218 ?_
              exact z_iret C hr hlk () rfl hS203 d_Tr_count_221
            have hS204 := hS202.2 c180_7
            refine z_tableOut (tgt := 222) C d_Tr_count_117 (zto_0_7 c180_0 c180_1 c180_2 c180_3 c180_4 c180_5 c180_6 c180_7) (by decide) ?_
            refine z_bipush (v := (-2 : Int32)) C d_Tr_count_222 (by decide) ?_
            exact z_iret C hr hlk () rfl hS204 d_Tr_count_224
          · have hS179 := hS152.2 c178
            refine z_aload_n C d_Tr_count_100 rfl 0 rfl ?_
            refine z_get C 0 rfl rfl in_Tr 2 (by decide) rfl wf_Tr_26 rfl d_Tr_count_101 ?_
            refine z_get C 8 rfl rfl in_Rn 2 (by decide) rfl wf_Tr_139 rfl d_Tr_count_104 ?_
            refine z_iload_n C d_Tr_count_107 rfl 1 rfl ?_
            refine z_bipush (v := (8 : Int32)) C d_Tr_count_108 (by decide) ?_
            refine z_isub C d_Tr_count_110 ?_
            rcases zix_3 hS179.1 with hj205 | hj205 | hj205
            · have hS207 := hS179.2 0 hj205 (by decide)
              refine z_aldq (v := (q_t_runner_gatherers_e 0)) C 10 6 rfl rfl hS179.1 (by rw [zix_cl hj205 (by decide)]) d_Tr_count_111 ?_
              refine z_get C 11 rfl rfl in_Ga 6 (by decide) rfl wf_Tr_184 rfl d_Tr_count_112 ?_
              exact z_iret C hr hlk () rfl hS207 d_Tr_count_115
            · have hS208 := hS179.2 1 hj205 (by decide)
              refine z_aldq (v := (q_t_runner_gatherers_e 1)) C 10 6 rfl rfl hS179.1 (by rw [zix_cl hj205 (by decide)]) d_Tr_count_111 ?_
              refine z_get C 12 rfl rfl in_Ga 6 (by decide) rfl wf_Tr_184 rfl d_Tr_count_112 ?_
              exact z_iret C hr hlk () rfl hS208 d_Tr_count_115
            · have hS209 := hS179.2 2 hj205 (by decide)
              refine z_aldq (v := (q_t_runner_gatherers_e 2)) C 10 6 rfl rfl hS179.1 (by rw [zix_cl hj205 (by decide)]) d_Tr_count_111 ?_
              refine z_get C 13 rfl rfl in_Ga 6 (by decide) rfl wf_Tr_184 rfl d_Tr_count_112 ?_
              exact z_iret C hr hlk () rfl hS209 d_Tr_count_115
      · have hS150 := hS148.2 c149
        refine z_iload_n C d_Tr_count_50 rfl 1 rfl ?_
        refine z_bipush (v := (36 : Int32)) C d_Tr_count_51 (by decide) ?_
        refine z_icmp_ge (tgt := 88) C d_Tr_count_53 (by decide) (fun c210 => ?_) (fun c210 => ?_)
        · have hS211 := hS150.1 c210
          refine z_iload_n C d_Tr_count_88 rfl 1 rfl ?_
          refine z_bipush (v := (8 : Int32)) C d_Tr_count_89 (by decide) ?_
          refine z_icmp_lt (tgt := 116) C d_Tr_count_91 (by decide) (fun c212 => ?_) (fun c212 => ?_)
          · have hS213 := hS211.1 c212
            refine z_iload_n C d_Tr_count_116 rfl 1 rfl ?_
            by_cases c214_0 : x1 = (0 : Int32)
            · refine z_tableIn (tgt := 164) C d_Tr_count_117 (by rw [c214_0]; decide) (by rw [c214_0]; decide) (by rw [c214_0]; rfl) (by decide) ?_
              have hS215 := hS213.1 c214_0
              refine z_aload_n C d_Tr_count_164 rfl 0 rfl ?_
              refine z_get C 0 rfl rfl in_Tr 3 (by decide) rfl wf_Tr_30 rfl d_Tr_count_165 ?_
              exact z_iret C hr hlk () rfl hS215 d_Tr_count_168
            have hS216 := hS213.2 c214_0
            by_cases c214_1 : x1 = (1 : Int32)
            · refine z_tableIn (tgt := 169) C d_Tr_count_117 (by rw [c214_1]; decide) (by rw [c214_1]; decide) (by rw [c214_1]; rfl) (by decide) ?_
              have hS217 := hS216.1 c214_1
              refine z_aload_n C d_Tr_count_169 rfl 0 rfl ?_
              refine z_get C 0 rfl rfl in_Tr 0 (by decide) rfl wf_Tr_10 rfl d_Tr_count_170 ?_
              refine z_get C 9 rfl rfl in_Te 2 (by decide) rfl wf_Tr_57 rfl d_Tr_count_173 ?_
              exact z_iret C hr hlk () rfl hS217 d_Tr_count_176
            have hS218 := hS216.2 c214_1
            by_cases c214_2 : x1 = (2 : Int32)
            · refine z_tableIn (tgt := 177) C d_Tr_count_117 (by rw [c214_2]; decide) (by rw [c214_2]; decide) (by rw [c214_2]; rfl) (by decide) ?_
              have hS219 := hS218.1 c214_2
              refine z_aload_n C d_Tr_count_177 rfl 0 rfl ?_
              refine z_callVi (As := []) (b := q_t) (st := []) (wr := [zo 4 q_t_runner [.ref q_t_runner_stack, .ref q_t_runner_variables, .ref q_t_runner_gatherers, .ref q_t_runner_records, .int t_runner_time, .int t_runner_dropped, .int t_runner_thread, .double t_runner_handedA, .double t_runner_handedB, .double t_runner_handedC, .int t_runner_top, .int t_runner_over, .int t_runner_failed, .int t_runner_met], zo 3 q_t_text [.ref q_t_text_characters, .ref q_t_text_draft, .int t_text_length, .int t_text_at], zaR K 6 q_t_runner_gatherers 3 (fun i => some (q_t_runner_gatherers_e i)), zo 0 (q_t_runner_gatherers_e 0) [.ref (q_t_runner_gatherers_e_keys 0), .ref (q_t_runner_gatherers_e_least 0), .ref (q_t_runner_gatherers_e_greatest 0), .ref (q_t_runner_gatherers_e_sums 0), .ref (q_t_runner_gatherers_e_values 0), .ref (q_t_runner_gatherers_e_bins 0), .int (t_runner_gatherers_e_size 0)], zo 0 (q_t_runner_gatherers_e 1) [.ref (q_t_runner_gatherers_e_keys 1), .ref (q_t_runner_gatherers_e_least 1), .ref (q_t_runner_gatherers_e_greatest 1), .ref (q_t_runner_gatherers_e_sums 1), .ref (q_t_runner_gatherers_e_values 1), .ref (q_t_runner_gatherers_e_bins 1), .int (t_runner_gatherers_e_size 1)], zo 0 (q_t_runner_gatherers_e 2) [.ref (q_t_runner_gatherers_e_keys 2), .ref (q_t_runner_gatherers_e_least 2), .ref (q_t_runner_gatherers_e_greatest 2), .ref (q_t_runner_gatherers_e_sums 2), .ref (q_t_runner_gatherers_e_values 2), .ref (q_t_runner_gatherers_e_bins 2), .int (t_runner_gatherers_e_size 2)], zo 1 q_t_runner_records [.ref q_t_runner_records_ring, .int t_runner_records_oldest, .int t_runner_records_size, .int t_runner_records_lost]]) (wj := fun u => [zo 5 q_t [.ref q_t_text, .ref q_t_rules, .ref q_t_runner, .int t_place, .int t_firings], zaR K 5 q_t_rules 6 (fun i => some (q_t_rules_e i)), zo 2 (q_t_rules_e 0) [.ref (q_t_rules_e_steps 0), .int (t_rules_e_length 0), .int (t_rules_e_actions 0), .int (t_rules_e_site 0), .int (t_rules_e_exit 0), .int (t_rules_e_conditional 0), .int (t_rules_e_there 0), .int (t_rules_e_on 0), .int (t_rules_e_failures 0), .int (t_rules_e_meetings 0)], zo 2 (q_t_rules_e 1) [.ref (q_t_rules_e_steps 1), .int (t_rules_e_length 1), .int (t_rules_e_actions 1), .int (t_rules_e_site 1), .int (t_rules_e_exit 1), .int (t_rules_e_conditional 1), .int (t_rules_e_there 1), .int (t_rules_e_on 1), .int (t_rules_e_failures 1), .int (t_rules_e_meetings 1)], zo 2 (q_t_rules_e 2) [.ref (q_t_rules_e_steps 2), .int (t_rules_e_length 2), .int (t_rules_e_actions 2), .int (t_rules_e_site 2), .int (t_rules_e_exit 2), .int (t_rules_e_conditional 2), .int (t_rules_e_there 2), .int (t_rules_e_on 2), .int (t_rules_e_failures 2), .int (t_rules_e_meetings 2)], zo 2 (q_t_rules_e 3) [.ref (q_t_rules_e_steps 3), .int (t_rules_e_length 3), .int (t_rules_e_actions 3), .int (t_rules_e_site 3), .int (t_rules_e_exit 3), .int (t_rules_e_conditional 3), .int (t_rules_e_there 3), .int (t_rules_e_on 3), .int (t_rules_e_failures 3), .int (t_rules_e_meetings 3)], zo 2 (q_t_rules_e 4) [.ref (q_t_rules_e_steps 4), .int (t_rules_e_length 4), .int (t_rules_e_actions 4), .int (t_rules_e_site 4), .int (t_rules_e_exit 4), .int (t_rules_e_conditional 4), .int (t_rules_e_there 4), .int (t_rules_e_on 4), .int (t_rules_e_failures 4), .int (t_rules_e_meetings 4)], zo 2 (q_t_rules_e 5) [.ref (q_t_rules_e_steps 5), .int (t_rules_e_length 5), .int (t_rules_e_actions 5), .int (t_rules_e_site 5), .int (t_rules_e_exit 5), .int (t_rules_e_conditional 5), .int (t_rules_e_there 5), .int (t_rules_e_on 5), .int (t_rules_e_failures 5), .int (t_rules_e_meetings 5)], zo 4 q_t_runner [.ref q_t_runner_stack, .ref q_t_runner_variables, .ref q_t_runner_gatherers, .ref q_t_runner_records, .int t_runner_time, .int t_runner_dropped, .int t_runner_thread, .double t_runner_handedA, .double t_runner_handedB, .double t_runner_handedC, .int t_runner_top, .int t_runner_over, .int t_runner_failed, .int t_runner_met], zo 3 q_t_text [.ref q_t_text_characters, .ref q_t_text_draft, .int t_text_length, .int t_text_at], zaR K 6 q_t_runner_gatherers 3 (fun i => some (q_t_runner_gatherers_e i)), zo 0 (q_t_runner_gatherers_e 0) [.ref (q_t_runner_gatherers_e_keys 0), .ref (q_t_runner_gatherers_e_least 0), .ref (q_t_runner_gatherers_e_greatest 0), .ref (q_t_runner_gatherers_e_sums 0), .ref (q_t_runner_gatherers_e_values 0), .ref (q_t_runner_gatherers_e_bins 0), .int (t_runner_gatherers_e_size 0)], zo 0 (q_t_runner_gatherers_e 1) [.ref (q_t_runner_gatherers_e_keys 1), .ref (q_t_runner_gatherers_e_least 1), .ref (q_t_runner_gatherers_e_greatest 1), .ref (q_t_runner_gatherers_e_sums 1), .ref (q_t_runner_gatherers_e_values 1), .ref (q_t_runner_gatherers_e_bins 1), .int (t_runner_gatherers_e_size 1)], zo 0 (q_t_runner_gatherers_e 2) [.ref (q_t_runner_gatherers_e_keys 2), .ref (q_t_runner_gatherers_e_least 2), .ref (q_t_runner_gatherers_e_greatest 2), .ref (q_t_runner_gatherers_e_sums 2), .ref (q_t_runner_gatherers_e_values 2), .ref (q_t_runner_gatherers_e_bins 2), .int (t_runner_gatherers_e_size 2)], zo 1 q_t_runner_records [.ref q_t_runner_records_ring, .int t_runner_records_oldest, .int t_runner_records_size, .int t_runner_records_lost]]) C 0 rfl rfl (c_Tr_rulesThere l D K q_t q_t_text q_t_rules q_t_runner q_t_rules_e q_t_rules_e_steps t_place t_firings t_rules_e_length t_rules_e_actions t_rules_e_site t_rules_e_exit t_rules_e_conditional t_rules_e_there t_rules_e_on t_rules_e_failures t_rules_e_meetings hS219.1) (cwV 0 C.2.2.2.2.1 (z_gV wl_Tr_185 wi_Tr_rulesThere wv_Tr_rulesThere wz_Tr wk_Tr_rulesThere) rfl rfl rfl (by decide +kernel) ⟨Nat.le_of_ble_eq_true rfl, Nat.le_of_ble_eq_true rfl⟩) [0, 1, 2, 3, 4, 5, 6, 7] [8, 9, 10, 11, 12, 13, 14] [7, 8, 9, 10, 11, 12, 13, 14, 0, 1, 2, 3, 4, 5, 6] rfl rfl rfl rfl (by decide) (fun _ => rfl) rfl rfl rfl (Nat.le_of_ble_eq_true rfl) d_Tr_count_178 ⟨Nat.le_of_ble_eq_true rfl, Nat.le_of_ble_eq_true rfl⟩ (fun r220 u221 e222 => ?_)
              have hS223 := hS219.2 r220 e222
              exact z_iret C hr hlk () rfl hS223 d_Tr_count_181
            have hS224 := hS218.2 c214_2
            by_cases c214_3 : x1 = (3 : Int32)
            · refine z_tableIn (tgt := 182) C d_Tr_count_117 (by rw [c214_3]; decide) (by rw [c214_3]; decide) (by rw [c214_3]; rfl) (by decide) ?_
              have hS225 := hS224.1 c214_3
              refine z_aload_n C d_Tr_count_182 rfl 0 rfl ?_
              refine z_callVi (As := []) (b := q_t) (st := []) (wr := [zo 4 q_t_runner [.ref q_t_runner_stack, .ref q_t_runner_variables, .ref q_t_runner_gatherers, .ref q_t_runner_records, .int t_runner_time, .int t_runner_dropped, .int t_runner_thread, .double t_runner_handedA, .double t_runner_handedB, .double t_runner_handedC, .int t_runner_top, .int t_runner_over, .int t_runner_failed, .int t_runner_met], zo 3 q_t_text [.ref q_t_text_characters, .ref q_t_text_draft, .int t_text_length, .int t_text_at], zaR K 6 q_t_runner_gatherers 3 (fun i => some (q_t_runner_gatherers_e i)), zo 0 (q_t_runner_gatherers_e 0) [.ref (q_t_runner_gatherers_e_keys 0), .ref (q_t_runner_gatherers_e_least 0), .ref (q_t_runner_gatherers_e_greatest 0), .ref (q_t_runner_gatherers_e_sums 0), .ref (q_t_runner_gatherers_e_values 0), .ref (q_t_runner_gatherers_e_bins 0), .int (t_runner_gatherers_e_size 0)], zo 0 (q_t_runner_gatherers_e 1) [.ref (q_t_runner_gatherers_e_keys 1), .ref (q_t_runner_gatherers_e_least 1), .ref (q_t_runner_gatherers_e_greatest 1), .ref (q_t_runner_gatherers_e_sums 1), .ref (q_t_runner_gatherers_e_values 1), .ref (q_t_runner_gatherers_e_bins 1), .int (t_runner_gatherers_e_size 1)], zo 0 (q_t_runner_gatherers_e 2) [.ref (q_t_runner_gatherers_e_keys 2), .ref (q_t_runner_gatherers_e_least 2), .ref (q_t_runner_gatherers_e_greatest 2), .ref (q_t_runner_gatherers_e_sums 2), .ref (q_t_runner_gatherers_e_values 2), .ref (q_t_runner_gatherers_e_bins 2), .int (t_runner_gatherers_e_size 2)], zo 1 q_t_runner_records [.ref q_t_runner_records_ring, .int t_runner_records_oldest, .int t_runner_records_size, .int t_runner_records_lost]]) (wj := fun u => [zo 5 q_t [.ref q_t_text, .ref q_t_rules, .ref q_t_runner, .int t_place, .int t_firings], zaR K 5 q_t_rules 6 (fun i => some (q_t_rules_e i)), zo 2 (q_t_rules_e 0) [.ref (q_t_rules_e_steps 0), .int (t_rules_e_length 0), .int (t_rules_e_actions 0), .int (t_rules_e_site 0), .int (t_rules_e_exit 0), .int (t_rules_e_conditional 0), .int (t_rules_e_there 0), .int (t_rules_e_on 0), .int (t_rules_e_failures 0), .int (t_rules_e_meetings 0)], zo 2 (q_t_rules_e 1) [.ref (q_t_rules_e_steps 1), .int (t_rules_e_length 1), .int (t_rules_e_actions 1), .int (t_rules_e_site 1), .int (t_rules_e_exit 1), .int (t_rules_e_conditional 1), .int (t_rules_e_there 1), .int (t_rules_e_on 1), .int (t_rules_e_failures 1), .int (t_rules_e_meetings 1)], zo 2 (q_t_rules_e 2) [.ref (q_t_rules_e_steps 2), .int (t_rules_e_length 2), .int (t_rules_e_actions 2), .int (t_rules_e_site 2), .int (t_rules_e_exit 2), .int (t_rules_e_conditional 2), .int (t_rules_e_there 2), .int (t_rules_e_on 2), .int (t_rules_e_failures 2), .int (t_rules_e_meetings 2)], zo 2 (q_t_rules_e 3) [.ref (q_t_rules_e_steps 3), .int (t_rules_e_length 3), .int (t_rules_e_actions 3), .int (t_rules_e_site 3), .int (t_rules_e_exit 3), .int (t_rules_e_conditional 3), .int (t_rules_e_there 3), .int (t_rules_e_on 3), .int (t_rules_e_failures 3), .int (t_rules_e_meetings 3)], zo 2 (q_t_rules_e 4) [.ref (q_t_rules_e_steps 4), .int (t_rules_e_length 4), .int (t_rules_e_actions 4), .int (t_rules_e_site 4), .int (t_rules_e_exit 4), .int (t_rules_e_conditional 4), .int (t_rules_e_there 4), .int (t_rules_e_on 4), .int (t_rules_e_failures 4), .int (t_rules_e_meetings 4)], zo 2 (q_t_rules_e 5) [.ref (q_t_rules_e_steps 5), .int (t_rules_e_length 5), .int (t_rules_e_actions 5), .int (t_rules_e_site 5), .int (t_rules_e_exit 5), .int (t_rules_e_conditional 5), .int (t_rules_e_there 5), .int (t_rules_e_on 5), .int (t_rules_e_failures 5), .int (t_rules_e_meetings 5)], zo 4 q_t_runner [.ref q_t_runner_stack, .ref q_t_runner_variables, .ref q_t_runner_gatherers, .ref q_t_runner_records, .int t_runner_time, .int t_runner_dropped, .int t_runner_thread, .double t_runner_handedA, .double t_runner_handedB, .double t_runner_handedC, .int t_runner_top, .int t_runner_over, .int t_runner_failed, .int t_runner_met], zo 3 q_t_text [.ref q_t_text_characters, .ref q_t_text_draft, .int t_text_length, .int t_text_at], zaR K 6 q_t_runner_gatherers 3 (fun i => some (q_t_runner_gatherers_e i)), zo 0 (q_t_runner_gatherers_e 0) [.ref (q_t_runner_gatherers_e_keys 0), .ref (q_t_runner_gatherers_e_least 0), .ref (q_t_runner_gatherers_e_greatest 0), .ref (q_t_runner_gatherers_e_sums 0), .ref (q_t_runner_gatherers_e_values 0), .ref (q_t_runner_gatherers_e_bins 0), .int (t_runner_gatherers_e_size 0)], zo 0 (q_t_runner_gatherers_e 1) [.ref (q_t_runner_gatherers_e_keys 1), .ref (q_t_runner_gatherers_e_least 1), .ref (q_t_runner_gatherers_e_greatest 1), .ref (q_t_runner_gatherers_e_sums 1), .ref (q_t_runner_gatherers_e_values 1), .ref (q_t_runner_gatherers_e_bins 1), .int (t_runner_gatherers_e_size 1)], zo 0 (q_t_runner_gatherers_e 2) [.ref (q_t_runner_gatherers_e_keys 2), .ref (q_t_runner_gatherers_e_least 2), .ref (q_t_runner_gatherers_e_greatest 2), .ref (q_t_runner_gatherers_e_sums 2), .ref (q_t_runner_gatherers_e_values 2), .ref (q_t_runner_gatherers_e_bins 2), .int (t_runner_gatherers_e_size 2)], zo 1 q_t_runner_records [.ref q_t_runner_records_ring, .int t_runner_records_oldest, .int t_runner_records_size, .int t_runner_records_lost]]) C 0 rfl rfl (c_Tr_rulesOn l D K q_t q_t_text q_t_rules q_t_runner q_t_rules_e q_t_rules_e_steps t_place t_firings t_rules_e_length t_rules_e_actions t_rules_e_site t_rules_e_exit t_rules_e_conditional t_rules_e_there t_rules_e_on t_rules_e_failures t_rules_e_meetings hS225.1) (cwV 0 C.2.2.2.2.1 (z_gV wl_Tr_97 wi_Tr_rulesOn wv_Tr_rulesOn wz_Tr wk_Tr_rulesOn) rfl rfl rfl (by decide +kernel) ⟨Nat.le_of_ble_eq_true rfl, Nat.le_of_ble_eq_true rfl⟩) [0, 1, 2, 3, 4, 5, 6, 7] [8, 9, 10, 11, 12, 13, 14] [7, 8, 9, 10, 11, 12, 13, 14, 0, 1, 2, 3, 4, 5, 6] rfl rfl rfl rfl (by decide) (fun _ => rfl) rfl rfl rfl (Nat.le_of_ble_eq_true rfl) d_Tr_count_183 ⟨Nat.le_of_ble_eq_true rfl, Nat.le_of_ble_eq_true rfl⟩ (fun r226 u227 e228 => ?_)
              have hS229 := hS225.2 r226 e228
              exact z_iret C hr hlk () rfl hS229 d_Tr_count_186
            have hS230 := hS224.2 c214_3
            by_cases c214_4 : x1 = (4 : Int32)
            · refine z_tableIn (tgt := 187) C d_Tr_count_117 (by rw [c214_4]; decide) (by rw [c214_4]; decide) (by rw [c214_4]; rfl) (by decide) ?_
              have hS231 := hS230.1 c214_4
              refine z_aload_n C d_Tr_count_187 rfl 0 rfl ?_
              refine z_get C 0 rfl rfl in_Tr 2 (by decide) rfl wf_Tr_26 rfl d_Tr_count_188 ?_
              refine z_get C 8 rfl rfl in_Rn 3 (by decide) rfl wf_Tr_163 rfl d_Tr_count_191 ?_
              refine z_get C 14 rfl rfl in_Re 2 (by decide) rfl wf_Tr_167 rfl d_Tr_count_194 ?_
              exact z_iret C hr hlk () rfl hS231 d_Tr_count_197
            have hS232 := hS230.2 c214_4
            by_cases c214_5 : x1 = (5 : Int32)
            · refine z_tableIn (tgt := 198) C d_Tr_count_117 (by rw [c214_5]; decide) (by rw [c214_5]; decide) (by rw [c214_5]; rfl) (by decide) ?_
              have hS233 := hS232.1 c214_5
              refine z_aload_n C d_Tr_count_198 rfl 0 rfl ?_
              refine z_get C 0 rfl rfl in_Tr 2 (by decide) rfl wf_Tr_26 rfl d_Tr_count_199 ?_
              refine z_get C 8 rfl rfl in_Rn 3 (by decide) rfl wf_Tr_163 rfl d_Tr_count_202 ?_
              refine z_get C 14 rfl rfl in_Re 3 (by decide) rfl wf_Tr_188 rfl d_Tr_count_205 ?_
              exact z_iret C hr hlk () rfl hS233 d_Tr_count_208
            have hS234 := hS232.2 c214_5
            by_cases c214_6 : x1 = (6 : Int32)
            · refine z_tableIn (tgt := 209) C d_Tr_count_117 (by rw [c214_6]; decide) (by rw [c214_6]; decide) (by rw [c214_6]; rfl) (by decide) ?_
              have hS235 := hS234.1 c214_6
              refine z_aload_n C d_Tr_count_209 rfl 0 rfl ?_
              refine z_get C 0 rfl rfl in_Tr 2 (by decide) rfl wf_Tr_26 rfl d_Tr_count_210 ?_
              refine z_get C 8 rfl rfl in_Rn 5 (by decide) rfl wf_Tr_191 rfl d_Tr_count_213 ?_
              exact z_iret C hr hlk () rfl hS235 d_Tr_count_216
            have hS236 := hS234.2 c214_6
            by_cases c214_7 : x1 = (7 : Int32)
            · refine z_tableIn (tgt := 217) C d_Tr_count_117 (by rw [c214_7]; decide) (by rw [c214_7]; decide) (by rw [c214_7]; rfl) (by decide) ?_
              have hS237 := hS236.1 c214_7
              refine z_aload_n C d_Tr_count_217 rfl 0 rfl ?_
              refine z_get C 0 rfl rfl in_Tr 4 (by decide) rfl wf_Tr_121 rfl d_Tr_count_218 ?_
              exact z_iret C hr hlk () rfl hS237 d_Tr_count_221
            have hS238 := hS236.2 c214_7
            refine z_tableOut (tgt := 222) C d_Tr_count_117 (zto_0_7 c214_0 c214_1 c214_2 c214_3 c214_4 c214_5 c214_6 c214_7) (by decide) ?_
            refine z_bipush (v := (-2 : Int32)) C d_Tr_count_222 (by decide) ?_
            exact z_iret C hr hlk () rfl hS238 d_Tr_count_224
          · have hS213 := hS211.2 c212
            refine z_iload_n C d_Tr_count_94 rfl 1 rfl ?_
            refine z_bipush (v := (11 : Int32)) C d_Tr_count_95 (by decide) ?_
            refine z_icmp_ge (tgt := 116) C d_Tr_count_97 (by decide) (fun c239 => ?_) (fun c239 => ?_)
            · have hS240 := hS213.1 c239
              refine z_iload_n C d_Tr_count_116 rfl 1 rfl ?_
              by_cases c241_0 : x1 = (0 : Int32)
              · refine z_tableIn (tgt := 164) C d_Tr_count_117 (by rw [c241_0]; decide) (by rw [c241_0]; decide) (by rw [c241_0]; rfl) (by decide) ?_
                have hS242 := hS240.1 c241_0
                refine z_aload_n C d_Tr_count_164 rfl 0 rfl ?_
                refine z_get C 0 rfl rfl in_Tr 3 (by decide) rfl wf_Tr_30 rfl d_Tr_count_165 ?_
                exact z_iret C hr hlk () rfl hS242 d_Tr_count_168
              have hS243 := hS240.2 c241_0
              by_cases c241_1 : x1 = (1 : Int32)
              · refine z_tableIn (tgt := 169) C d_Tr_count_117 (by rw [c241_1]; decide) (by rw [c241_1]; decide) (by rw [c241_1]; rfl) (by decide) ?_
                have hS244 := hS243.1 c241_1
                refine z_aload_n C d_Tr_count_169 rfl 0 rfl ?_
                refine z_get C 0 rfl rfl in_Tr 0 (by decide) rfl wf_Tr_10 rfl d_Tr_count_170 ?_
                refine z_get C 9 rfl rfl in_Te 2 (by decide) rfl wf_Tr_57 rfl d_Tr_count_173 ?_
                exact z_iret C hr hlk () rfl hS244 d_Tr_count_176
              have hS245 := hS243.2 c241_1
              by_cases c241_2 : x1 = (2 : Int32)
              · refine z_tableIn (tgt := 177) C d_Tr_count_117 (by rw [c241_2]; decide) (by rw [c241_2]; decide) (by rw [c241_2]; rfl) (by decide) ?_
                have hS246 := hS245.1 c241_2
                refine z_aload_n C d_Tr_count_177 rfl 0 rfl ?_
                refine z_callVi (As := []) (b := q_t) (st := []) (wr := [zo 4 q_t_runner [.ref q_t_runner_stack, .ref q_t_runner_variables, .ref q_t_runner_gatherers, .ref q_t_runner_records, .int t_runner_time, .int t_runner_dropped, .int t_runner_thread, .double t_runner_handedA, .double t_runner_handedB, .double t_runner_handedC, .int t_runner_top, .int t_runner_over, .int t_runner_failed, .int t_runner_met], zo 3 q_t_text [.ref q_t_text_characters, .ref q_t_text_draft, .int t_text_length, .int t_text_at], zaR K 6 q_t_runner_gatherers 3 (fun i => some (q_t_runner_gatherers_e i)), zo 0 (q_t_runner_gatherers_e 0) [.ref (q_t_runner_gatherers_e_keys 0), .ref (q_t_runner_gatherers_e_least 0), .ref (q_t_runner_gatherers_e_greatest 0), .ref (q_t_runner_gatherers_e_sums 0), .ref (q_t_runner_gatherers_e_values 0), .ref (q_t_runner_gatherers_e_bins 0), .int (t_runner_gatherers_e_size 0)], zo 0 (q_t_runner_gatherers_e 1) [.ref (q_t_runner_gatherers_e_keys 1), .ref (q_t_runner_gatherers_e_least 1), .ref (q_t_runner_gatherers_e_greatest 1), .ref (q_t_runner_gatherers_e_sums 1), .ref (q_t_runner_gatherers_e_values 1), .ref (q_t_runner_gatherers_e_bins 1), .int (t_runner_gatherers_e_size 1)], zo 0 (q_t_runner_gatherers_e 2) [.ref (q_t_runner_gatherers_e_keys 2), .ref (q_t_runner_gatherers_e_least 2), .ref (q_t_runner_gatherers_e_greatest 2), .ref (q_t_runner_gatherers_e_sums 2), .ref (q_t_runner_gatherers_e_values 2), .ref (q_t_runner_gatherers_e_bins 2), .int (t_runner_gatherers_e_size 2)], zo 1 q_t_runner_records [.ref q_t_runner_records_ring, .int t_runner_records_oldest, .int t_runner_records_size, .int t_runner_records_lost]]) (wj := fun u => [zo 5 q_t [.ref q_t_text, .ref q_t_rules, .ref q_t_runner, .int t_place, .int t_firings], zaR K 5 q_t_rules 6 (fun i => some (q_t_rules_e i)), zo 2 (q_t_rules_e 0) [.ref (q_t_rules_e_steps 0), .int (t_rules_e_length 0), .int (t_rules_e_actions 0), .int (t_rules_e_site 0), .int (t_rules_e_exit 0), .int (t_rules_e_conditional 0), .int (t_rules_e_there 0), .int (t_rules_e_on 0), .int (t_rules_e_failures 0), .int (t_rules_e_meetings 0)], zo 2 (q_t_rules_e 1) [.ref (q_t_rules_e_steps 1), .int (t_rules_e_length 1), .int (t_rules_e_actions 1), .int (t_rules_e_site 1), .int (t_rules_e_exit 1), .int (t_rules_e_conditional 1), .int (t_rules_e_there 1), .int (t_rules_e_on 1), .int (t_rules_e_failures 1), .int (t_rules_e_meetings 1)], zo 2 (q_t_rules_e 2) [.ref (q_t_rules_e_steps 2), .int (t_rules_e_length 2), .int (t_rules_e_actions 2), .int (t_rules_e_site 2), .int (t_rules_e_exit 2), .int (t_rules_e_conditional 2), .int (t_rules_e_there 2), .int (t_rules_e_on 2), .int (t_rules_e_failures 2), .int (t_rules_e_meetings 2)], zo 2 (q_t_rules_e 3) [.ref (q_t_rules_e_steps 3), .int (t_rules_e_length 3), .int (t_rules_e_actions 3), .int (t_rules_e_site 3), .int (t_rules_e_exit 3), .int (t_rules_e_conditional 3), .int (t_rules_e_there 3), .int (t_rules_e_on 3), .int (t_rules_e_failures 3), .int (t_rules_e_meetings 3)], zo 2 (q_t_rules_e 4) [.ref (q_t_rules_e_steps 4), .int (t_rules_e_length 4), .int (t_rules_e_actions 4), .int (t_rules_e_site 4), .int (t_rules_e_exit 4), .int (t_rules_e_conditional 4), .int (t_rules_e_there 4), .int (t_rules_e_on 4), .int (t_rules_e_failures 4), .int (t_rules_e_meetings 4)], zo 2 (q_t_rules_e 5) [.ref (q_t_rules_e_steps 5), .int (t_rules_e_length 5), .int (t_rules_e_actions 5), .int (t_rules_e_site 5), .int (t_rules_e_exit 5), .int (t_rules_e_conditional 5), .int (t_rules_e_there 5), .int (t_rules_e_on 5), .int (t_rules_e_failures 5), .int (t_rules_e_meetings 5)], zo 4 q_t_runner [.ref q_t_runner_stack, .ref q_t_runner_variables, .ref q_t_runner_gatherers, .ref q_t_runner_records, .int t_runner_time, .int t_runner_dropped, .int t_runner_thread, .double t_runner_handedA, .double t_runner_handedB, .double t_runner_handedC, .int t_runner_top, .int t_runner_over, .int t_runner_failed, .int t_runner_met], zo 3 q_t_text [.ref q_t_text_characters, .ref q_t_text_draft, .int t_text_length, .int t_text_at], zaR K 6 q_t_runner_gatherers 3 (fun i => some (q_t_runner_gatherers_e i)), zo 0 (q_t_runner_gatherers_e 0) [.ref (q_t_runner_gatherers_e_keys 0), .ref (q_t_runner_gatherers_e_least 0), .ref (q_t_runner_gatherers_e_greatest 0), .ref (q_t_runner_gatherers_e_sums 0), .ref (q_t_runner_gatherers_e_values 0), .ref (q_t_runner_gatherers_e_bins 0), .int (t_runner_gatherers_e_size 0)], zo 0 (q_t_runner_gatherers_e 1) [.ref (q_t_runner_gatherers_e_keys 1), .ref (q_t_runner_gatherers_e_least 1), .ref (q_t_runner_gatherers_e_greatest 1), .ref (q_t_runner_gatherers_e_sums 1), .ref (q_t_runner_gatherers_e_values 1), .ref (q_t_runner_gatherers_e_bins 1), .int (t_runner_gatherers_e_size 1)], zo 0 (q_t_runner_gatherers_e 2) [.ref (q_t_runner_gatherers_e_keys 2), .ref (q_t_runner_gatherers_e_least 2), .ref (q_t_runner_gatherers_e_greatest 2), .ref (q_t_runner_gatherers_e_sums 2), .ref (q_t_runner_gatherers_e_values 2), .ref (q_t_runner_gatherers_e_bins 2), .int (t_runner_gatherers_e_size 2)], zo 1 q_t_runner_records [.ref q_t_runner_records_ring, .int t_runner_records_oldest, .int t_runner_records_size, .int t_runner_records_lost]]) C 0 rfl rfl (c_Tr_rulesThere l D K q_t q_t_text q_t_rules q_t_runner q_t_rules_e q_t_rules_e_steps t_place t_firings t_rules_e_length t_rules_e_actions t_rules_e_site t_rules_e_exit t_rules_e_conditional t_rules_e_there t_rules_e_on t_rules_e_failures t_rules_e_meetings hS246.1) (cwV 0 C.2.2.2.2.1 (z_gV wl_Tr_185 wi_Tr_rulesThere wv_Tr_rulesThere wz_Tr wk_Tr_rulesThere) rfl rfl rfl (by decide +kernel) ⟨Nat.le_of_ble_eq_true rfl, Nat.le_of_ble_eq_true rfl⟩) [0, 1, 2, 3, 4, 5, 6, 7] [8, 9, 10, 11, 12, 13, 14] [7, 8, 9, 10, 11, 12, 13, 14, 0, 1, 2, 3, 4, 5, 6] rfl rfl rfl rfl (by decide) (fun _ => rfl) rfl rfl rfl (Nat.le_of_ble_eq_true rfl) d_Tr_count_178 ⟨Nat.le_of_ble_eq_true rfl, Nat.le_of_ble_eq_true rfl⟩ (fun r247 u248 e249 => ?_)
                have hS250 := hS246.2 r247 e249
                exact z_iret C hr hlk () rfl hS250 d_Tr_count_181
              have hS251 := hS245.2 c241_2
              by_cases c241_3 : x1 = (3 : Int32)
              · refine z_tableIn (tgt := 182) C d_Tr_count_117 (by rw [c241_3]; decide) (by rw [c241_3]; decide) (by rw [c241_3]; rfl) (by decide) ?_
                have hS252 := hS251.1 c241_3
                refine z_aload_n C d_Tr_count_182 rfl 0 rfl ?_
                refine z_callVi (As := []) (b := q_t) (st := []) (wr := [zo 4 q_t_runner [.ref q_t_runner_stack, .ref q_t_runner_variables, .ref q_t_runner_gatherers, .ref q_t_runner_records, .int t_runner_time, .int t_runner_dropped, .int t_runner_thread, .double t_runner_handedA, .double t_runner_handedB, .double t_runner_handedC, .int t_runner_top, .int t_runner_over, .int t_runner_failed, .int t_runner_met], zo 3 q_t_text [.ref q_t_text_characters, .ref q_t_text_draft, .int t_text_length, .int t_text_at], zaR K 6 q_t_runner_gatherers 3 (fun i => some (q_t_runner_gatherers_e i)), zo 0 (q_t_runner_gatherers_e 0) [.ref (q_t_runner_gatherers_e_keys 0), .ref (q_t_runner_gatherers_e_least 0), .ref (q_t_runner_gatherers_e_greatest 0), .ref (q_t_runner_gatherers_e_sums 0), .ref (q_t_runner_gatherers_e_values 0), .ref (q_t_runner_gatherers_e_bins 0), .int (t_runner_gatherers_e_size 0)], zo 0 (q_t_runner_gatherers_e 1) [.ref (q_t_runner_gatherers_e_keys 1), .ref (q_t_runner_gatherers_e_least 1), .ref (q_t_runner_gatherers_e_greatest 1), .ref (q_t_runner_gatherers_e_sums 1), .ref (q_t_runner_gatherers_e_values 1), .ref (q_t_runner_gatherers_e_bins 1), .int (t_runner_gatherers_e_size 1)], zo 0 (q_t_runner_gatherers_e 2) [.ref (q_t_runner_gatherers_e_keys 2), .ref (q_t_runner_gatherers_e_least 2), .ref (q_t_runner_gatherers_e_greatest 2), .ref (q_t_runner_gatherers_e_sums 2), .ref (q_t_runner_gatherers_e_values 2), .ref (q_t_runner_gatherers_e_bins 2), .int (t_runner_gatherers_e_size 2)], zo 1 q_t_runner_records [.ref q_t_runner_records_ring, .int t_runner_records_oldest, .int t_runner_records_size, .int t_runner_records_lost]]) (wj := fun u => [zo 5 q_t [.ref q_t_text, .ref q_t_rules, .ref q_t_runner, .int t_place, .int t_firings], zaR K 5 q_t_rules 6 (fun i => some (q_t_rules_e i)), zo 2 (q_t_rules_e 0) [.ref (q_t_rules_e_steps 0), .int (t_rules_e_length 0), .int (t_rules_e_actions 0), .int (t_rules_e_site 0), .int (t_rules_e_exit 0), .int (t_rules_e_conditional 0), .int (t_rules_e_there 0), .int (t_rules_e_on 0), .int (t_rules_e_failures 0), .int (t_rules_e_meetings 0)], zo 2 (q_t_rules_e 1) [.ref (q_t_rules_e_steps 1), .int (t_rules_e_length 1), .int (t_rules_e_actions 1), .int (t_rules_e_site 1), .int (t_rules_e_exit 1), .int (t_rules_e_conditional 1), .int (t_rules_e_there 1), .int (t_rules_e_on 1), .int (t_rules_e_failures 1), .int (t_rules_e_meetings 1)], zo 2 (q_t_rules_e 2) [.ref (q_t_rules_e_steps 2), .int (t_rules_e_length 2), .int (t_rules_e_actions 2), .int (t_rules_e_site 2), .int (t_rules_e_exit 2), .int (t_rules_e_conditional 2), .int (t_rules_e_there 2), .int (t_rules_e_on 2), .int (t_rules_e_failures 2), .int (t_rules_e_meetings 2)], zo 2 (q_t_rules_e 3) [.ref (q_t_rules_e_steps 3), .int (t_rules_e_length 3), .int (t_rules_e_actions 3), .int (t_rules_e_site 3), .int (t_rules_e_exit 3), .int (t_rules_e_conditional 3), .int (t_rules_e_there 3), .int (t_rules_e_on 3), .int (t_rules_e_failures 3), .int (t_rules_e_meetings 3)], zo 2 (q_t_rules_e 4) [.ref (q_t_rules_e_steps 4), .int (t_rules_e_length 4), .int (t_rules_e_actions 4), .int (t_rules_e_site 4), .int (t_rules_e_exit 4), .int (t_rules_e_conditional 4), .int (t_rules_e_there 4), .int (t_rules_e_on 4), .int (t_rules_e_failures 4), .int (t_rules_e_meetings 4)], zo 2 (q_t_rules_e 5) [.ref (q_t_rules_e_steps 5), .int (t_rules_e_length 5), .int (t_rules_e_actions 5), .int (t_rules_e_site 5), .int (t_rules_e_exit 5), .int (t_rules_e_conditional 5), .int (t_rules_e_there 5), .int (t_rules_e_on 5), .int (t_rules_e_failures 5), .int (t_rules_e_meetings 5)], zo 4 q_t_runner [.ref q_t_runner_stack, .ref q_t_runner_variables, .ref q_t_runner_gatherers, .ref q_t_runner_records, .int t_runner_time, .int t_runner_dropped, .int t_runner_thread, .double t_runner_handedA, .double t_runner_handedB, .double t_runner_handedC, .int t_runner_top, .int t_runner_over, .int t_runner_failed, .int t_runner_met], zo 3 q_t_text [.ref q_t_text_characters, .ref q_t_text_draft, .int t_text_length, .int t_text_at], zaR K 6 q_t_runner_gatherers 3 (fun i => some (q_t_runner_gatherers_e i)), zo 0 (q_t_runner_gatherers_e 0) [.ref (q_t_runner_gatherers_e_keys 0), .ref (q_t_runner_gatherers_e_least 0), .ref (q_t_runner_gatherers_e_greatest 0), .ref (q_t_runner_gatherers_e_sums 0), .ref (q_t_runner_gatherers_e_values 0), .ref (q_t_runner_gatherers_e_bins 0), .int (t_runner_gatherers_e_size 0)], zo 0 (q_t_runner_gatherers_e 1) [.ref (q_t_runner_gatherers_e_keys 1), .ref (q_t_runner_gatherers_e_least 1), .ref (q_t_runner_gatherers_e_greatest 1), .ref (q_t_runner_gatherers_e_sums 1), .ref (q_t_runner_gatherers_e_values 1), .ref (q_t_runner_gatherers_e_bins 1), .int (t_runner_gatherers_e_size 1)], zo 0 (q_t_runner_gatherers_e 2) [.ref (q_t_runner_gatherers_e_keys 2), .ref (q_t_runner_gatherers_e_least 2), .ref (q_t_runner_gatherers_e_greatest 2), .ref (q_t_runner_gatherers_e_sums 2), .ref (q_t_runner_gatherers_e_values 2), .ref (q_t_runner_gatherers_e_bins 2), .int (t_runner_gatherers_e_size 2)], zo 1 q_t_runner_records [.ref q_t_runner_records_ring, .int t_runner_records_oldest, .int t_runner_records_size, .int t_runner_records_lost]]) C 0 rfl rfl (c_Tr_rulesOn l D K q_t q_t_text q_t_rules q_t_runner q_t_rules_e q_t_rules_e_steps t_place t_firings t_rules_e_length t_rules_e_actions t_rules_e_site t_rules_e_exit t_rules_e_conditional t_rules_e_there t_rules_e_on t_rules_e_failures t_rules_e_meetings hS252.1) (cwV 0 C.2.2.2.2.1 (z_gV wl_Tr_97 wi_Tr_rulesOn wv_Tr_rulesOn wz_Tr wk_Tr_rulesOn) rfl rfl rfl (by decide +kernel) ⟨Nat.le_of_ble_eq_true rfl, Nat.le_of_ble_eq_true rfl⟩) [0, 1, 2, 3, 4, 5, 6, 7] [8, 9, 10, 11, 12, 13, 14] [7, 8, 9, 10, 11, 12, 13, 14, 0, 1, 2, 3, 4, 5, 6] rfl rfl rfl rfl (by decide) (fun _ => rfl) rfl rfl rfl (Nat.le_of_ble_eq_true rfl) d_Tr_count_183 ⟨Nat.le_of_ble_eq_true rfl, Nat.le_of_ble_eq_true rfl⟩ (fun r253 u254 e255 => ?_)
                have hS256 := hS252.2 r253 e255
                exact z_iret C hr hlk () rfl hS256 d_Tr_count_186
              have hS257 := hS251.2 c241_3
              by_cases c241_4 : x1 = (4 : Int32)
              · refine z_tableIn (tgt := 187) C d_Tr_count_117 (by rw [c241_4]; decide) (by rw [c241_4]; decide) (by rw [c241_4]; rfl) (by decide) ?_
                have hS258 := hS257.1 c241_4
                refine z_aload_n C d_Tr_count_187 rfl 0 rfl ?_
                refine z_get C 0 rfl rfl in_Tr 2 (by decide) rfl wf_Tr_26 rfl d_Tr_count_188 ?_
                refine z_get C 8 rfl rfl in_Rn 3 (by decide) rfl wf_Tr_163 rfl d_Tr_count_191 ?_
                refine z_get C 14 rfl rfl in_Re 2 (by decide) rfl wf_Tr_167 rfl d_Tr_count_194 ?_
                exact z_iret C hr hlk () rfl hS258 d_Tr_count_197
              have hS259 := hS257.2 c241_4
              by_cases c241_5 : x1 = (5 : Int32)
              · refine z_tableIn (tgt := 198) C d_Tr_count_117 (by rw [c241_5]; decide) (by rw [c241_5]; decide) (by rw [c241_5]; rfl) (by decide) ?_
                have hS260 := hS259.1 c241_5
                refine z_aload_n C d_Tr_count_198 rfl 0 rfl ?_
                refine z_get C 0 rfl rfl in_Tr 2 (by decide) rfl wf_Tr_26 rfl d_Tr_count_199 ?_
                refine z_get C 8 rfl rfl in_Rn 3 (by decide) rfl wf_Tr_163 rfl d_Tr_count_202 ?_
                refine z_get C 14 rfl rfl in_Re 3 (by decide) rfl wf_Tr_188 rfl d_Tr_count_205 ?_
                exact z_iret C hr hlk () rfl hS260 d_Tr_count_208
              have hS261 := hS259.2 c241_5
              by_cases c241_6 : x1 = (6 : Int32)
              · refine z_tableIn (tgt := 209) C d_Tr_count_117 (by rw [c241_6]; decide) (by rw [c241_6]; decide) (by rw [c241_6]; rfl) (by decide) ?_
                have hS262 := hS261.1 c241_6
                refine z_aload_n C d_Tr_count_209 rfl 0 rfl ?_
                refine z_get C 0 rfl rfl in_Tr 2 (by decide) rfl wf_Tr_26 rfl d_Tr_count_210 ?_
                refine z_get C 8 rfl rfl in_Rn 5 (by decide) rfl wf_Tr_191 rfl d_Tr_count_213 ?_
                exact z_iret C hr hlk () rfl hS262 d_Tr_count_216
              have hS263 := hS261.2 c241_6
              by_cases c241_7 : x1 = (7 : Int32)
              · refine z_tableIn (tgt := 217) C d_Tr_count_117 (by rw [c241_7]; decide) (by rw [c241_7]; decide) (by rw [c241_7]; rfl) (by decide) ?_
                have hS264 := hS263.1 c241_7
                refine z_aload_n C d_Tr_count_217 rfl 0 rfl ?_
                refine z_get C 0 rfl rfl in_Tr 4 (by decide) rfl wf_Tr_121 rfl d_Tr_count_218 ?_
                exact z_iret C hr hlk () rfl hS264 d_Tr_count_221
              have hS265 := hS263.2 c241_7
              refine z_tableOut (tgt := 222) C d_Tr_count_117 (zto_0_7 c241_0 c241_1 c241_2 c241_3 c241_4 c241_5 c241_6 c241_7) (by decide) ?_
              refine z_bipush (v := (-2 : Int32)) C d_Tr_count_222 (by decide) ?_
              exact z_iret C hr hlk () rfl hS265 d_Tr_count_224
            · have hS240 := hS213.2 c239
              refine z_aload_n C d_Tr_count_100 rfl 0 rfl ?_
              refine z_get C 0 rfl rfl in_Tr 2 (by decide) rfl wf_Tr_26 rfl d_Tr_count_101 ?_
              refine z_get C 8 rfl rfl in_Rn 2 (by decide) rfl wf_Tr_139 rfl d_Tr_count_104 ?_
              refine z_iload_n C d_Tr_count_107 rfl 1 rfl ?_
              refine z_bipush (v := (8 : Int32)) C d_Tr_count_108 (by decide) ?_
              refine z_isub C d_Tr_count_110 ?_
              rcases zix_3 hS240.1 with hj266 | hj266 | hj266
              · have hS268 := hS240.2 0 hj266 (by decide)
                refine z_aldq (v := (q_t_runner_gatherers_e 0)) C 10 6 rfl rfl hS240.1 (by rw [zix_cl hj266 (by decide)]) d_Tr_count_111 ?_
                refine z_get C 11 rfl rfl in_Ga 6 (by decide) rfl wf_Tr_184 rfl d_Tr_count_112 ?_
                exact z_iret C hr hlk () rfl hS268 d_Tr_count_115
              · have hS269 := hS240.2 1 hj266 (by decide)
                refine z_aldq (v := (q_t_runner_gatherers_e 1)) C 10 6 rfl rfl hS240.1 (by rw [zix_cl hj266 (by decide)]) d_Tr_count_111 ?_
                refine z_get C 12 rfl rfl in_Ga 6 (by decide) rfl wf_Tr_184 rfl d_Tr_count_112 ?_
                exact z_iret C hr hlk () rfl hS269 d_Tr_count_115
              · have hS270 := hS240.2 2 hj266 (by decide)
                refine z_aldq (v := (q_t_runner_gatherers_e 2)) C 10 6 rfl rfl hS240.1 (by rw [zix_cl hj266 (by decide)]) d_Tr_count_111 ?_
                refine z_get C 13 rfl rfl in_Ga 6 (by decide) rfl wf_Tr_184 rfl d_Tr_count_112 ?_
                exact z_iret C hr hlk () rfl hS270 d_Tr_count_115
        · have hS211 := hS150.2 c210
          refine z_aload_n C d_Tr_count_56 rfl 0 rfl ?_
          refine z_get C 0 rfl rfl in_Tr 1 (by decide) rfl wf_Tr_18 rfl d_Tr_count_57 ?_
          refine z_iload_n C d_Tr_count_60 rfl 1 rfl ?_
          refine z_bipush (v := (30 : Int32)) C d_Tr_count_61 (by decide) ?_
          refine z_isub C d_Tr_count_63 ?_
          rcases zix_6 hS211.1 with hj271 | hj271 | hj271 | hj271 | hj271 | hj271
          · have hS273 := hS211.2 0 hj271 (by decide)
            refine z_aldq (v := (q_t_rules_e 0)) C 1 5 rfl rfl hS211.1 (by rw [zix_cl hj271 (by decide)]) d_Tr_count_64 ?_
            refine z_get C 2 rfl rfl in_Ru 6 (by decide) rfl wf_Tr_82 rfl d_Tr_count_65 ?_
            refine z_if_eq (tgt := 86) C d_Tr_count_68 (by decide) (fun c274 => ?_) (fun c274 => ?_)
            · have hS275 := hS273.1 c274
              refine z_iconst (v := (-1 : Int32)) C d_Tr_count_86 (by decide) ?_
              exact z_iret C hr hlk () rfl hS275 d_Tr_count_87
            · have hS275 := hS273.2 c274
              refine z_aload_n C d_Tr_count_71 rfl 0 rfl ?_
              refine z_get C 0 rfl rfl in_Tr 1 (by decide) rfl wf_Tr_18 rfl d_Tr_count_72 ?_
              refine z_iload_n C d_Tr_count_75 rfl 1 rfl ?_
              refine z_bipush (v := (30 : Int32)) C d_Tr_count_76 (by decide) ?_
              refine z_isub C d_Tr_count_78 ?_
              refine z_aldq C 1 5 rfl rfl (zix_in hj271 (by decide) (by decide)) (by rw [zix_cl hj271 (by decide)]) d_Tr_count_79 ?_
              refine z_get C 2 rfl rfl in_Ru 9 (by decide) rfl wf_Tr_181 rfl d_Tr_count_80 ?_
              refine z_goto (tgt := 87) C d_Tr_count_83 (by decide) ?_
              exact z_iret C hr hlk () rfl hS275 d_Tr_count_87
          · have hS276 := hS211.2 1 hj271 (by decide)
            refine z_aldq (v := (q_t_rules_e 1)) C 1 5 rfl rfl hS211.1 (by rw [zix_cl hj271 (by decide)]) d_Tr_count_64 ?_
            refine z_get C 3 rfl rfl in_Ru 6 (by decide) rfl wf_Tr_82 rfl d_Tr_count_65 ?_
            refine z_if_eq (tgt := 86) C d_Tr_count_68 (by decide) (fun c277 => ?_) (fun c277 => ?_)
            · have hS278 := hS276.1 c277
              refine z_iconst (v := (-1 : Int32)) C d_Tr_count_86 (by decide) ?_
              exact z_iret C hr hlk () rfl hS278 d_Tr_count_87
            · have hS278 := hS276.2 c277
              refine z_aload_n C d_Tr_count_71 rfl 0 rfl ?_
              refine z_get C 0 rfl rfl in_Tr 1 (by decide) rfl wf_Tr_18 rfl d_Tr_count_72 ?_
              refine z_iload_n C d_Tr_count_75 rfl 1 rfl ?_
              refine z_bipush (v := (30 : Int32)) C d_Tr_count_76 (by decide) ?_
              refine z_isub C d_Tr_count_78 ?_
              refine z_aldq C 1 5 rfl rfl (zix_in hj271 (by decide) (by decide)) (by rw [zix_cl hj271 (by decide)]) d_Tr_count_79 ?_
              refine z_get C 3 rfl rfl in_Ru 9 (by decide) rfl wf_Tr_181 rfl d_Tr_count_80 ?_
              refine z_goto (tgt := 87) C d_Tr_count_83 (by decide) ?_
              exact z_iret C hr hlk () rfl hS278 d_Tr_count_87
          · have hS279 := hS211.2 2 hj271 (by decide)
            refine z_aldq (v := (q_t_rules_e 2)) C 1 5 rfl rfl hS211.1 (by rw [zix_cl hj271 (by decide)]) d_Tr_count_64 ?_
            refine z_get C 4 rfl rfl in_Ru 6 (by decide) rfl wf_Tr_82 rfl d_Tr_count_65 ?_
            refine z_if_eq (tgt := 86) C d_Tr_count_68 (by decide) (fun c280 => ?_) (fun c280 => ?_)
            · have hS281 := hS279.1 c280
              refine z_iconst (v := (-1 : Int32)) C d_Tr_count_86 (by decide) ?_
              exact z_iret C hr hlk () rfl hS281 d_Tr_count_87
            · have hS281 := hS279.2 c280
              refine z_aload_n C d_Tr_count_71 rfl 0 rfl ?_
              refine z_get C 0 rfl rfl in_Tr 1 (by decide) rfl wf_Tr_18 rfl d_Tr_count_72 ?_
              refine z_iload_n C d_Tr_count_75 rfl 1 rfl ?_
              refine z_bipush (v := (30 : Int32)) C d_Tr_count_76 (by decide) ?_
              refine z_isub C d_Tr_count_78 ?_
              refine z_aldq C 1 5 rfl rfl (zix_in hj271 (by decide) (by decide)) (by rw [zix_cl hj271 (by decide)]) d_Tr_count_79 ?_
              refine z_get C 4 rfl rfl in_Ru 9 (by decide) rfl wf_Tr_181 rfl d_Tr_count_80 ?_
              refine z_goto (tgt := 87) C d_Tr_count_83 (by decide) ?_
              exact z_iret C hr hlk () rfl hS281 d_Tr_count_87
          · have hS282 := hS211.2 3 hj271 (by decide)
            refine z_aldq (v := (q_t_rules_e 3)) C 1 5 rfl rfl hS211.1 (by rw [zix_cl hj271 (by decide)]) d_Tr_count_64 ?_
            refine z_get C 5 rfl rfl in_Ru 6 (by decide) rfl wf_Tr_82 rfl d_Tr_count_65 ?_
            refine z_if_eq (tgt := 86) C d_Tr_count_68 (by decide) (fun c283 => ?_) (fun c283 => ?_)
            · have hS284 := hS282.1 c283
              refine z_iconst (v := (-1 : Int32)) C d_Tr_count_86 (by decide) ?_
              exact z_iret C hr hlk () rfl hS284 d_Tr_count_87
            · have hS284 := hS282.2 c283
              refine z_aload_n C d_Tr_count_71 rfl 0 rfl ?_
              refine z_get C 0 rfl rfl in_Tr 1 (by decide) rfl wf_Tr_18 rfl d_Tr_count_72 ?_
              refine z_iload_n C d_Tr_count_75 rfl 1 rfl ?_
              refine z_bipush (v := (30 : Int32)) C d_Tr_count_76 (by decide) ?_
              refine z_isub C d_Tr_count_78 ?_
              refine z_aldq C 1 5 rfl rfl (zix_in hj271 (by decide) (by decide)) (by rw [zix_cl hj271 (by decide)]) d_Tr_count_79 ?_
              refine z_get C 5 rfl rfl in_Ru 9 (by decide) rfl wf_Tr_181 rfl d_Tr_count_80 ?_
              refine z_goto (tgt := 87) C d_Tr_count_83 (by decide) ?_
              exact z_iret C hr hlk () rfl hS284 d_Tr_count_87
          · have hS285 := hS211.2 4 hj271 (by decide)
            refine z_aldq (v := (q_t_rules_e 4)) C 1 5 rfl rfl hS211.1 (by rw [zix_cl hj271 (by decide)]) d_Tr_count_64 ?_
            refine z_get C 6 rfl rfl in_Ru 6 (by decide) rfl wf_Tr_82 rfl d_Tr_count_65 ?_
            refine z_if_eq (tgt := 86) C d_Tr_count_68 (by decide) (fun c286 => ?_) (fun c286 => ?_)
            · have hS287 := hS285.1 c286
              refine z_iconst (v := (-1 : Int32)) C d_Tr_count_86 (by decide) ?_
              exact z_iret C hr hlk () rfl hS287 d_Tr_count_87
            · have hS287 := hS285.2 c286
              refine z_aload_n C d_Tr_count_71 rfl 0 rfl ?_
              refine z_get C 0 rfl rfl in_Tr 1 (by decide) rfl wf_Tr_18 rfl d_Tr_count_72 ?_
              refine z_iload_n C d_Tr_count_75 rfl 1 rfl ?_
              refine z_bipush (v := (30 : Int32)) C d_Tr_count_76 (by decide) ?_
              refine z_isub C d_Tr_count_78 ?_
              refine z_aldq C 1 5 rfl rfl (zix_in hj271 (by decide) (by decide)) (by rw [zix_cl hj271 (by decide)]) d_Tr_count_79 ?_
              refine z_get C 6 rfl rfl in_Ru 9 (by decide) rfl wf_Tr_181 rfl d_Tr_count_80 ?_
              refine z_goto (tgt := 87) C d_Tr_count_83 (by decide) ?_
              exact z_iret C hr hlk () rfl hS287 d_Tr_count_87
          · have hS288 := hS211.2 5 hj271 (by decide)
            refine z_aldq (v := (q_t_rules_e 5)) C 1 5 rfl rfl hS211.1 (by rw [zix_cl hj271 (by decide)]) d_Tr_count_64 ?_
            refine z_get C 7 rfl rfl in_Ru 6 (by decide) rfl wf_Tr_82 rfl d_Tr_count_65 ?_
            refine z_if_eq (tgt := 86) C d_Tr_count_68 (by decide) (fun c289 => ?_) (fun c289 => ?_)
            · have hS290 := hS288.1 c289
              refine z_iconst (v := (-1 : Int32)) C d_Tr_count_86 (by decide) ?_
              exact z_iret C hr hlk () rfl hS290 d_Tr_count_87
            · have hS290 := hS288.2 c289
              refine z_aload_n C d_Tr_count_71 rfl 0 rfl ?_
              refine z_get C 0 rfl rfl in_Tr 1 (by decide) rfl wf_Tr_18 rfl d_Tr_count_72 ?_
              refine z_iload_n C d_Tr_count_75 rfl 1 rfl ?_
              refine z_bipush (v := (30 : Int32)) C d_Tr_count_76 (by decide) ?_
              refine z_isub C d_Tr_count_78 ?_
              refine z_aldq C 1 5 rfl rfl (zix_in hj271 (by decide) (by decide)) (by rw [zix_cl hj271 (by decide)]) d_Tr_count_79 ?_
              refine z_get C 7 rfl rfl in_Ru 9 (by decide) rfl wf_Tr_181 rfl d_Tr_count_80 ?_
              refine z_goto (tgt := 87) C d_Tr_count_83 (by decide) ?_
              exact z_iret C hr hlk () rfl hS290 d_Tr_count_87
    · have hS148 := hS2.2 c147
      refine z_aload_n C d_Tr_count_12 rfl 0 rfl ?_
      refine z_get C 0 rfl rfl in_Tr 1 (by decide) rfl wf_Tr_18 rfl d_Tr_count_13 ?_
      refine z_iload_n C d_Tr_count_16 rfl 1 rfl ?_
      refine z_bipush (v := (20 : Int32)) C d_Tr_count_17 (by decide) ?_
      refine z_isub C d_Tr_count_19 ?_
      rcases zix_6 hS148.1 with hj293 | hj293 | hj293 | hj293 | hj293 | hj293
      · have hS295 := hS148.2 0 hj293 (by decide)
        refine z_aldq (v := (q_t_rules_e 0)) C 1 5 rfl rfl hS148.1 (by rw [zix_cl hj293 (by decide)]) d_Tr_count_20 ?_
        refine z_get C 2 rfl rfl in_Ru 6 (by decide) rfl wf_Tr_82 rfl d_Tr_count_21 ?_
        refine z_if_eq (tgt := 42) C d_Tr_count_24 (by decide) (fun c296 => ?_) (fun c296 => ?_)
        · have hS297 := hS295.1 c296
          refine z_iconst (v := (-1 : Int32)) C d_Tr_count_42 (by decide) ?_
          exact z_iret C hr hlk () rfl hS297 d_Tr_count_43
        · have hS297 := hS295.2 c296
          refine z_aload_n C d_Tr_count_27 rfl 0 rfl ?_
          refine z_get C 0 rfl rfl in_Tr 1 (by decide) rfl wf_Tr_18 rfl d_Tr_count_28 ?_
          refine z_iload_n C d_Tr_count_31 rfl 1 rfl ?_
          refine z_bipush (v := (20 : Int32)) C d_Tr_count_32 (by decide) ?_
          refine z_isub C d_Tr_count_34 ?_
          refine z_aldq C 1 5 rfl rfl (zix_in hj293 (by decide) (by decide)) (by rw [zix_cl hj293 (by decide)]) d_Tr_count_35 ?_
          refine z_get C 2 rfl rfl in_Ru 8 (by decide) rfl wf_Tr_178 rfl d_Tr_count_36 ?_
          refine z_goto (tgt := 43) C d_Tr_count_39 (by decide) ?_
          exact z_iret C hr hlk () rfl hS297 d_Tr_count_43
      · have hS298 := hS148.2 1 hj293 (by decide)
        refine z_aldq (v := (q_t_rules_e 1)) C 1 5 rfl rfl hS148.1 (by rw [zix_cl hj293 (by decide)]) d_Tr_count_20 ?_
        refine z_get C 3 rfl rfl in_Ru 6 (by decide) rfl wf_Tr_82 rfl d_Tr_count_21 ?_
        refine z_if_eq (tgt := 42) C d_Tr_count_24 (by decide) (fun c299 => ?_) (fun c299 => ?_)
        · have hS300 := hS298.1 c299
          refine z_iconst (v := (-1 : Int32)) C d_Tr_count_42 (by decide) ?_
          exact z_iret C hr hlk () rfl hS300 d_Tr_count_43
        · have hS300 := hS298.2 c299
          refine z_aload_n C d_Tr_count_27 rfl 0 rfl ?_
          refine z_get C 0 rfl rfl in_Tr 1 (by decide) rfl wf_Tr_18 rfl d_Tr_count_28 ?_
          refine z_iload_n C d_Tr_count_31 rfl 1 rfl ?_
          refine z_bipush (v := (20 : Int32)) C d_Tr_count_32 (by decide) ?_
          refine z_isub C d_Tr_count_34 ?_
          refine z_aldq C 1 5 rfl rfl (zix_in hj293 (by decide) (by decide)) (by rw [zix_cl hj293 (by decide)]) d_Tr_count_35 ?_
          refine z_get C 3 rfl rfl in_Ru 8 (by decide) rfl wf_Tr_178 rfl d_Tr_count_36 ?_
          refine z_goto (tgt := 43) C d_Tr_count_39 (by decide) ?_
          exact z_iret C hr hlk () rfl hS300 d_Tr_count_43
      · have hS301 := hS148.2 2 hj293 (by decide)
        refine z_aldq (v := (q_t_rules_e 2)) C 1 5 rfl rfl hS148.1 (by rw [zix_cl hj293 (by decide)]) d_Tr_count_20 ?_
        refine z_get C 4 rfl rfl in_Ru 6 (by decide) rfl wf_Tr_82 rfl d_Tr_count_21 ?_
        refine z_if_eq (tgt := 42) C d_Tr_count_24 (by decide) (fun c302 => ?_) (fun c302 => ?_)
        · have hS303 := hS301.1 c302
          refine z_iconst (v := (-1 : Int32)) C d_Tr_count_42 (by decide) ?_
          exact z_iret C hr hlk () rfl hS303 d_Tr_count_43
        · have hS303 := hS301.2 c302
          refine z_aload_n C d_Tr_count_27 rfl 0 rfl ?_
          refine z_get C 0 rfl rfl in_Tr 1 (by decide) rfl wf_Tr_18 rfl d_Tr_count_28 ?_
          refine z_iload_n C d_Tr_count_31 rfl 1 rfl ?_
          refine z_bipush (v := (20 : Int32)) C d_Tr_count_32 (by decide) ?_
          refine z_isub C d_Tr_count_34 ?_
          refine z_aldq C 1 5 rfl rfl (zix_in hj293 (by decide) (by decide)) (by rw [zix_cl hj293 (by decide)]) d_Tr_count_35 ?_
          refine z_get C 4 rfl rfl in_Ru 8 (by decide) rfl wf_Tr_178 rfl d_Tr_count_36 ?_
          refine z_goto (tgt := 43) C d_Tr_count_39 (by decide) ?_
          exact z_iret C hr hlk () rfl hS303 d_Tr_count_43
      · have hS304 := hS148.2 3 hj293 (by decide)
        refine z_aldq (v := (q_t_rules_e 3)) C 1 5 rfl rfl hS148.1 (by rw [zix_cl hj293 (by decide)]) d_Tr_count_20 ?_
        refine z_get C 5 rfl rfl in_Ru 6 (by decide) rfl wf_Tr_82 rfl d_Tr_count_21 ?_
        refine z_if_eq (tgt := 42) C d_Tr_count_24 (by decide) (fun c305 => ?_) (fun c305 => ?_)
        · have hS306 := hS304.1 c305
          refine z_iconst (v := (-1 : Int32)) C d_Tr_count_42 (by decide) ?_
          exact z_iret C hr hlk () rfl hS306 d_Tr_count_43
        · have hS306 := hS304.2 c305
          refine z_aload_n C d_Tr_count_27 rfl 0 rfl ?_
          refine z_get C 0 rfl rfl in_Tr 1 (by decide) rfl wf_Tr_18 rfl d_Tr_count_28 ?_
          refine z_iload_n C d_Tr_count_31 rfl 1 rfl ?_
          refine z_bipush (v := (20 : Int32)) C d_Tr_count_32 (by decide) ?_
          refine z_isub C d_Tr_count_34 ?_
          refine z_aldq C 1 5 rfl rfl (zix_in hj293 (by decide) (by decide)) (by rw [zix_cl hj293 (by decide)]) d_Tr_count_35 ?_
          refine z_get C 5 rfl rfl in_Ru 8 (by decide) rfl wf_Tr_178 rfl d_Tr_count_36 ?_
          refine z_goto (tgt := 43) C d_Tr_count_39 (by decide) ?_
          exact z_iret C hr hlk () rfl hS306 d_Tr_count_43
      · have hS307 := hS148.2 4 hj293 (by decide)
        refine z_aldq (v := (q_t_rules_e 4)) C 1 5 rfl rfl hS148.1 (by rw [zix_cl hj293 (by decide)]) d_Tr_count_20 ?_
        refine z_get C 6 rfl rfl in_Ru 6 (by decide) rfl wf_Tr_82 rfl d_Tr_count_21 ?_
        refine z_if_eq (tgt := 42) C d_Tr_count_24 (by decide) (fun c308 => ?_) (fun c308 => ?_)
        · have hS309 := hS307.1 c308
          refine z_iconst (v := (-1 : Int32)) C d_Tr_count_42 (by decide) ?_
          exact z_iret C hr hlk () rfl hS309 d_Tr_count_43
        · have hS309 := hS307.2 c308
          refine z_aload_n C d_Tr_count_27 rfl 0 rfl ?_
          refine z_get C 0 rfl rfl in_Tr 1 (by decide) rfl wf_Tr_18 rfl d_Tr_count_28 ?_
          refine z_iload_n C d_Tr_count_31 rfl 1 rfl ?_
          refine z_bipush (v := (20 : Int32)) C d_Tr_count_32 (by decide) ?_
          refine z_isub C d_Tr_count_34 ?_
          refine z_aldq C 1 5 rfl rfl (zix_in hj293 (by decide) (by decide)) (by rw [zix_cl hj293 (by decide)]) d_Tr_count_35 ?_
          refine z_get C 6 rfl rfl in_Ru 8 (by decide) rfl wf_Tr_178 rfl d_Tr_count_36 ?_
          refine z_goto (tgt := 43) C d_Tr_count_39 (by decide) ?_
          exact z_iret C hr hlk () rfl hS309 d_Tr_count_43
      · have hS310 := hS148.2 5 hj293 (by decide)
        refine z_aldq (v := (q_t_rules_e 5)) C 1 5 rfl rfl hS148.1 (by rw [zix_cl hj293 (by decide)]) d_Tr_count_20 ?_
        refine z_get C 7 rfl rfl in_Ru 6 (by decide) rfl wf_Tr_82 rfl d_Tr_count_21 ?_
        refine z_if_eq (tgt := 42) C d_Tr_count_24 (by decide) (fun c311 => ?_) (fun c311 => ?_)
        · have hS312 := hS310.1 c311
          refine z_iconst (v := (-1 : Int32)) C d_Tr_count_42 (by decide) ?_
          exact z_iret C hr hlk () rfl hS312 d_Tr_count_43
        · have hS312 := hS310.2 c311
          refine z_aload_n C d_Tr_count_27 rfl 0 rfl ?_
          refine z_get C 0 rfl rfl in_Tr 1 (by decide) rfl wf_Tr_18 rfl d_Tr_count_28 ?_
          refine z_iload_n C d_Tr_count_31 rfl 1 rfl ?_
          refine z_bipush (v := (20 : Int32)) C d_Tr_count_32 (by decide) ?_
          refine z_isub C d_Tr_count_34 ?_
          refine z_aldq C 1 5 rfl rfl (zix_in hj293 (by decide) (by decide)) (by rw [zix_cl hj293 (by decide)]) d_Tr_count_35 ?_
          refine z_get C 7 rfl rfl in_Ru 8 (by decide) rfl wf_Tr_178 rfl d_Tr_count_36 ?_
          refine z_goto (tgt := 43) C d_Tr_count_39 (by decide) ?_
          exact z_iret C hr hlk () rfl hS312 d_Tr_count_43
def s_Tr_count (t_place : Int32) (t_firings : Int32) (t_rules_e_there : Nat → Int32) (t_rules_e_on : Nat → Int32) (t_rules_e_failures : Nat → Int32) (t_rules_e_meetings : Nat → Int32) (t_runner_dropped : Int32) (t_text_length : Int32) (t_runner_gatherers_e_size : Nat → Int32) (t_runner_records_size : Int32) (t_runner_records_lost : Int32) (x1 : Int32) : Int32 := (if x1 < (20 : Int32) then (if x1 < (30 : Int32) then (if x1 < (8 : Int32) then (if x1 = (0 : Int32) then t_place else (if x1 = (1 : Int32) then t_text_length else (if x1 = (2 : Int32) then (zl1 (s_Tr_rulesThere t_rules_e_there) fun r13 => r13) else (if x1 = (3 : Int32) then (zl1 (s_Tr_rulesOn t_rules_e_on) fun r19 => r19) else (if x1 = (4 : Int32) then t_runner_records_size else (if x1 = (5 : Int32) then t_runner_records_lost else (if x1 = (6 : Int32) then t_runner_dropped else (if x1 = (7 : Int32) then t_firings else (-2 : Int32))))))))) else (if (11 : Int32) ≤ x1 then (if x1 = (0 : Int32) then t_place else (if x1 = (1 : Int32) then t_text_length else (if x1 = (2 : Int32) then (zl1 (s_Tr_rulesThere t_rules_e_there) fun r40 => r40) else (if x1 = (3 : Int32) then (zl1 (s_Tr_rulesOn t_rules_e_on) fun r46 => r46) else (if x1 = (4 : Int32) then t_runner_records_size else (if x1 = (5 : Int32) then t_runner_records_lost else (if x1 = (6 : Int32) then t_runner_dropped else (if x1 = (7 : Int32) then t_firings else (-2 : Int32))))))))) else (zl1 (x1 - (8 : Int32)).toNatClampNeg fun j60 => t_runner_gatherers_e_size j60))) else (if (36 : Int32) ≤ x1 then (if x1 < (8 : Int32) then (if x1 = (0 : Int32) then t_place else (if x1 = (1 : Int32) then t_text_length else (if x1 = (2 : Int32) then (zl1 (s_Tr_rulesThere t_rules_e_there) fun r74 => r74) else (if x1 = (3 : Int32) then (zl1 (s_Tr_rulesOn t_rules_e_on) fun r80 => r80) else (if x1 = (4 : Int32) then t_runner_records_size else (if x1 = (5 : Int32) then t_runner_records_lost else (if x1 = (6 : Int32) then t_runner_dropped else (if x1 = (7 : Int32) then t_firings else (-2 : Int32))))))))) else (if (11 : Int32) ≤ x1 then (if x1 = (0 : Int32) then t_place else (if x1 = (1 : Int32) then t_text_length else (if x1 = (2 : Int32) then (zl1 (s_Tr_rulesThere t_rules_e_there) fun r101 => r101) else (if x1 = (3 : Int32) then (zl1 (s_Tr_rulesOn t_rules_e_on) fun r107 => r107) else (if x1 = (4 : Int32) then t_runner_records_size else (if x1 = (5 : Int32) then t_runner_records_lost else (if x1 = (6 : Int32) then t_runner_dropped else (if x1 = (7 : Int32) then t_firings else (-2 : Int32))))))))) else (zl1 (x1 - (8 : Int32)).toNatClampNeg fun j121 => t_runner_gatherers_e_size j121))) else (zl1 (x1 - (30 : Int32)).toNatClampNeg fun j126 => (if (t_rules_e_there j126) = 0 then (-1 : Int32) else t_rules_e_meetings j126)))) else (if (26 : Int32) ≤ x1 then (if x1 < (30 : Int32) then (if x1 < (8 : Int32) then (if x1 = (0 : Int32) then t_place else (if x1 = (1 : Int32) then t_text_length else (if x1 = (2 : Int32) then (zl1 (s_Tr_rulesThere t_rules_e_there) fun r159 => r159) else (if x1 = (3 : Int32) then (zl1 (s_Tr_rulesOn t_rules_e_on) fun r165 => r165) else (if x1 = (4 : Int32) then t_runner_records_size else (if x1 = (5 : Int32) then t_runner_records_lost else (if x1 = (6 : Int32) then t_runner_dropped else (if x1 = (7 : Int32) then t_firings else (-2 : Int32))))))))) else (if (11 : Int32) ≤ x1 then (if x1 = (0 : Int32) then t_place else (if x1 = (1 : Int32) then t_text_length else (if x1 = (2 : Int32) then (zl1 (s_Tr_rulesThere t_rules_e_there) fun r186 => r186) else (if x1 = (3 : Int32) then (zl1 (s_Tr_rulesOn t_rules_e_on) fun r192 => r192) else (if x1 = (4 : Int32) then t_runner_records_size else (if x1 = (5 : Int32) then t_runner_records_lost else (if x1 = (6 : Int32) then t_runner_dropped else (if x1 = (7 : Int32) then t_firings else (-2 : Int32))))))))) else (zl1 (x1 - (8 : Int32)).toNatClampNeg fun j206 => t_runner_gatherers_e_size j206))) else (if (36 : Int32) ≤ x1 then (if x1 < (8 : Int32) then (if x1 = (0 : Int32) then t_place else (if x1 = (1 : Int32) then t_text_length else (if x1 = (2 : Int32) then (zl1 (s_Tr_rulesThere t_rules_e_there) fun r220 => r220) else (if x1 = (3 : Int32) then (zl1 (s_Tr_rulesOn t_rules_e_on) fun r226 => r226) else (if x1 = (4 : Int32) then t_runner_records_size else (if x1 = (5 : Int32) then t_runner_records_lost else (if x1 = (6 : Int32) then t_runner_dropped else (if x1 = (7 : Int32) then t_firings else (-2 : Int32))))))))) else (if (11 : Int32) ≤ x1 then (if x1 = (0 : Int32) then t_place else (if x1 = (1 : Int32) then t_text_length else (if x1 = (2 : Int32) then (zl1 (s_Tr_rulesThere t_rules_e_there) fun r247 => r247) else (if x1 = (3 : Int32) then (zl1 (s_Tr_rulesOn t_rules_e_on) fun r253 => r253) else (if x1 = (4 : Int32) then t_runner_records_size else (if x1 = (5 : Int32) then t_runner_records_lost else (if x1 = (6 : Int32) then t_runner_dropped else (if x1 = (7 : Int32) then t_firings else (-2 : Int32))))))))) else (zl1 (x1 - (8 : Int32)).toNatClampNeg fun j267 => t_runner_gatherers_e_size j267))) else (zl1 (x1 - (30 : Int32)).toNatClampNeg fun j272 => (if (t_rules_e_there j272) = 0 then (-1 : Int32) else t_rules_e_meetings j272)))) else (zl1 (x1 - (20 : Int32)).toNatClampNeg fun j294 => (if (t_rules_e_there j294) = 0 then (-1 : Int32) else t_rules_e_failures j294))))
def p_Tr_count (t_place : Int32) (t_firings : Int32) (t_rules_e_there : Nat → Int32) (t_rules_e_on : Nat → Int32) (t_rules_e_failures : Nat → Int32) (t_rules_e_meetings : Nat → Int32) (t_runner_dropped : Int32) (t_text_length : Int32) (t_runner_gatherers_e_size : Nat → Int32) (t_runner_records_size : Int32) (t_runner_records_lost : Int32) (x1 : Int32) : Prop := WP_Tr_count t_place t_firings t_rules_e_there t_rules_e_on t_rules_e_failures t_rules_e_meetings t_runner_dropped t_text_length t_runner_gatherers_e_size t_runner_records_size t_runner_records_lost x1 (fun _ _ => True)
set_option maxRecDepth 100000 in
theorem v_Tr_count (t_place : Int32) (t_firings : Int32) (t_rules_e_there : Nat → Int32) (t_rules_e_on : Nat → Int32) (t_rules_e_failures : Nat → Int32) (t_rules_e_meetings : Nat → Int32) (t_runner_dropped : Int32) (t_text_length : Int32) (t_runner_gatherers_e_size : Nat → Int32) (t_runner_records_size : Int32) (t_runner_records_lost : Int32) (x1 : Int32) (hp : p_Tr_count t_place t_firings t_rules_e_there t_rules_e_on t_rules_e_failures t_rules_e_meetings t_runner_dropped t_text_length t_runner_gatherers_e_size t_runner_records_size t_runner_records_lost x1) : WP_Tr_count t_place t_firings t_rules_e_there t_rules_e_on t_rules_e_failures t_rules_e_meetings t_runner_dropped t_text_length t_runner_gatherers_e_size t_runner_records_size t_runner_records_lost x1 (fun r u => s_Tr_count t_place t_firings t_rules_e_there t_rules_e_on t_rules_e_failures t_rules_e_meetings t_runner_dropped t_text_length t_runner_gatherers_e_size t_runner_records_size t_runner_records_lost x1 = r) := by
  unfold p_Tr_count WP_Tr_count at hp
  obtain ⟨tgt, f0⟩ : ∃ tgt, s_Tr_count t_place t_firings t_rules_e_there t_rules_e_on t_rules_e_failures t_rules_e_meetings t_runner_dropped t_text_length t_runner_gatherers_e_size t_runner_records_size t_runner_records_lost x1 = tgt := ⟨_, rfl⟩
  rw [f0]
  unfold s_Tr_count at f0
  unfold WP_Tr_count
  refine ⟨fun c1 => ?_, fun c1 => ?_⟩
  · have f1 := Eq.trans (Eq.symm (if_pos c1)) f0
    have g1 := hp.1 c1
    refine ⟨fun c3 => ?_, fun c3 => ?_⟩
    · have f2 := Eq.trans (Eq.symm (if_pos c3)) f1
      have g2 := g1.1 c3
      refine ⟨fun c5 => ?_, fun c5 => ?_⟩
      · have f3 := Eq.trans (Eq.symm (if_pos c5)) f2
        have g3 := g2.1 c5
        refine ⟨fun c7_0 => ?_, fun c7_0 => ?_⟩
        · have f4 := Eq.trans (Eq.symm (if_pos c7_0)) f3
          have g4 := g3.1 c7_0
          exact f4.symm
        · have f4 := Eq.trans (Eq.symm (if_neg c7_0)) f3
          have g4 := g3.2 c7_0
          refine ⟨fun c7_1 => ?_, fun c7_1 => ?_⟩
          · have f5 := Eq.trans (Eq.symm (if_pos c7_1)) f4
            have g5 := g4.1 c7_1
            exact f5.symm
          · have f5 := Eq.trans (Eq.symm (if_neg c7_1)) f4
            have g5 := g4.2 c7_1
            refine ⟨fun c7_2 => ?_, fun c7_2 => ?_⟩
            · have f6 := Eq.trans (Eq.symm (if_pos c7_2)) f5
              have g6 := g5.1 c7_2
              refine ⟨g6.1, ?_⟩
              have g8 := g6.2
              intro r13 e15
              have g7 := g8 r13 e15
              have f7 := Eq.trans (Eq.symm (zl1_eq e15)) f6
              exact f7.symm
            · have f6 := Eq.trans (Eq.symm (if_neg c7_2)) f5
              have g6 := g5.2 c7_2
              refine ⟨fun c7_3 => ?_, fun c7_3 => ?_⟩
              · have f9 := Eq.trans (Eq.symm (if_pos c7_3)) f6
                have g9 := g6.1 c7_3
                refine ⟨g9.1, ?_⟩
                have g11 := g9.2
                intro r19 e21
                have g10 := g11 r19 e21
                have f10 := Eq.trans (Eq.symm (zl1_eq e21)) f9
                exact f10.symm
              · have f9 := Eq.trans (Eq.symm (if_neg c7_3)) f6
                have g9 := g6.2 c7_3
                refine ⟨fun c7_4 => ?_, fun c7_4 => ?_⟩
                · have f12 := Eq.trans (Eq.symm (if_pos c7_4)) f9
                  have g12 := g9.1 c7_4
                  exact f12.symm
                · have f12 := Eq.trans (Eq.symm (if_neg c7_4)) f9
                  have g12 := g9.2 c7_4
                  refine ⟨fun c7_5 => ?_, fun c7_5 => ?_⟩
                  · have f13 := Eq.trans (Eq.symm (if_pos c7_5)) f12
                    have g13 := g12.1 c7_5
                    exact f13.symm
                  · have f13 := Eq.trans (Eq.symm (if_neg c7_5)) f12
                    have g13 := g12.2 c7_5
                    refine ⟨fun c7_6 => ?_, fun c7_6 => ?_⟩
                    · have f14 := Eq.trans (Eq.symm (if_pos c7_6)) f13
                      have g14 := g13.1 c7_6
                      exact f14.symm
                    · have f14 := Eq.trans (Eq.symm (if_neg c7_6)) f13
                      have g14 := g13.2 c7_6
                      refine ⟨fun c7_7 => ?_, fun c7_7 => ?_⟩
                      · have f15 := Eq.trans (Eq.symm (if_pos c7_7)) f14
                        have g15 := g14.1 c7_7
                        exact f15.symm
                      · have f15 := Eq.trans (Eq.symm (if_neg c7_7)) f14
                        have g15 := g14.2 c7_7
                        exact f15.symm
      · have f3 := Eq.trans (Eq.symm (if_neg c5)) f2
        have g3 := g2.2 c5
        refine ⟨fun c32 => ?_, fun c32 => ?_⟩
        · have f16 := Eq.trans (Eq.symm (if_pos c32)) f3
          have g16 := g3.1 c32
          refine ⟨fun c34_0 => ?_, fun c34_0 => ?_⟩
          · have f17 := Eq.trans (Eq.symm (if_pos c34_0)) f16
            have g17 := g16.1 c34_0
            exact f17.symm
          · have f17 := Eq.trans (Eq.symm (if_neg c34_0)) f16
            have g17 := g16.2 c34_0
            refine ⟨fun c34_1 => ?_, fun c34_1 => ?_⟩
            · have f18 := Eq.trans (Eq.symm (if_pos c34_1)) f17
              have g18 := g17.1 c34_1
              exact f18.symm
            · have f18 := Eq.trans (Eq.symm (if_neg c34_1)) f17
              have g18 := g17.2 c34_1
              refine ⟨fun c34_2 => ?_, fun c34_2 => ?_⟩
              · have f19 := Eq.trans (Eq.symm (if_pos c34_2)) f18
                have g19 := g18.1 c34_2
                refine ⟨g19.1, ?_⟩
                have g21 := g19.2
                intro r40 e42
                have g20 := g21 r40 e42
                have f20 := Eq.trans (Eq.symm (zl1_eq e42)) f19
                exact f20.symm
              · have f19 := Eq.trans (Eq.symm (if_neg c34_2)) f18
                have g19 := g18.2 c34_2
                refine ⟨fun c34_3 => ?_, fun c34_3 => ?_⟩
                · have f22 := Eq.trans (Eq.symm (if_pos c34_3)) f19
                  have g22 := g19.1 c34_3
                  refine ⟨g22.1, ?_⟩
                  have g24 := g22.2
                  intro r46 e48
                  have g23 := g24 r46 e48
                  have f23 := Eq.trans (Eq.symm (zl1_eq e48)) f22
                  exact f23.symm
                · have f22 := Eq.trans (Eq.symm (if_neg c34_3)) f19
                  have g22 := g19.2 c34_3
                  refine ⟨fun c34_4 => ?_, fun c34_4 => ?_⟩
                  · have f25 := Eq.trans (Eq.symm (if_pos c34_4)) f22
                    have g25 := g22.1 c34_4
                    exact f25.symm
                  · have f25 := Eq.trans (Eq.symm (if_neg c34_4)) f22
                    have g25 := g22.2 c34_4
                    refine ⟨fun c34_5 => ?_, fun c34_5 => ?_⟩
                    · have f26 := Eq.trans (Eq.symm (if_pos c34_5)) f25
                      have g26 := g25.1 c34_5
                      exact f26.symm
                    · have f26 := Eq.trans (Eq.symm (if_neg c34_5)) f25
                      have g26 := g25.2 c34_5
                      refine ⟨fun c34_6 => ?_, fun c34_6 => ?_⟩
                      · have f27 := Eq.trans (Eq.symm (if_pos c34_6)) f26
                        have g27 := g26.1 c34_6
                        exact f27.symm
                      · have f27 := Eq.trans (Eq.symm (if_neg c34_6)) f26
                        have g27 := g26.2 c34_6
                        refine ⟨fun c34_7 => ?_, fun c34_7 => ?_⟩
                        · have f28 := Eq.trans (Eq.symm (if_pos c34_7)) f27
                          have g28 := g27.1 c34_7
                          exact f28.symm
                        · have f28 := Eq.trans (Eq.symm (if_neg c34_7)) f27
                          have g28 := g27.2 c34_7
                          exact f28.symm
        · have f16 := Eq.trans (Eq.symm (if_neg c32)) f3
          have g16 := g3.2 c32
          refine ⟨g16.1, fun j60 hj59 hlt_ => ?_⟩
          have g29 := g16.2 j60 hj59 hlt_
          have f29 := Eq.trans (Eq.symm (zl1_eq (zix_cl hj59 (Nat.lt_trans hlt_ (by decide : 3 < 2 ^ 31))))) f16
          exact f29.symm
    · have f2 := Eq.trans (Eq.symm (if_neg c3)) f1
      have g2 := g1.2 c3
      refine ⟨fun c64 => ?_, fun c64 => ?_⟩
      · have f30 := Eq.trans (Eq.symm (if_pos c64)) f2
        have g30 := g2.1 c64
        refine ⟨fun c66 => ?_, fun c66 => ?_⟩
        · have f31 := Eq.trans (Eq.symm (if_pos c66)) f30
          have g31 := g30.1 c66
          refine ⟨fun c68_0 => ?_, fun c68_0 => ?_⟩
          · have f32 := Eq.trans (Eq.symm (if_pos c68_0)) f31
            have g32 := g31.1 c68_0
            exact f32.symm
          · have f32 := Eq.trans (Eq.symm (if_neg c68_0)) f31
            have g32 := g31.2 c68_0
            refine ⟨fun c68_1 => ?_, fun c68_1 => ?_⟩
            · have f33 := Eq.trans (Eq.symm (if_pos c68_1)) f32
              have g33 := g32.1 c68_1
              exact f33.symm
            · have f33 := Eq.trans (Eq.symm (if_neg c68_1)) f32
              have g33 := g32.2 c68_1
              refine ⟨fun c68_2 => ?_, fun c68_2 => ?_⟩
              · have f34 := Eq.trans (Eq.symm (if_pos c68_2)) f33
                have g34 := g33.1 c68_2
                refine ⟨g34.1, ?_⟩
                have g36 := g34.2
                intro r74 e76
                have g35 := g36 r74 e76
                have f35 := Eq.trans (Eq.symm (zl1_eq e76)) f34
                exact f35.symm
              · have f34 := Eq.trans (Eq.symm (if_neg c68_2)) f33
                have g34 := g33.2 c68_2
                refine ⟨fun c68_3 => ?_, fun c68_3 => ?_⟩
                · have f37 := Eq.trans (Eq.symm (if_pos c68_3)) f34
                  have g37 := g34.1 c68_3
                  refine ⟨g37.1, ?_⟩
                  have g39 := g37.2
                  intro r80 e82
                  have g38 := g39 r80 e82
                  have f38 := Eq.trans (Eq.symm (zl1_eq e82)) f37
                  exact f38.symm
                · have f37 := Eq.trans (Eq.symm (if_neg c68_3)) f34
                  have g37 := g34.2 c68_3
                  refine ⟨fun c68_4 => ?_, fun c68_4 => ?_⟩
                  · have f40 := Eq.trans (Eq.symm (if_pos c68_4)) f37
                    have g40 := g37.1 c68_4
                    exact f40.symm
                  · have f40 := Eq.trans (Eq.symm (if_neg c68_4)) f37
                    have g40 := g37.2 c68_4
                    refine ⟨fun c68_5 => ?_, fun c68_5 => ?_⟩
                    · have f41 := Eq.trans (Eq.symm (if_pos c68_5)) f40
                      have g41 := g40.1 c68_5
                      exact f41.symm
                    · have f41 := Eq.trans (Eq.symm (if_neg c68_5)) f40
                      have g41 := g40.2 c68_5
                      refine ⟨fun c68_6 => ?_, fun c68_6 => ?_⟩
                      · have f42 := Eq.trans (Eq.symm (if_pos c68_6)) f41
                        have g42 := g41.1 c68_6
                        exact f42.symm
                      · have f42 := Eq.trans (Eq.symm (if_neg c68_6)) f41
                        have g42 := g41.2 c68_6
                        refine ⟨fun c68_7 => ?_, fun c68_7 => ?_⟩
                        · have f43 := Eq.trans (Eq.symm (if_pos c68_7)) f42
                          have g43 := g42.1 c68_7
                          exact f43.symm
                        · have f43 := Eq.trans (Eq.symm (if_neg c68_7)) f42
                          have g43 := g42.2 c68_7
                          exact f43.symm
        · have f31 := Eq.trans (Eq.symm (if_neg c66)) f30
          have g31 := g30.2 c66
          refine ⟨fun c93 => ?_, fun c93 => ?_⟩
          · have f44 := Eq.trans (Eq.symm (if_pos c93)) f31
            have g44 := g31.1 c93
            refine ⟨fun c95_0 => ?_, fun c95_0 => ?_⟩
            · have f45 := Eq.trans (Eq.symm (if_pos c95_0)) f44
              have g45 := g44.1 c95_0
              exact f45.symm
            · have f45 := Eq.trans (Eq.symm (if_neg c95_0)) f44
              have g45 := g44.2 c95_0
              refine ⟨fun c95_1 => ?_, fun c95_1 => ?_⟩
              · have f46 := Eq.trans (Eq.symm (if_pos c95_1)) f45
                have g46 := g45.1 c95_1
                exact f46.symm
              · have f46 := Eq.trans (Eq.symm (if_neg c95_1)) f45
                have g46 := g45.2 c95_1
                refine ⟨fun c95_2 => ?_, fun c95_2 => ?_⟩
                · have f47 := Eq.trans (Eq.symm (if_pos c95_2)) f46
                  have g47 := g46.1 c95_2
                  refine ⟨g47.1, ?_⟩
                  have g49 := g47.2
                  intro r101 e103
                  have g48 := g49 r101 e103
                  have f48 := Eq.trans (Eq.symm (zl1_eq e103)) f47
                  exact f48.symm
                · have f47 := Eq.trans (Eq.symm (if_neg c95_2)) f46
                  have g47 := g46.2 c95_2
                  refine ⟨fun c95_3 => ?_, fun c95_3 => ?_⟩
                  · have f50 := Eq.trans (Eq.symm (if_pos c95_3)) f47
                    have g50 := g47.1 c95_3
                    refine ⟨g50.1, ?_⟩
                    have g52 := g50.2
                    intro r107 e109
                    have g51 := g52 r107 e109
                    have f51 := Eq.trans (Eq.symm (zl1_eq e109)) f50
                    exact f51.symm
                  · have f50 := Eq.trans (Eq.symm (if_neg c95_3)) f47
                    have g50 := g47.2 c95_3
                    refine ⟨fun c95_4 => ?_, fun c95_4 => ?_⟩
                    · have f53 := Eq.trans (Eq.symm (if_pos c95_4)) f50
                      have g53 := g50.1 c95_4
                      exact f53.symm
                    · have f53 := Eq.trans (Eq.symm (if_neg c95_4)) f50
                      have g53 := g50.2 c95_4
                      refine ⟨fun c95_5 => ?_, fun c95_5 => ?_⟩
                      · have f54 := Eq.trans (Eq.symm (if_pos c95_5)) f53
                        have g54 := g53.1 c95_5
                        exact f54.symm
                      · have f54 := Eq.trans (Eq.symm (if_neg c95_5)) f53
                        have g54 := g53.2 c95_5
                        refine ⟨fun c95_6 => ?_, fun c95_6 => ?_⟩
                        · have f55 := Eq.trans (Eq.symm (if_pos c95_6)) f54
                          have g55 := g54.1 c95_6
                          exact f55.symm
                        · have f55 := Eq.trans (Eq.symm (if_neg c95_6)) f54
                          have g55 := g54.2 c95_6
                          refine ⟨fun c95_7 => ?_, fun c95_7 => ?_⟩
                          · have f56 := Eq.trans (Eq.symm (if_pos c95_7)) f55
                            have g56 := g55.1 c95_7
                            exact f56.symm
                          · have f56 := Eq.trans (Eq.symm (if_neg c95_7)) f55
                            have g56 := g55.2 c95_7
                            exact f56.symm
          · have f44 := Eq.trans (Eq.symm (if_neg c93)) f31
            have g44 := g31.2 c93
            refine ⟨g44.1, fun j121 hj120 hlt_ => ?_⟩
            have g57 := g44.2 j121 hj120 hlt_
            have f57 := Eq.trans (Eq.symm (zl1_eq (zix_cl hj120 (Nat.lt_trans hlt_ (by decide : 3 < 2 ^ 31))))) f44
            exact f57.symm
      · have f30 := Eq.trans (Eq.symm (if_neg c64)) f2
        have g30 := g2.2 c64
        refine ⟨g30.1, fun j126 hj125 hlt_ => ?_⟩
        have g58 := g30.2 j126 hj125 hlt_
        have f58 := Eq.trans (Eq.symm (zl1_eq (zix_cl hj125 (Nat.lt_trans hlt_ (by decide : 6 < 2 ^ 31))))) f30
        refine ⟨fun c145 => ?_, fun c145 => ?_⟩
        · have f59 := Eq.trans (Eq.symm (if_pos c145)) f58
          have g59 := g58.1 c145
          exact f59.symm
        · have f59 := Eq.trans (Eq.symm (if_neg c145)) f58
          have g59 := g58.2 c145
          exact f59.symm
  · have f1 := Eq.trans (Eq.symm (if_neg c1)) f0
    have g1 := hp.2 c1
    refine ⟨fun c147 => ?_, fun c147 => ?_⟩
    · have f60 := Eq.trans (Eq.symm (if_pos c147)) f1
      have g60 := g1.1 c147
      refine ⟨fun c149 => ?_, fun c149 => ?_⟩
      · have f61 := Eq.trans (Eq.symm (if_pos c149)) f60
        have g61 := g60.1 c149
        refine ⟨fun c151 => ?_, fun c151 => ?_⟩
        · have f62 := Eq.trans (Eq.symm (if_pos c151)) f61
          have g62 := g61.1 c151
          refine ⟨fun c153_0 => ?_, fun c153_0 => ?_⟩
          · have f63 := Eq.trans (Eq.symm (if_pos c153_0)) f62
            have g63 := g62.1 c153_0
            exact f63.symm
          · have f63 := Eq.trans (Eq.symm (if_neg c153_0)) f62
            have g63 := g62.2 c153_0
            refine ⟨fun c153_1 => ?_, fun c153_1 => ?_⟩
            · have f64 := Eq.trans (Eq.symm (if_pos c153_1)) f63
              have g64 := g63.1 c153_1
              exact f64.symm
            · have f64 := Eq.trans (Eq.symm (if_neg c153_1)) f63
              have g64 := g63.2 c153_1
              refine ⟨fun c153_2 => ?_, fun c153_2 => ?_⟩
              · have f65 := Eq.trans (Eq.symm (if_pos c153_2)) f64
                have g65 := g64.1 c153_2
                refine ⟨g65.1, ?_⟩
                have g67 := g65.2
                intro r159 e161
                have g66 := g67 r159 e161
                have f66 := Eq.trans (Eq.symm (zl1_eq e161)) f65
                exact f66.symm
              · have f65 := Eq.trans (Eq.symm (if_neg c153_2)) f64
                have g65 := g64.2 c153_2
                refine ⟨fun c153_3 => ?_, fun c153_3 => ?_⟩
                · have f68 := Eq.trans (Eq.symm (if_pos c153_3)) f65
                  have g68 := g65.1 c153_3
                  refine ⟨g68.1, ?_⟩
                  have g70 := g68.2
                  intro r165 e167
                  have g69 := g70 r165 e167
                  have f69 := Eq.trans (Eq.symm (zl1_eq e167)) f68
                  exact f69.symm
                · have f68 := Eq.trans (Eq.symm (if_neg c153_3)) f65
                  have g68 := g65.2 c153_3
                  refine ⟨fun c153_4 => ?_, fun c153_4 => ?_⟩
                  · have f71 := Eq.trans (Eq.symm (if_pos c153_4)) f68
                    have g71 := g68.1 c153_4
                    exact f71.symm
                  · have f71 := Eq.trans (Eq.symm (if_neg c153_4)) f68
                    have g71 := g68.2 c153_4
                    refine ⟨fun c153_5 => ?_, fun c153_5 => ?_⟩
                    · have f72 := Eq.trans (Eq.symm (if_pos c153_5)) f71
                      have g72 := g71.1 c153_5
                      exact f72.symm
                    · have f72 := Eq.trans (Eq.symm (if_neg c153_5)) f71
                      have g72 := g71.2 c153_5
                      refine ⟨fun c153_6 => ?_, fun c153_6 => ?_⟩
                      · have f73 := Eq.trans (Eq.symm (if_pos c153_6)) f72
                        have g73 := g72.1 c153_6
                        exact f73.symm
                      · have f73 := Eq.trans (Eq.symm (if_neg c153_6)) f72
                        have g73 := g72.2 c153_6
                        refine ⟨fun c153_7 => ?_, fun c153_7 => ?_⟩
                        · have f74 := Eq.trans (Eq.symm (if_pos c153_7)) f73
                          have g74 := g73.1 c153_7
                          exact f74.symm
                        · have f74 := Eq.trans (Eq.symm (if_neg c153_7)) f73
                          have g74 := g73.2 c153_7
                          exact f74.symm
        · have f62 := Eq.trans (Eq.symm (if_neg c151)) f61
          have g62 := g61.2 c151
          refine ⟨fun c178 => ?_, fun c178 => ?_⟩
          · have f75 := Eq.trans (Eq.symm (if_pos c178)) f62
            have g75 := g62.1 c178
            refine ⟨fun c180_0 => ?_, fun c180_0 => ?_⟩
            · have f76 := Eq.trans (Eq.symm (if_pos c180_0)) f75
              have g76 := g75.1 c180_0
              exact f76.symm
            · have f76 := Eq.trans (Eq.symm (if_neg c180_0)) f75
              have g76 := g75.2 c180_0
              refine ⟨fun c180_1 => ?_, fun c180_1 => ?_⟩
              · have f77 := Eq.trans (Eq.symm (if_pos c180_1)) f76
                have g77 := g76.1 c180_1
                exact f77.symm
              · have f77 := Eq.trans (Eq.symm (if_neg c180_1)) f76
                have g77 := g76.2 c180_1
                refine ⟨fun c180_2 => ?_, fun c180_2 => ?_⟩
                · have f78 := Eq.trans (Eq.symm (if_pos c180_2)) f77
                  have g78 := g77.1 c180_2
                  refine ⟨g78.1, ?_⟩
                  have g80 := g78.2
                  intro r186 e188
                  have g79 := g80 r186 e188
                  have f79 := Eq.trans (Eq.symm (zl1_eq e188)) f78
                  exact f79.symm
                · have f78 := Eq.trans (Eq.symm (if_neg c180_2)) f77
                  have g78 := g77.2 c180_2
                  refine ⟨fun c180_3 => ?_, fun c180_3 => ?_⟩
                  · have f81 := Eq.trans (Eq.symm (if_pos c180_3)) f78
                    have g81 := g78.1 c180_3
                    refine ⟨g81.1, ?_⟩
                    have g83 := g81.2
                    intro r192 e194
                    have g82 := g83 r192 e194
                    have f82 := Eq.trans (Eq.symm (zl1_eq e194)) f81
                    exact f82.symm
                  · have f81 := Eq.trans (Eq.symm (if_neg c180_3)) f78
                    have g81 := g78.2 c180_3
                    refine ⟨fun c180_4 => ?_, fun c180_4 => ?_⟩
                    · have f84 := Eq.trans (Eq.symm (if_pos c180_4)) f81
                      have g84 := g81.1 c180_4
                      exact f84.symm
                    · have f84 := Eq.trans (Eq.symm (if_neg c180_4)) f81
                      have g84 := g81.2 c180_4
                      refine ⟨fun c180_5 => ?_, fun c180_5 => ?_⟩
                      · have f85 := Eq.trans (Eq.symm (if_pos c180_5)) f84
                        have g85 := g84.1 c180_5
                        exact f85.symm
                      · have f85 := Eq.trans (Eq.symm (if_neg c180_5)) f84
                        have g85 := g84.2 c180_5
                        refine ⟨fun c180_6 => ?_, fun c180_6 => ?_⟩
                        · have f86 := Eq.trans (Eq.symm (if_pos c180_6)) f85
                          have g86 := g85.1 c180_6
                          exact f86.symm
                        · have f86 := Eq.trans (Eq.symm (if_neg c180_6)) f85
                          have g86 := g85.2 c180_6
                          refine ⟨fun c180_7 => ?_, fun c180_7 => ?_⟩
                          · have f87 := Eq.trans (Eq.symm (if_pos c180_7)) f86
                            have g87 := g86.1 c180_7
                            exact f87.symm
                          · have f87 := Eq.trans (Eq.symm (if_neg c180_7)) f86
                            have g87 := g86.2 c180_7
                            exact f87.symm
          · have f75 := Eq.trans (Eq.symm (if_neg c178)) f62
            have g75 := g62.2 c178
            refine ⟨g75.1, fun j206 hj205 hlt_ => ?_⟩
            have g88 := g75.2 j206 hj205 hlt_
            have f88 := Eq.trans (Eq.symm (zl1_eq (zix_cl hj205 (Nat.lt_trans hlt_ (by decide : 3 < 2 ^ 31))))) f75
            exact f88.symm
      · have f61 := Eq.trans (Eq.symm (if_neg c149)) f60
        have g61 := g60.2 c149
        refine ⟨fun c210 => ?_, fun c210 => ?_⟩
        · have f89 := Eq.trans (Eq.symm (if_pos c210)) f61
          have g89 := g61.1 c210
          refine ⟨fun c212 => ?_, fun c212 => ?_⟩
          · have f90 := Eq.trans (Eq.symm (if_pos c212)) f89
            have g90 := g89.1 c212
            refine ⟨fun c214_0 => ?_, fun c214_0 => ?_⟩
            · have f91 := Eq.trans (Eq.symm (if_pos c214_0)) f90
              have g91 := g90.1 c214_0
              exact f91.symm
            · have f91 := Eq.trans (Eq.symm (if_neg c214_0)) f90
              have g91 := g90.2 c214_0
              refine ⟨fun c214_1 => ?_, fun c214_1 => ?_⟩
              · have f92 := Eq.trans (Eq.symm (if_pos c214_1)) f91
                have g92 := g91.1 c214_1
                exact f92.symm
              · have f92 := Eq.trans (Eq.symm (if_neg c214_1)) f91
                have g92 := g91.2 c214_1
                refine ⟨fun c214_2 => ?_, fun c214_2 => ?_⟩
                · have f93 := Eq.trans (Eq.symm (if_pos c214_2)) f92
                  have g93 := g92.1 c214_2
                  refine ⟨g93.1, ?_⟩
                  have g95 := g93.2
                  intro r220 e222
                  have g94 := g95 r220 e222
                  have f94 := Eq.trans (Eq.symm (zl1_eq e222)) f93
                  exact f94.symm
                · have f93 := Eq.trans (Eq.symm (if_neg c214_2)) f92
                  have g93 := g92.2 c214_2
                  refine ⟨fun c214_3 => ?_, fun c214_3 => ?_⟩
                  · have f96 := Eq.trans (Eq.symm (if_pos c214_3)) f93
                    have g96 := g93.1 c214_3
                    refine ⟨g96.1, ?_⟩
                    have g98 := g96.2
                    intro r226 e228
                    have g97 := g98 r226 e228
                    have f97 := Eq.trans (Eq.symm (zl1_eq e228)) f96
                    exact f97.symm
                  · have f96 := Eq.trans (Eq.symm (if_neg c214_3)) f93
                    have g96 := g93.2 c214_3
                    refine ⟨fun c214_4 => ?_, fun c214_4 => ?_⟩
                    · have f99 := Eq.trans (Eq.symm (if_pos c214_4)) f96
                      have g99 := g96.1 c214_4
                      exact f99.symm
                    · have f99 := Eq.trans (Eq.symm (if_neg c214_4)) f96
                      have g99 := g96.2 c214_4
                      refine ⟨fun c214_5 => ?_, fun c214_5 => ?_⟩
                      · have f100 := Eq.trans (Eq.symm (if_pos c214_5)) f99
                        have g100 := g99.1 c214_5
                        exact f100.symm
                      · have f100 := Eq.trans (Eq.symm (if_neg c214_5)) f99
                        have g100 := g99.2 c214_5
                        refine ⟨fun c214_6 => ?_, fun c214_6 => ?_⟩
                        · have f101 := Eq.trans (Eq.symm (if_pos c214_6)) f100
                          have g101 := g100.1 c214_6
                          exact f101.symm
                        · have f101 := Eq.trans (Eq.symm (if_neg c214_6)) f100
                          have g101 := g100.2 c214_6
                          refine ⟨fun c214_7 => ?_, fun c214_7 => ?_⟩
                          · have f102 := Eq.trans (Eq.symm (if_pos c214_7)) f101
                            have g102 := g101.1 c214_7
                            exact f102.symm
                          · have f102 := Eq.trans (Eq.symm (if_neg c214_7)) f101
                            have g102 := g101.2 c214_7
                            exact f102.symm
          · have f90 := Eq.trans (Eq.symm (if_neg c212)) f89
            have g90 := g89.2 c212
            refine ⟨fun c239 => ?_, fun c239 => ?_⟩
            · have f103 := Eq.trans (Eq.symm (if_pos c239)) f90
              have g103 := g90.1 c239
              refine ⟨fun c241_0 => ?_, fun c241_0 => ?_⟩
              · have f104 := Eq.trans (Eq.symm (if_pos c241_0)) f103
                have g104 := g103.1 c241_0
                exact f104.symm
              · have f104 := Eq.trans (Eq.symm (if_neg c241_0)) f103
                have g104 := g103.2 c241_0
                refine ⟨fun c241_1 => ?_, fun c241_1 => ?_⟩
                · have f105 := Eq.trans (Eq.symm (if_pos c241_1)) f104
                  have g105 := g104.1 c241_1
                  exact f105.symm
                · have f105 := Eq.trans (Eq.symm (if_neg c241_1)) f104
                  have g105 := g104.2 c241_1
                  refine ⟨fun c241_2 => ?_, fun c241_2 => ?_⟩
                  · have f106 := Eq.trans (Eq.symm (if_pos c241_2)) f105
                    have g106 := g105.1 c241_2
                    refine ⟨g106.1, ?_⟩
                    have g108 := g106.2
                    intro r247 e249
                    have g107 := g108 r247 e249
                    have f107 := Eq.trans (Eq.symm (zl1_eq e249)) f106
                    exact f107.symm
                  · have f106 := Eq.trans (Eq.symm (if_neg c241_2)) f105
                    have g106 := g105.2 c241_2
                    refine ⟨fun c241_3 => ?_, fun c241_3 => ?_⟩
                    · have f109 := Eq.trans (Eq.symm (if_pos c241_3)) f106
                      have g109 := g106.1 c241_3
                      refine ⟨g109.1, ?_⟩
                      have g111 := g109.2
                      intro r253 e255
                      have g110 := g111 r253 e255
                      have f110 := Eq.trans (Eq.symm (zl1_eq e255)) f109
                      exact f110.symm
                    · have f109 := Eq.trans (Eq.symm (if_neg c241_3)) f106
                      have g109 := g106.2 c241_3
                      refine ⟨fun c241_4 => ?_, fun c241_4 => ?_⟩
                      · have f112 := Eq.trans (Eq.symm (if_pos c241_4)) f109
                        have g112 := g109.1 c241_4
                        exact f112.symm
                      · have f112 := Eq.trans (Eq.symm (if_neg c241_4)) f109
                        have g112 := g109.2 c241_4
                        refine ⟨fun c241_5 => ?_, fun c241_5 => ?_⟩
                        · have f113 := Eq.trans (Eq.symm (if_pos c241_5)) f112
                          have g113 := g112.1 c241_5
                          exact f113.symm
                        · have f113 := Eq.trans (Eq.symm (if_neg c241_5)) f112
                          have g113 := g112.2 c241_5
                          refine ⟨fun c241_6 => ?_, fun c241_6 => ?_⟩
                          · have f114 := Eq.trans (Eq.symm (if_pos c241_6)) f113
                            have g114 := g113.1 c241_6
                            exact f114.symm
                          · have f114 := Eq.trans (Eq.symm (if_neg c241_6)) f113
                            have g114 := g113.2 c241_6
                            refine ⟨fun c241_7 => ?_, fun c241_7 => ?_⟩
                            · have f115 := Eq.trans (Eq.symm (if_pos c241_7)) f114
                              have g115 := g114.1 c241_7
                              exact f115.symm
                            · have f115 := Eq.trans (Eq.symm (if_neg c241_7)) f114
                              have g115 := g114.2 c241_7
                              exact f115.symm
            · have f103 := Eq.trans (Eq.symm (if_neg c239)) f90
              have g103 := g90.2 c239
              refine ⟨g103.1, fun j267 hj266 hlt_ => ?_⟩
              have g116 := g103.2 j267 hj266 hlt_
              have f116 := Eq.trans (Eq.symm (zl1_eq (zix_cl hj266 (Nat.lt_trans hlt_ (by decide : 3 < 2 ^ 31))))) f103
              exact f116.symm
        · have f89 := Eq.trans (Eq.symm (if_neg c210)) f61
          have g89 := g61.2 c210
          refine ⟨g89.1, fun j272 hj271 hlt_ => ?_⟩
          have g117 := g89.2 j272 hj271 hlt_
          have f117 := Eq.trans (Eq.symm (zl1_eq (zix_cl hj271 (Nat.lt_trans hlt_ (by decide : 6 < 2 ^ 31))))) f89
          refine ⟨fun c291 => ?_, fun c291 => ?_⟩
          · have f118 := Eq.trans (Eq.symm (if_pos c291)) f117
            have g118 := g117.1 c291
            exact f118.symm
          · have f118 := Eq.trans (Eq.symm (if_neg c291)) f117
            have g118 := g117.2 c291
            exact f118.symm
    · have f60 := Eq.trans (Eq.symm (if_neg c147)) f1
      have g60 := g1.2 c147
      refine ⟨g60.1, fun j294 hj293 hlt_ => ?_⟩
      have g119 := g60.2 j294 hj293 hlt_
      have f119 := Eq.trans (Eq.symm (zl1_eq (zix_cl hj293 (Nat.lt_trans hlt_ (by decide : 6 < 2 ^ 31))))) f60
      refine ⟨fun c313 => ?_, fun c313 => ?_⟩
      · have f120 := Eq.trans (Eq.symm (if_pos c313)) f119
        have g120 := g119.1 c313
        exact f120.symm
      · have f120 := Eq.trans (Eq.symm (if_neg c313)) f119
        have g120 := g119.2 c313
        exact f120.symm
theorem c_Tr_count (l : Launch) (D : va_G) (K : Nat → ClassId) (q_t : Nat) (q_t_text : Nat) (q_t_rules : Nat) (q_t_runner : Nat) (q_t_rules_e : Nat → Nat) (q_t_rules_e_steps : Nat → Nat) (q_t_runner_stack : Nat) (q_t_runner_variables : Nat) (q_t_runner_gatherers : Nat) (q_t_runner_records : Nat) (q_t_text_characters : Nat) (q_t_text_draft : Nat) (q_t_runner_gatherers_e : Nat → Nat) (q_t_runner_gatherers_e_keys : Nat → Nat) (q_t_runner_gatherers_e_least : Nat → Nat) (q_t_runner_gatherers_e_greatest : Nat → Nat) (q_t_runner_gatherers_e_sums : Nat → Nat) (q_t_runner_gatherers_e_values : Nat → Nat) (q_t_runner_gatherers_e_bins : Nat → Nat) (q_t_runner_records_ring : Nat) (t_place : Int32) (t_firings : Int32) (t_rules_e_length : Nat → Int32) (t_rules_e_actions : Nat → Int32) (t_rules_e_site : Nat → Int32) (t_rules_e_exit : Nat → Int32) (t_rules_e_conditional : Nat → Int32) (t_rules_e_there : Nat → Int32) (t_rules_e_on : Nat → Int32) (t_rules_e_failures : Nat → Int32) (t_rules_e_meetings : Nat → Int32) (t_runner_time : Int32) (t_runner_dropped : Int32) (t_runner_thread : Int32) (t_runner_handedA : UInt64) (t_runner_handedB : UInt64) (t_runner_handedC : UInt64) (t_runner_top : Int32) (t_runner_over : Int32) (t_runner_failed : Int32) (t_runner_met : Int32) (t_text_length : Int32) (t_text_at : Int32) (t_runner_gatherers_e_size : Nat → Int32) (t_runner_records_oldest : Int32) (t_runner_records_size : Int32) (t_runner_records_lost : Int32) (x1 : Int32) (hp : p_Tr_count t_place t_firings t_rules_e_there t_rules_e_on t_rules_e_failures t_rules_e_meetings t_runner_dropped t_text_length t_runner_gatherers_e_size t_runner_records_size t_runner_records_lost x1) : zCi l y_Tr_count wy_Tr_count rm_Tr_count D zcl (zT K) [.ref q_t, .int x1] (w_Tr_count K q_t q_t_text q_t_rules q_t_runner q_t_rules_e q_t_rules_e_steps q_t_runner_stack q_t_runner_variables q_t_runner_gatherers q_t_runner_records q_t_text_characters q_t_text_draft q_t_runner_gatherers_e q_t_runner_gatherers_e_keys q_t_runner_gatherers_e_least q_t_runner_gatherers_e_greatest q_t_runner_gatherers_e_sums q_t_runner_gatherers_e_values q_t_runner_gatherers_e_bins q_t_runner_records_ring t_place t_firings t_rules_e_length t_rules_e_actions t_rules_e_site t_rules_e_exit t_rules_e_conditional t_rules_e_there t_rules_e_on t_rules_e_failures t_rules_e_meetings t_runner_time t_runner_dropped t_runner_thread t_runner_handedA t_runner_handedB t_runner_handedC t_runner_top t_runner_over t_runner_failed t_runner_met t_text_length t_text_at t_runner_gatherers_e_size t_runner_records_oldest t_runner_records_size t_runner_records_lost ()) (w_Tr_count K q_t q_t_text q_t_rules q_t_runner q_t_rules_e q_t_rules_e_steps q_t_runner_stack q_t_runner_variables q_t_runner_gatherers q_t_runner_records q_t_text_characters q_t_text_draft q_t_runner_gatherers_e q_t_runner_gatherers_e_keys q_t_runner_gatherers_e_least q_t_runner_gatherers_e_greatest q_t_runner_gatherers_e_sums q_t_runner_gatherers_e_values q_t_runner_gatherers_e_bins q_t_runner_records_ring t_place t_firings t_rules_e_length t_rules_e_actions t_rules_e_site t_rules_e_exit t_rules_e_conditional t_rules_e_there t_rules_e_on t_rules_e_failures t_rules_e_meetings t_runner_time t_runner_dropped t_runner_thread t_runner_handedA t_runner_handedB t_runner_handedC t_runner_top t_runner_over t_runner_failed t_runner_met t_text_length t_text_at t_runner_gatherers_e_size t_runner_records_oldest t_runner_records_size t_runner_records_lost) (fun r u => s_Tr_count t_place t_firings t_rules_e_there t_rules_e_on t_rules_e_failures t_rules_e_meetings t_runner_dropped t_text_length t_runner_gatherers_e_size t_runner_records_size t_runner_records_lost x1 = r) 0 0 := cw_Tr_count l D K q_t q_t_text q_t_rules q_t_runner q_t_rules_e q_t_rules_e_steps q_t_runner_stack q_t_runner_variables q_t_runner_gatherers q_t_runner_records q_t_text_characters q_t_text_draft q_t_runner_gatherers_e q_t_runner_gatherers_e_keys q_t_runner_gatherers_e_least q_t_runner_gatherers_e_greatest q_t_runner_gatherers_e_sums q_t_runner_gatherers_e_values q_t_runner_gatherers_e_bins q_t_runner_records_ring t_place t_firings t_rules_e_length t_rules_e_actions t_rules_e_site t_rules_e_exit t_rules_e_conditional t_rules_e_there t_rules_e_on t_rules_e_failures t_rules_e_meetings t_runner_time t_runner_dropped t_runner_thread t_runner_handedA t_runner_handedB t_runner_handedC t_runner_top t_runner_over t_runner_failed t_runner_met t_text_length t_text_at t_runner_gatherers_e_size t_runner_records_oldest t_runner_records_size t_runner_records_lost x1 (v_Tr_count t_place t_firings t_rules_e_there t_rules_e_on t_rules_e_failures t_rules_e_meetings t_runner_dropped t_text_length t_runner_gatherers_e_size t_runner_records_size t_runner_records_lost x1 hp)
