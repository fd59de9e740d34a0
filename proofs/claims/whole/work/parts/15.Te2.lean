abbrev zRD : Type := Nat → Int32 → Int32 → (Nat → Int32) → Int32 → (Nat → Int32) → Int32 → Int32 → (Int32 × Int32 × Int32 × (Nat → Int32))
abbrev zRP : Type := Nat → Int32 → Int32 → (Nat → Int32) → Int32 → (Nat → Int32) → Int32 → Int32 → Prop
abbrev zRm (n : Nat) : Room := { frames := n + 4, cells := 0, slots := 0, locals := 30 * n + 200 }
abbrev w_Te_rd (K : Nat → ClassId) (q_t : Nat) (q_t_characters : Nat) (q_t_draft : Nat) (q_t_draft_steps : Nat) (t_length : Int32) (t_characters : Nat → Int32) (t_draft_actions : Int32) (t_draft_site : Int32) (t_draft_exit : Int32) (t_draft_conditional : Int32) (t_draft_there : Int32) (t_draft_on : Int32) (t_draft_failures : Int32) (t_draft_meetings : Int32) (u : Int32 × Int32 × (Nat → Int32)) : va_W := [zo 3 q_t [.ref q_t_characters, .ref q_t_draft, .int t_length, .int u.1], zaC K q_t_characters 48 t_characters, zo 2 q_t_draft [.ref q_t_draft_steps, .int u.2.1, .int t_draft_actions, .int t_draft_site, .int t_draft_exit, .int t_draft_conditional, .int t_draft_there, .int t_draft_on, .int t_draft_failures, .int t_draft_meetings], zaI K q_t_draft_steps 48 u.2.2]
-- RuleTracer$RuleText.readLevel(II)Z: reads ['t.length', 't.at', 't.characters', 't.draft.length', 't.draft.steps'], changes ['t.at', 't.draft.length', 't.draft.steps']
abbrev w_Te_readLevel (K : Nat → ClassId) (q_t : Nat) (q_t_characters : Nat) (q_t_draft : Nat) (q_t_draft_steps : Nat) (t_length : Int32) (t_characters : Nat → Int32) (t_draft_actions : Int32) (t_draft_site : Int32) (t_draft_exit : Int32) (t_draft_conditional : Int32) (t_draft_there : Int32) (t_draft_on : Int32) (t_draft_failures : Int32) (t_draft_meetings : Int32) (u : Int32 × Int32 × (Nat → Int32)) : va_W := [zo 3 q_t [.ref q_t_characters, .ref q_t_draft, .int t_length, .int u.1], zaC K q_t_characters 48 t_characters, zo 2 q_t_draft [.ref q_t_draft_steps, .int u.2.1, .int t_draft_actions, .int t_draft_site, .int t_draft_exit, .int t_draft_conditional, .int t_draft_there, .int t_draft_on, .int t_draft_failures, .int t_draft_meetings], zaI K q_t_draft_steps 48 u.2.2]
abbrev wy_Te_readLevel : List Cond := .code y_Te_readLevel b_Te_readLevel 6 (some .boolean) :: zWT
def WP_Te_readLevel_L38 (rd : zRD) (prd : zRP) : Nat → Int32 → Int32 → Int32 → Int32 → Int32 → Int32 → (Nat → Int32) → Int32 → (Nat → Int32) → (Int32 → (Int32 × Int32 × (Nat → Int32)) → Prop) → Prop
  | 0, _, _, _, _, _, _, _, _, _, _ => False
  | n + 1, y1, y2, y3, y4, t_length, t_at, t_characters, t_draft_length, t_draft_steps, Q => ((y3 ≤ y4) → Q (1 : Int32) (t_at, t_draft_length, t_draft_steps)) ∧ ((¬ y3 ≤ y4) → p_Te_next t_length t_at t_characters ∧ (∀ (r23 : Int32), s_Te_next t_length t_at t_characters = r23 → (∀ (r27 : Int32), s_Te_levelOf r23 = r27 → ((¬ r27 = y1) → Q (1 : Int32) (t_at, t_draft_length, t_draft_steps)) ∧ ((r27 = y1) → p_Te_next t_length t_at t_characters ∧ (∀ (r33 : Int32), s_Te_next t_length t_at t_characters = r33 → prd 0 t_length (t_at + (1 : Int32)) t_characters t_draft_length t_draft_steps (y1 + (1 : Int32)) y2 ∧ (∀ (r37 : Int32) (m40 : Int32) (m41 : Int32) (m42 : Nat → Int32), rd 0 t_length (t_at + (1 : Int32)) t_characters t_draft_length t_draft_steps (y1 + (1 : Int32)) y2 = (r37, m40, m41, m42) → ((¬ r37 = 0) → p_Ru_add m41 m42 r23 ∧ (∀ (m49 : Int32) (m50 : Nat → Int32), s_Ru_add m41 m42 r23 = (m49, m50) → WP_Te_readLevel_L38 rd prd n y1 y2 y3 (y4 + (1 : Int32)) t_length m40 t_characters m49 m50 Q)) ∧ ((r37 = 0) → Q (0 : Int32) (m40, m41, m42))))))))
def WP_Te_readLevel (rd : zRD) (prd : zRP) (t_length : Int32) (t_at : Int32) (t_characters : Nat → Int32) (t_draft_length : Int32) (t_draft_steps : Nat → Int32) (x1 : Int32) (x2 : Int32) (Q : Int32 → (Int32 × Int32 × (Nat → Int32)) → Prop) : Prop := ((x1 ≤ (2 : Int32)) → prd 0 t_length t_at t_characters t_draft_length t_draft_steps (x1 + (1 : Int32)) x2 ∧ (∀ (r3 : Int32) (m6 : Int32) (m7 : Int32) (m8 : Nat → Int32), rd 0 t_length t_at t_characters t_draft_length t_draft_steps (x1 + (1 : Int32)) x2 = (r3, m6, m7, m8) → ((¬ r3 = 0) → ((¬ x1 = 0) → WP_Te_readLevel_L38 rd prd 600 x1 x2 (48 : Int32) (0 : Int32) t_length m6 t_characters m7 m8 Q) ∧ ((x1 = 0) → WP_Te_readLevel_L38 rd prd 600 x1 x2 (1 : Int32) (0 : Int32) t_length m6 t_characters m7 m8 Q)) ∧ ((r3 = 0) → Q (0 : Int32) (m6, m7, m8)))) ∧ ((¬ x1 ≤ (2 : Int32)) → prd 1 t_length t_at t_characters t_draft_length t_draft_steps x2 (0 : Int32) ∧ (∀ (r14 : Int32) (m17 : Int32) (m18 : Int32) (m19 : Nat → Int32), rd 1 t_length t_at t_characters t_draft_length t_draft_steps x2 (0 : Int32) = (r14, m17, m18, m19) → (zb r14 ∧ Q r14 (m17, m18, m19))))
set_option maxHeartbeats 4000000 in
set_option maxRecDepth 100000 in
theorem lw_Te_readLevel_L38 {p : Program} {e : Env} {s : State} {m : MethodId} {args : Array Value} {below : List Frame} {meth : Method} {c : Code} {A : Nat → Prop} (l : Launch) (D : va_G) (K : Nat → ClassId) (q_t : Nat) (q_t_characters : Nat) (q_t_draft : Nat) (q_t_draft_steps : Nat) (t_length : Int32) (t_characters : Nat → Int32) (t_draft_actions : Int32) (t_draft_site : Int32) (t_draft_exit : Int32) (t_draft_conditional : Int32) (t_draft_there : Int32) (t_draft_on : Int32) (t_draft_failures : Int32) (t_draft_meetings : Int32) {Q : Int32 → (Int32 × Int32 × (Nat → Int32)) → Prop} (nn : Nat) (rd : zRD) (prd : zRP) (hrec0 : ∀ (t_length : Int32) (t_at : Int32) (t_characters : Nat → Int32) (t_draft_length : Int32) (t_draft_actions : Int32) (t_draft_site : Int32) (t_draft_exit : Int32) (t_draft_conditional : Int32) (t_draft_there : Int32) (t_draft_on : Int32) (t_draft_failures : Int32) (t_draft_meetings : Int32) (t_draft_steps : Nat → Int32) (a b : Int32), prd 0 t_length t_at t_characters t_draft_length t_draft_steps a b → zCi l y_Te_readLevel (.code y_Te_readLevel b_Te_readLevel 6 (some .boolean) :: zWT) (zRm nn) D zcl (zT K) [.ref q_t, .int a, .int b] (w_Te_rd K q_t q_t_characters q_t_draft q_t_draft_steps t_length t_characters t_draft_actions t_draft_site t_draft_exit t_draft_conditional t_draft_there t_draft_on t_draft_failures t_draft_meetings (t_at, t_draft_length, t_draft_steps)) (w_Te_rd K q_t q_t_characters q_t_draft q_t_draft_steps t_length t_characters t_draft_actions t_draft_site t_draft_exit t_draft_conditional t_draft_there t_draft_on t_draft_failures t_draft_meetings) (fun r u => rd 0 t_length t_at t_characters t_draft_length t_draft_steps a b = (r, u.1, u.2.1, u.2.2)) 0 0) (hrec1 : ∀ (t_length : Int32) (t_at : Int32) (t_characters : Nat → Int32) (t_draft_length : Int32) (t_draft_actions : Int32) (t_draft_site : Int32) (t_draft_exit : Int32) (t_draft_conditional : Int32) (t_draft_there : Int32) (t_draft_on : Int32) (t_draft_failures : Int32) (t_draft_meetings : Int32) (t_draft_steps : Nat → Int32) (a : Int32), prd 1 t_length t_at t_characters t_draft_length t_draft_steps a (0 : Int32) → zCi l y_Te_readUnit (.code y_Te_readUnit b_Te_readUnit 3 (some .boolean) :: zWT) (zRm nn) D zcl (zT K) [.ref q_t, .int a] (w_Te_rd K q_t q_t_characters q_t_draft q_t_draft_steps t_length t_characters t_draft_actions t_draft_site t_draft_exit t_draft_conditional t_draft_there t_draft_on t_draft_failures t_draft_meetings (t_at, t_draft_length, t_draft_steps)) (w_Te_rd K q_t q_t_characters q_t_draft q_t_draft_steps t_length t_characters t_draft_actions t_draft_site t_draft_exit t_draft_conditional t_draft_there t_draft_on t_draft_failures t_draft_meetings) (fun r u => rd 1 t_length t_at t_characters t_draft_length t_draft_steps a (0 : Int32) = (r, u.1, u.2.1, u.2.2)) 0 0) (C : zCx p s m args c b_Te_readLevel 6 R_Te zWT D zcl (zT K) A) (hr : meth.sig.returnType = (some .boolean)) (hlk : meth.locks = false) : ∀ (n : Nat) (y1 : Int32) (y2 : Int32) (y3 : Int32) (y4 : Int32) (t_at : Int32) (t_draft_length : Int32) (t_draft_steps : Nat → Int32), WP_Te_readLevel_L38 rd prd n y1 y2 y3 y4 t_length t_at t_characters t_draft_length t_draft_steps Q → zW p l e (headSpec wy_Te_readLevel (zRm (nn + 1))).room s m args below meth c D zcl A 6 0 0 (MQ below (va_Qi Q (zB D zcl (zT K) (w_Te_readLevel K q_t q_t_characters q_t_draft q_t_draft_steps t_length t_characters t_draft_actions t_draft_site t_draft_exit t_draft_conditional t_draft_there t_draft_on t_draft_failures t_draft_meetings) A) A) args s 0 0 A) [(0, .ref q_t), (1, .int y1), (2, .int y2), (3, .int y3), (4, .int y4)] [zo 3 q_t [.ref q_t_characters, .ref q_t_draft, .int t_length, .int t_at], zaC K q_t_characters 48 t_characters, zo 2 q_t_draft [.ref q_t_draft_steps, .int t_draft_length, .int t_draft_actions, .int t_draft_site, .int t_draft_exit, .int t_draft_conditional, .int t_draft_there, .int t_draft_on, .int t_draft_failures, .int t_draft_meetings], zaI K q_t_draft_steps 48 t_draft_steps] 38 [] := by
  intro n
  induction n with
  | zero => intros; contradiction
  | succ n ih =>
    intro y1 y2 y3 y4 t_at t_draft_length t_draft_steps hS0
    refine z_iload C d_Te_readLevel_38 4 rfl ?_
    refine z_iload_n C d_Te_readLevel_40 rfl 3 rfl ?_
    refine z_icmp_ge (tgt := 99) C d_Te_readLevel_41 (by decide) (fun c21 => ?_) (fun c21 => ?_)
    · have hS22 := hS0.1 c21
      refine z_iconst (v := (1 : Int32)) C d_Te_readLevel_99 (by decide) ?_
      exact z_zret C hr rfl hlk (t_at, t_draft_length, t_draft_steps) rfl hS22 d_Te_readLevel_100
    · have hS22 := hS0.2 c21
      refine z_aload_n C d_Te_readLevel_44 rfl 0 rfl ?_
      refine z_callVi (As := []) (b := q_t) (st := []) (wr := [zo 2 q_t_draft [.ref q_t_draft_steps, .int t_draft_length, .int t_draft_actions, .int t_draft_site, .int t_draft_exit, .int t_draft_conditional, .int t_draft_there, .int t_draft_on, .int t_draft_failures, .int t_draft_meetings], zaI K q_t_draft_steps 48 t_draft_steps]) (wj := fun u => [zo 3 q_t [.ref q_t_characters, .ref q_t_draft, .int t_length, .int t_at], zaC K q_t_characters 48 t_characters, zo 2 q_t_draft [.ref q_t_draft_steps, .int t_draft_length, .int t_draft_actions, .int t_draft_site, .int t_draft_exit, .int t_draft_conditional, .int t_draft_there, .int t_draft_on, .int t_draft_failures, .int t_draft_meetings], zaI K q_t_draft_steps 48 t_draft_steps]) C 0 rfl rfl (c_Te_next l D K q_t q_t_characters q_t_draft t_length t_at t_characters hS22.1) (cwV 0 C.2.2.2.2.1 (z_gV wl_Te_50 wi_Te_next wv_Te_next wz_Te wk_Te_next) rfl rfl rfl (by decide +kernel) ⟨by show 0 + 1 ≤ nn + 1 + 4; omega, by show 8 + (1 + 11) + (0) ≤ 30 * (nn + 1) + 200; omega⟩) [0, 1] [2, 3] [2, 3, 0, 1] rfl rfl rfl rfl (by decide) (fun _ => rfl) rfl rfl rfl (Nat.le_of_ble_eq_true rfl) d_Te_readLevel_45 ⟨Nat.le_of_ble_eq_true rfl, Nat.le_of_ble_eq_true rfl⟩ (fun r23 u24 e25 => ?_)
      have hS26 := hS22.2 r23 e25
      refine z_callSi (As := [.int r23]) (st := []) (wr := [zo 3 q_t [.ref q_t_characters, .ref q_t_draft, .int t_length, .int t_at], zaC K q_t_characters 48 t_characters, zo 2 q_t_draft [.ref q_t_draft_steps, .int t_draft_length, .int t_draft_actions, .int t_draft_site, .int t_draft_exit, .int t_draft_conditional, .int t_draft_there, .int t_draft_on, .int t_draft_failures, .int t_draft_meetings], zaI K q_t_draft_steps 48 t_draft_steps]) (wj := fun u => [zo 3 q_t [.ref q_t_characters, .ref q_t_draft, .int t_length, .int t_at], zaC K q_t_characters 48 t_characters, zo 2 q_t_draft [.ref q_t_draft_steps, .int t_draft_length, .int t_draft_actions, .int t_draft_site, .int t_draft_exit, .int t_draft_conditional, .int t_draft_there, .int t_draft_on, .int t_draft_failures, .int t_draft_meetings], zaI K q_t_draft_steps 48 t_draft_steps]) C (c_Te_levelOf l D K r23) (cwS 1 C.2.2.2.2.1 (z_gS wl_Te_82 ws_Te_levelOf wz_Te wk_Te_levelOf) rfl rfl rfl (by decide +kernel) ⟨by show 0 + 1 ≤ nn + 1 + 4; omega, by show 8 + (1 + 11) + (0) ≤ 30 * (nn + 1) + 200; omega⟩) [] [0, 1, 2, 3] [0, 1, 2, 3] rfl rfl rfl rfl (by decide) (fun _ => rfl) rfl rfl rfl (Nat.le_of_ble_eq_true rfl) d_Te_readLevel_48 ⟨Nat.le_of_ble_eq_true rfl, Nat.le_of_ble_eq_true rfl⟩ (fun r27 u28 e29 => ?_)
      have hS30 := hS26 r27 e29
      refine z_iload_n C d_Te_readLevel_51 rfl 1 rfl ?_
      refine z_icmp_ne (tgt := 99) C d_Te_readLevel_52 (by decide) (fun c31 => ?_) (fun c31 => ?_)
      · have hS32 := hS30.1 c31
        refine z_iconst (v := (1 : Int32)) C d_Te_readLevel_99 (by decide) ?_
        exact z_zret C hr rfl hlk (t_at, t_draft_length, t_draft_steps) rfl hS32 d_Te_readLevel_100
      · have hS32 := hS30.2 c31
        refine z_aload_n C d_Te_readLevel_55 rfl 0 rfl ?_
        refine z_callVi (As := []) (b := q_t) (st := []) (wr := [zo 2 q_t_draft [.ref q_t_draft_steps, .int t_draft_length, .int t_draft_actions, .int t_draft_site, .int t_draft_exit, .int t_draft_conditional, .int t_draft_there, .int t_draft_on, .int t_draft_failures, .int t_draft_meetings], zaI K q_t_draft_steps 48 t_draft_steps]) (wj := fun u => [zo 3 q_t [.ref q_t_characters, .ref q_t_draft, .int t_length, .int t_at], zaC K q_t_characters 48 t_characters, zo 2 q_t_draft [.ref q_t_draft_steps, .int t_draft_length, .int t_draft_actions, .int t_draft_site, .int t_draft_exit, .int t_draft_conditional, .int t_draft_there, .int t_draft_on, .int t_draft_failures, .int t_draft_meetings], zaI K q_t_draft_steps 48 t_draft_steps]) C 0 rfl rfl (c_Te_next l D K q_t q_t_characters q_t_draft t_length t_at t_characters hS32.1) (cwV 0 C.2.2.2.2.1 (z_gV wl_Te_50 wi_Te_next wv_Te_next wz_Te wk_Te_next) rfl rfl rfl (by decide +kernel) ⟨by show 0 + 1 ≤ nn + 1 + 4; omega, by show 8 + (1 + 11) + (0) ≤ 30 * (nn + 1) + 200; omega⟩) [0, 1] [2, 3] [2, 3, 0, 1] rfl rfl rfl rfl (by decide) (fun _ => rfl) rfl rfl rfl (Nat.le_of_ble_eq_true rfl) d_Te_readLevel_56 ⟨Nat.le_of_ble_eq_true rfl, Nat.le_of_ble_eq_true rfl⟩ (fun r33 u34 e35 => ?_)
        have hS36 := hS32.2 r33 e35
        obtain rfl : r23 = r33 := e25.symm.trans e35
        refine z_istore (lv' := [(5, .int r23), (0, .ref q_t), (1, .int y1), (2, .int y2), (3, .int y3), (4, .int y4)]) C d_Te_readLevel_59 (by decide) rfl ?_
        refine z_aload_n C d_Te_readLevel_61 rfl 1 rfl ?_
        refine z_dup C d_Te_readLevel_62 rfl ?_
        refine z_get C 0 rfl rfl in_Te 3 (by decide) rfl wf_Te_26 rfl d_Te_readLevel_63 ?_
        refine z_iconst (v := (1 : Int32)) C d_Te_readLevel_66 (by decide) ?_
        refine z_iadd C d_Te_readLevel_67 ?_
        refine z_put (ty := .int) (ws' := [zo 3 q_t [.ref q_t_characters, .ref q_t_draft, .int t_length, .int (t_at + (1 : Int32))], zaC K q_t_characters 48 t_characters, zo 2 q_t_draft [.ref q_t_draft_steps, .int t_draft_length, .int t_draft_actions, .int t_draft_site, .int t_draft_exit, .int t_draft_conditional, .int t_draft_there, .int t_draft_on, .int t_draft_failures, .int t_draft_meetings], zaI K q_t_draft_steps 48 t_draft_steps]) C ty_Te to_Te nm_Te 0 rfl rfl in_Te 3 (by decide) rfl wf_Te_26 rfl rfl rfl rfl (Nat.le_of_ble_eq_true rfl) rfl d_Te_readLevel_68 ?_
        refine z_aload_n C d_Te_readLevel_71 rfl 1 rfl ?_
        refine z_iload_n C d_Te_readLevel_72 rfl 2 rfl ?_
        refine z_iconst (v := (1 : Int32)) C d_Te_readLevel_73 (by decide) ?_
        refine z_iadd C d_Te_readLevel_74 ?_
        refine z_iload_n C d_Te_readLevel_75 rfl 3 rfl ?_
        refine z_callVi (As := [.int (y1 + (1 : Int32)), .int y2]) (b := q_t) (st := []) (wr := []) (wj := fun u => [zo 3 q_t [.ref q_t_characters, .ref q_t_draft, .int t_length, .int u.1], zaC K q_t_characters 48 t_characters, zo 2 q_t_draft [.ref q_t_draft_steps, .int u.2.1, .int t_draft_actions, .int t_draft_site, .int t_draft_exit, .int t_draft_conditional, .int t_draft_there, .int t_draft_on, .int t_draft_failures, .int t_draft_meetings], zaI K q_t_draft_steps 48 u.2.2]) C 0 rfl rfl (hrec0 t_length (t_at + (1 : Int32)) t_characters t_draft_length t_draft_actions t_draft_site t_draft_exit t_draft_conditional t_draft_there t_draft_on t_draft_failures t_draft_meetings t_draft_steps (y1 + (1 : Int32)) y2 hS36.1) (cwV 2 C.2.2.2.2.1 (z_gV wl_Te_65 wi_Te_readLevel wv_Te_readLevel wz_Te wk_Te_readLevel) rfl rfl rfl (by decide +kernel) ⟨by show nn + 4 + 1 ≤ nn + 1 + 4; omega, by show 8 + (6 + 11) + (30 * nn + 200) ≤ 30 * (nn + 1) + 200; omega⟩) [0, 1, 2, 3] [] [0, 1, 2, 3] rfl rfl rfl rfl (by decide) (fun _ => rfl) rfl rfl rfl (Nat.le_of_ble_eq_true rfl) d_Te_readLevel_76 ⟨Nat.le_of_ble_eq_true rfl, Nat.le_of_ble_eq_true rfl⟩ (fun r37 u38 e39 => ?_)
        obtain ⟨m40, m41, m42⟩ := u38
        refine z_weq (ws' := [zo 3 q_t [.ref q_t_characters, .ref q_t_draft, .int t_length, .int m40], zaC K q_t_characters 48 t_characters, zo 2 q_t_draft [.ref q_t_draft_steps, .int m41, .int t_draft_actions, .int t_draft_site, .int t_draft_exit, .int t_draft_conditional, .int t_draft_there, .int t_draft_on, .int t_draft_failures, .int t_draft_meetings], zaI K q_t_draft_steps 48 m42]) rfl ?_
        have hS43 := hS36.2 r37 m40 m41 m42 e39
        refine z_if_ne (tgt := 84) C d_Te_readLevel_79 (by decide) (fun c44 => ?_) (fun c44 => ?_)
        · have hS45 := hS43.1 c44
          refine z_aload_n C d_Te_readLevel_84 rfl 1 rfl ?_
          refine z_get C 0 rfl rfl in_Te 1 (by decide) rfl wf_Te_18 rfl d_Te_readLevel_85 ?_
          refine z_iload C d_Te_readLevel_88 0 rfl ?_
          refine z_callVv (As := [.int r23]) (b := q_t_draft) (st := []) (wr := [zo 3 q_t [.ref q_t_characters, .ref q_t_draft, .int t_length, .int m40], zaC K q_t_characters 48 t_characters]) (wj := fun u => [zo 3 q_t [.ref q_t_characters, .ref q_t_draft, .int t_length, .int m40], zaC K q_t_characters 48 t_characters, zo 2 q_t_draft [.ref q_t_draft_steps, .int u.1, .int t_draft_actions, .int t_draft_site, .int t_draft_exit, .int t_draft_conditional, .int t_draft_there, .int t_draft_on, .int t_draft_failures, .int t_draft_meetings], zaI K q_t_draft_steps 48 u.2]) C 2 rfl rfl (c_Ru_add l D K q_t_draft q_t_draft_steps m41 t_draft_actions t_draft_site t_draft_exit t_draft_conditional t_draft_there t_draft_on t_draft_failures t_draft_meetings m42 r23 hS45.1) (cwV 1 C.2.2.2.2.1 (z_gV wl_Te_71 wi_Ru_add wv_Ru_add wz_Ru wk_Ru_add) rfl rfl rfl (by decide +kernel) ⟨by show 0 + 1 ≤ nn + 1 + 4; omega, by show 8 + (2 + 11) + (0) ≤ 30 * (nn + 1) + 200; omega⟩) [2, 3] [0, 1] [0, 1, 2, 3] rfl rfl rfl rfl (by decide) (fun _ => rfl) rfl rfl rfl (Nat.le_of_ble_eq_true rfl) d_Te_readLevel_90 ⟨Nat.le_of_ble_eq_true rfl, Nat.le_of_ble_eq_true rfl⟩ (fun u47 e48 => ?_)
          obtain ⟨m49, m50⟩ := u47
          refine z_weq (ws' := [zo 3 q_t [.ref q_t_characters, .ref q_t_draft, .int t_length, .int m40], zaC K q_t_characters 48 t_characters, zo 2 q_t_draft [.ref q_t_draft_steps, .int m49, .int t_draft_actions, .int t_draft_site, .int t_draft_exit, .int t_draft_conditional, .int t_draft_there, .int t_draft_on, .int t_draft_failures, .int t_draft_meetings], zaI K q_t_draft_steps 48 m50]) rfl ?_
          have hS51 := hS45.2 m49 m50 e48
          refine z_iinc (j := 5) (v := y4 + (1 : Int32)) (lv' := [(4, .int (y4 + (1 : Int32))), (5, .int r23), (0, .ref q_t), (1, .int y1), (2, .int y2), (3, .int y3)]) C d_Te_readLevel_93 rfl rfl (by decide) rfl ?_
          refine z_goto (tgt := 38) C d_Te_readLevel_96 (by decide) ?_
          refine z_lpick (lv' := [(0, .ref q_t), (1, .int y1), (2, .int y2), (3, .int y3), (4, .int (y4 + (1 : Int32)))]) [2, 3, 4, 5, 0] rfl ?_
          exact ih y1 y2 y3 (y4 + (1 : Int32)) m40 m49 m50 hS51
        · have hS45 := hS43.2 c44
          refine z_iconst (v := (0 : Int32)) C d_Te_readLevel_82 (by decide) ?_
          exact z_zret C hr rfl hlk (m40, m41, m42) rfl hS45 d_Te_readLevel_83
set_option maxHeartbeats 4000000 in
set_option maxRecDepth 100000 in
theorem cw_Te_readLevel (l : Launch) (D : va_G) (K : Nat → ClassId) (q_t : Nat) (q_t_characters : Nat) (q_t_draft : Nat) (q_t_draft_steps : Nat) (t_length : Int32) (t_at : Int32) (t_characters : Nat → Int32) (t_draft_length : Int32) (t_draft_actions : Int32) (t_draft_site : Int32) (t_draft_exit : Int32) (t_draft_conditional : Int32) (t_draft_there : Int32) (t_draft_on : Int32) (t_draft_failures : Int32) (t_draft_meetings : Int32) (t_draft_steps : Nat → Int32) (x1 : Int32) (x2 : Int32) {Q : Int32 → (Int32 × Int32 × (Nat → Int32)) → Prop} (nn : Nat) (rd : zRD) (prd : zRP) (hrec0 : ∀ (t_length : Int32) (t_at : Int32) (t_characters : Nat → Int32) (t_draft_length : Int32) (t_draft_actions : Int32) (t_draft_site : Int32) (t_draft_exit : Int32) (t_draft_conditional : Int32) (t_draft_there : Int32) (t_draft_on : Int32) (t_draft_failures : Int32) (t_draft_meetings : Int32) (t_draft_steps : Nat → Int32) (a b : Int32), prd 0 t_length t_at t_characters t_draft_length t_draft_steps a b → zCi l y_Te_readLevel (.code y_Te_readLevel b_Te_readLevel 6 (some .boolean) :: zWT) (zRm nn) D zcl (zT K) [.ref q_t, .int a, .int b] (w_Te_rd K q_t q_t_characters q_t_draft q_t_draft_steps t_length t_characters t_draft_actions t_draft_site t_draft_exit t_draft_conditional t_draft_there t_draft_on t_draft_failures t_draft_meetings (t_at, t_draft_length, t_draft_steps)) (w_Te_rd K q_t q_t_characters q_t_draft q_t_draft_steps t_length t_characters t_draft_actions t_draft_site t_draft_exit t_draft_conditional t_draft_there t_draft_on t_draft_failures t_draft_meetings) (fun r u => rd 0 t_length t_at t_characters t_draft_length t_draft_steps a b = (r, u.1, u.2.1, u.2.2)) 0 0) (hrec1 : ∀ (t_length : Int32) (t_at : Int32) (t_characters : Nat → Int32) (t_draft_length : Int32) (t_draft_actions : Int32) (t_draft_site : Int32) (t_draft_exit : Int32) (t_draft_conditional : Int32) (t_draft_there : Int32) (t_draft_on : Int32) (t_draft_failures : Int32) (t_draft_meetings : Int32) (t_draft_steps : Nat → Int32) (a : Int32), prd 1 t_length t_at t_characters t_draft_length t_draft_steps a (0 : Int32) → zCi l y_Te_readUnit (.code y_Te_readUnit b_Te_readUnit 3 (some .boolean) :: zWT) (zRm nn) D zcl (zT K) [.ref q_t, .int a] (w_Te_rd K q_t q_t_characters q_t_draft q_t_draft_steps t_length t_characters t_draft_actions t_draft_site t_draft_exit t_draft_conditional t_draft_there t_draft_on t_draft_failures t_draft_meetings (t_at, t_draft_length, t_draft_steps)) (w_Te_rd K q_t q_t_characters q_t_draft q_t_draft_steps t_length t_characters t_draft_actions t_draft_site t_draft_exit t_draft_conditional t_draft_there t_draft_on t_draft_failures t_draft_meetings) (fun r u => rd 1 t_length t_at t_characters t_draft_length t_draft_steps a (0 : Int32) = (r, u.1, u.2.1, u.2.2)) 0 0) (hS0 : WP_Te_readLevel rd prd t_length t_at t_characters t_draft_length t_draft_steps x1 x2 Q) : zCi l y_Te_readLevel wy_Te_readLevel (zRm (nn + 1)) D zcl (zT K) [.ref q_t, .int x1, .int x2] (w_Te_readLevel K q_t q_t_characters q_t_draft q_t_draft_steps t_length t_characters t_draft_actions t_draft_site t_draft_exit t_draft_conditional t_draft_there t_draft_on t_draft_failures t_draft_meetings (t_at, t_draft_length, t_draft_steps)) (w_Te_readLevel K q_t q_t_characters q_t_draft q_t_draft_steps t_length t_characters t_draft_actions t_draft_site t_draft_exit t_draft_conditional t_draft_there t_draft_on t_draft_failures t_draft_meetings) Q 0 0 := by
  refine z_meti (cc := b_Te_readLevel) (maxL := 6) (ret := (some .boolean)) (by decide) rfl (Nat.le_of_ble_eq_true rfl) ?_
  intro p e s m args below meth c A C hr hlk hnm
  refine z_lpick (lv' := [(0, .ref q_t), (1, .int x1), (2, .int x2)]) [0, 1, 2] rfl ?_
  refine z_weq (ws' := [zo 3 q_t [.ref q_t_characters, .ref q_t_draft, .int t_length, .int t_at], zaC K q_t_characters 48 t_characters, zo 2 q_t_draft [.ref q_t_draft_steps, .int t_draft_length, .int t_draft_actions, .int t_draft_site, .int t_draft_exit, .int t_draft_conditional, .int t_draft_there, .int t_draft_on, .int t_draft_failures, .int t_draft_meetings], zaI K q_t_draft_steps 48 t_draft_steps]) rfl ?_
  refine z_iload_n C d_Te_readLevel_0 rfl 1 rfl ?_
  refine z_iconst (v := (2 : Int32)) C d_Te_readLevel_1 (by decide) ?_
  refine z_icmp_le (tgt := 11) C d_Te_readLevel_2 (by decide) (fun c1 => ?_) (fun c1 => ?_)
  · have hS2 := hS0.1 c1
    refine z_aload_n C d_Te_readLevel_11 rfl 0 rfl ?_
    refine z_iload_n C d_Te_readLevel_12 rfl 1 rfl ?_
    refine z_iconst (v := (1 : Int32)) C d_Te_readLevel_13 (by decide) ?_
    refine z_iadd C d_Te_readLevel_14 ?_
    refine z_iload_n C d_Te_readLevel_15 rfl 2 rfl ?_
    refine z_callVi (As := [.int (x1 + (1 : Int32)), .int x2]) (b := q_t) (st := []) (wr := []) (wj := fun u => [zo 3 q_t [.ref q_t_characters, .ref q_t_draft, .int t_length, .int u.1], zaC K q_t_characters 48 t_characters, zo 2 q_t_draft [.ref q_t_draft_steps, .int u.2.1, .int t_draft_actions, .int t_draft_site, .int t_draft_exit, .int t_draft_conditional, .int t_draft_there, .int t_draft_on, .int t_draft_failures, .int t_draft_meetings], zaI K q_t_draft_steps 48 u.2.2]) C 0 rfl rfl (hrec0 t_length t_at t_characters t_draft_length t_draft_actions t_draft_site t_draft_exit t_draft_conditional t_draft_there t_draft_on t_draft_failures t_draft_meetings t_draft_steps (x1 + (1 : Int32)) x2 hS2.1) (cwV 2 C.2.2.2.2.1 (z_gV wl_Te_65 wi_Te_readLevel wv_Te_readLevel wz_Te wk_Te_readLevel) rfl rfl rfl (by decide +kernel) ⟨by show nn + 4 + 1 ≤ nn + 1 + 4; omega, by show 8 + (6 + 11) + (30 * nn + 200) ≤ 30 * (nn + 1) + 200; omega⟩) [0, 1, 2, 3] [] [0, 1, 2, 3] rfl rfl rfl rfl (by decide) (fun _ => rfl) rfl rfl rfl (Nat.le_of_ble_eq_true rfl) d_Te_readLevel_16 ⟨Nat.le_of_ble_eq_true rfl, Nat.le_of_ble_eq_true rfl⟩ (fun r3 u4 e5 => ?_)
    obtain ⟨m6, m7, m8⟩ := u4
    refine z_weq (ws' := [zo 3 q_t [.ref q_t_characters, .ref q_t_draft, .int t_length, .int m6], zaC K q_t_characters 48 t_characters, zo 2 q_t_draft [.ref q_t_draft_steps, .int m7, .int t_draft_actions, .int t_draft_site, .int t_draft_exit, .int t_draft_conditional, .int t_draft_there, .int t_draft_on, .int t_draft_failures, .int t_draft_meetings], zaI K q_t_draft_steps 48 m8]) rfl ?_
    have hS9 := hS2.2 r3 m6 m7 m8 e5
    refine z_if_ne (tgt := 24) C d_Te_readLevel_19 (by decide) (fun c10 => ?_) (fun c10 => ?_)
    · have hS11 := hS9.1 c10
      refine z_iload_n C d_Te_readLevel_24 rfl 1 rfl ?_
      refine z_if_ne (tgt := 32) C d_Te_readLevel_25 (by decide) (fun c12 => ?_) (fun c12 => ?_)
      · have hS13 := hS11.1 c12
        refine z_bipush (v := (48 : Int32)) C d_Te_readLevel_32 (by decide) ?_
        refine z_istore_n (lv' := [(3, .int (48 : Int32)), (0, .ref q_t), (1, .int x1), (2, .int x2)]) C d_Te_readLevel_34 rfl (by decide) rfl ?_
        refine z_iconst (v := (0 : Int32)) C d_Te_readLevel_35 (by decide) ?_
        refine z_istore (lv' := [(4, .int (0 : Int32)), (3, .int (48 : Int32)), (0, .ref q_t), (1, .int x1), (2, .int x2)]) C d_Te_readLevel_36 (by decide) rfl ?_
        refine z_lpick (lv' := [(0, .ref q_t), (1, .int x1), (2, .int x2), (3, .int (48 : Int32)), (4, .int (0 : Int32))]) [2, 3, 4, 1, 0] rfl ?_
        exact lw_Te_readLevel_L38 l D K q_t q_t_characters q_t_draft q_t_draft_steps t_length t_characters t_draft_actions t_draft_site t_draft_exit t_draft_conditional t_draft_there t_draft_on t_draft_failures t_draft_meetings nn rd prd hrec0 hrec1 C hr hlk 600 x1 x2 (48 : Int32) (0 : Int32) m6 m7 m8 hS13
      · have hS13 := hS11.2 c12
        refine z_iconst (v := (1 : Int32)) C d_Te_readLevel_28 (by decide) ?_
        refine z_goto (tgt := 34) C d_Te_readLevel_29 (by decide) ?_
        refine z_istore_n (lv' := [(3, .int (1 : Int32)), (0, .ref q_t), (1, .int x1), (2, .int x2)]) C d_Te_readLevel_34 rfl (by decide) rfl ?_
        refine z_iconst (v := (0 : Int32)) C d_Te_readLevel_35 (by decide) ?_
        refine z_istore (lv' := [(4, .int (0 : Int32)), (3, .int (1 : Int32)), (0, .ref q_t), (1, .int x1), (2, .int x2)]) C d_Te_readLevel_36 (by decide) rfl ?_
        refine z_lpick (lv' := [(0, .ref q_t), (1, .int x1), (2, .int x2), (3, .int (1 : Int32)), (4, .int (0 : Int32))]) [2, 3, 4, 1, 0] rfl ?_
        exact lw_Te_readLevel_L38 l D K q_t q_t_characters q_t_draft q_t_draft_steps t_length t_characters t_draft_actions t_draft_site t_draft_exit t_draft_conditional t_draft_there t_draft_on t_draft_failures t_draft_meetings nn rd prd hrec0 hrec1 C hr hlk 600 x1 x2 (1 : Int32) (0 : Int32) m6 m7 m8 hS13
    · have hS11 := hS9.2 c10
      refine z_iconst (v := (0 : Int32)) C d_Te_readLevel_22 (by decide) ?_
      exact z_zret C hr rfl hlk (m6, m7, m8) rfl hS11 d_Te_readLevel_23
  · have hS2 := hS0.2 c1
    refine z_aload_n C d_Te_readLevel_5 rfl 0 rfl ?_
    refine z_iload_n C d_Te_readLevel_6 rfl 2 rfl ?_
    refine z_callVi (As := [.int x2]) (b := q_t) (st := []) (wr := []) (wj := fun u => [zo 3 q_t [.ref q_t_characters, .ref q_t_draft, .int t_length, .int u.1], zaC K q_t_characters 48 t_characters, zo 2 q_t_draft [.ref q_t_draft_steps, .int u.2.1, .int t_draft_actions, .int t_draft_site, .int t_draft_exit, .int t_draft_conditional, .int t_draft_there, .int t_draft_on, .int t_draft_failures, .int t_draft_meetings], zaI K q_t_draft_steps 48 u.2.2]) C 0 rfl rfl (hrec1 t_length t_at t_characters t_draft_length t_draft_actions t_draft_site t_draft_exit t_draft_conditional t_draft_there t_draft_on t_draft_failures t_draft_meetings t_draft_steps x2 hS2.1) (cwV 1 C.2.2.2.2.1 (z_gV wl_Te_78 wi_Te_readUnit wv_Te_readUnit wz_Te wk_Te_readUnit) rfl rfl rfl (by decide +kernel) ⟨by show nn + 4 + 1 ≤ nn + 1 + 4; omega, by show 8 + (3 + 11) + (30 * nn + 200) ≤ 30 * (nn + 1) + 200; omega⟩) [0, 1, 2, 3] [] [0, 1, 2, 3] rfl rfl rfl rfl (by decide) (fun _ => rfl) rfl rfl rfl (Nat.le_of_ble_eq_true rfl) d_Te_readLevel_7 ⟨Nat.le_of_ble_eq_true rfl, Nat.le_of_ble_eq_true rfl⟩ (fun r14 u15 e16 => ?_)
    obtain ⟨m17, m18, m19⟩ := u15
    refine z_weq (ws' := [zo 3 q_t [.ref q_t_characters, .ref q_t_draft, .int t_length, .int m17], zaC K q_t_characters 48 t_characters, zo 2 q_t_draft [.ref q_t_draft_steps, .int m18, .int t_draft_actions, .int t_draft_site, .int t_draft_exit, .int t_draft_conditional, .int t_draft_there, .int t_draft_on, .int t_draft_failures, .int t_draft_meetings], zaI K q_t_draft_steps 48 m19]) rfl ?_
    have hS20 := hS2.2 r14 m17 m18 m19 e16
    exact z_zret C hr (zb_n hS20.1) hlk (m17, m18, m19) rfl hS20.2 d_Te_readLevel_10
def s_Te_readLevel_L38 (rd : zRD) : Nat → Int32 → Int32 → Int32 → Int32 → Int32 → Int32 → (Nat → Int32) → Int32 → (Nat → Int32) → Int32 × Int32 × Int32 × (Nat → Int32)
  | 0, _, _, _, _, _, t_at, _, t_draft_length, t_draft_steps => (0, t_at, t_draft_length, t_draft_steps)
  | n + 1, y1, y2, y3, y4, t_length, t_at, t_characters, t_draft_length, t_draft_steps => (if y3 ≤ y4 then ((1 : Int32), t_at, t_draft_length, t_draft_steps) else (zl1 (s_Te_next t_length t_at t_characters) fun r23 => (zl1 (s_Te_levelOf r23) fun r27 => (if r27 = y1 then (zl1 (s_Te_next t_length t_at t_characters) fun r33 => (zl2 (rd 0 t_length (t_at + (1 : Int32)) t_characters t_draft_length t_draft_steps (y1 + (1 : Int32)) y2) (fun r37 z_r37 => zl2 z_r37 (fun m40 z_m40 => zl2 z_m40 (fun m41 m42 => (if r37 = 0 then ((0 : Int32), m40, m41, m42) else (zl2 (s_Ru_add m41 m42 r23) (fun m49 m50 => s_Te_readLevel_L38 rd n y1 y2 y3 (y4 + (1 : Int32)) t_length m40 t_characters m49 m50)))))))) else ((1 : Int32), t_at, t_draft_length, t_draft_steps)))))
def sR_Te_readLevel (rd : zRD) (t_length : Int32) (t_at : Int32) (t_characters : Nat → Int32) (t_draft_length : Int32) (t_draft_steps : Nat → Int32) (x1 : Int32) (x2 : Int32) : Int32 × Int32 × Int32 × (Nat → Int32) := (if x1 ≤ (2 : Int32) then (zl2 (rd 0 t_length t_at t_characters t_draft_length t_draft_steps (x1 + (1 : Int32)) x2) (fun r3 z_r3 => zl2 z_r3 (fun m6 z_m6 => zl2 z_m6 (fun m7 m8 => (if r3 = 0 then ((0 : Int32), m6, m7, m8) else (if x1 = 0 then s_Te_readLevel_L38 rd 600 x1 x2 (1 : Int32) (0 : Int32) t_length m6 t_characters m7 m8 else s_Te_readLevel_L38 rd 600 x1 x2 (48 : Int32) (0 : Int32) t_length m6 t_characters m7 m8)))))) else (zl2 (rd 1 t_length t_at t_characters t_draft_length t_draft_steps x2 (0 : Int32)) (fun r14 z_r14 => zl2 z_r14 (fun m17 z_m17 => zl2 z_m17 (fun m18 m19 => (r14, m17, m18, m19))))))
def pR_Te_readLevel (rd : zRD) (prd : zRP) (t_length : Int32) (t_at : Int32) (t_characters : Nat → Int32) (t_draft_length : Int32) (t_draft_steps : Nat → Int32) (x1 : Int32) (x2 : Int32) : Prop := WP_Te_readLevel rd prd t_length t_at t_characters t_draft_length t_draft_steps x1 x2 (fun _ _ => True)
set_option maxRecDepth 100000 in
theorem v_Te_readLevel_L38 (rd : zRD) (prd : zRP) : ∀ (n : Nat) (y1 : Int32) (y2 : Int32) (y3 : Int32) (y4 : Int32) (t_length : Int32) (t_at : Int32) (t_characters : Nat → Int32) (t_draft_length : Int32) (t_draft_steps : Nat → Int32) (tgt : Int32 × Int32 × Int32 × (Nat → Int32)), s_Te_readLevel_L38 rd n y1 y2 y3 y4 t_length t_at t_characters t_draft_length t_draft_steps = tgt → WP_Te_readLevel_L38 rd prd n y1 y2 y3 y4 t_length t_at t_characters t_draft_length t_draft_steps (fun _ _ => True) → WP_Te_readLevel_L38 rd prd n y1 y2 y3 y4 t_length t_at t_characters t_draft_length t_draft_steps (fun r u => tgt = (r, u.1, u.2.1, u.2.2)) := by
  intro n
  induction n with
  | zero => intros; contradiction
  | succ n ih =>
    intro y1 y2 y3 y4 t_length t_at t_characters t_draft_length t_draft_steps tgt f0 hp
    unfold s_Te_readLevel_L38 at f0
    unfold WP_Te_readLevel_L38 at hp ⊢
    refine ⟨fun c21 => ?_, fun c21 => ?_⟩
    · have f1 := Eq.trans (Eq.symm (if_pos c21)) f0
      have g1 := hp.1 c21
      exact f1.symm
    · have f1 := Eq.trans (Eq.symm (if_neg c21)) f0
      have g1 := hp.2 c21
      refine ⟨g1.1, ?_⟩
      have g3 := g1.2
      intro r23 e25
      have g2 := g3 r23 e25
      have f2 := Eq.trans (Eq.symm (zl1_eq e25)) f1
      intro r27 e29
      have g4 := g2 r27 e29
      have f4 := Eq.trans (Eq.symm (zl1_eq e29)) f2
      refine ⟨fun c31 => ?_, fun c31 => ?_⟩
      · have f5 := Eq.trans (Eq.symm (if_neg c31)) f4
        have g5 := g4.1 c31
        exact f5.symm
      · have f5 := Eq.trans (Eq.symm (if_pos c31)) f4
        have g5 := g4.2 c31
        refine ⟨g5.1, ?_⟩
        have g7 := g5.2
        intro r33 e35
        have g6 := g7 r33 e35
        have f6 := Eq.trans (Eq.symm (zl1_eq e35)) f5
        refine ⟨g6.1, ?_⟩
        have g9 := g6.2
        intro r37 m40 m41 m42 e39
        have g8 := g9 r37 m40 m41 m42 e39
        have f8 := Eq.trans (Eq.symm (zl2_eq e39)) f6
        have f8 := Eq.trans (Eq.symm (zl2_eq (Eq.refl (m40, m41, m42)))) f8
        have f8 := Eq.trans (Eq.symm (zl2_eq (Eq.refl (m41, m42)))) f8
        refine ⟨fun c44 => ?_, fun c44 => ?_⟩
        · have f10 := Eq.trans (Eq.symm (if_neg c44)) f8
          have g10 := g8.1 c44
          refine ⟨g10.1, ?_⟩
          have g12 := g10.2
          intro m49 m50 e48
          have g11 := g12 m49 m50 e48
          have f11 := Eq.trans (Eq.symm (zl2_eq e48)) f10
          exact ih y1 y2 y3 (y4 + (1 : Int32)) t_length m40 t_characters m49 m50 _ f11 g11
        · have f10 := Eq.trans (Eq.symm (if_pos c44)) f8
          have g10 := g8.2 c44
          exact f10.symm
set_option maxRecDepth 100000 in
theorem v_Te_readLevel (rd : zRD) (prd : zRP) (t_length : Int32) (t_at : Int32) (t_characters : Nat → Int32) (t_draft_length : Int32) (t_draft_steps : Nat → Int32) (x1 : Int32) (x2 : Int32) (hp : pR_Te_readLevel rd prd t_length t_at t_characters t_draft_length t_draft_steps x1 x2) : WP_Te_readLevel rd prd t_length t_at t_characters t_draft_length t_draft_steps x1 x2 (fun r u => sR_Te_readLevel rd t_length t_at t_characters t_draft_length t_draft_steps x1 x2 = (r, u.1, u.2.1, u.2.2)) := by
  unfold pR_Te_readLevel WP_Te_readLevel at hp
  obtain ⟨tgt, f0⟩ : ∃ tgt, sR_Te_readLevel rd t_length t_at t_characters t_draft_length t_draft_steps x1 x2 = tgt := ⟨_, rfl⟩
  rw [f0]
  unfold sR_Te_readLevel at f0
  unfold WP_Te_readLevel
  refine ⟨fun c1 => ?_, fun c1 => ?_⟩
  · have f1 := Eq.trans (Eq.symm (if_pos c1)) f0
    have g1 := hp.1 c1
    refine ⟨g1.1, ?_⟩
    have g3 := g1.2
    intro r3 m6 m7 m8 e5
    have g2 := g3 r3 m6 m7 m8 e5
    have f2 := Eq.trans (Eq.symm (zl2_eq e5)) f1
    have f2 := Eq.trans (Eq.symm (zl2_eq (Eq.refl (m6, m7, m8)))) f2
    have f2 := Eq.trans (Eq.symm (zl2_eq (Eq.refl (m7, m8)))) f2
    refine ⟨fun c10 => ?_, fun c10 => ?_⟩
    · have f4 := Eq.trans (Eq.symm (if_neg c10)) f2
      have g4 := g2.1 c10
      refine ⟨fun c12 => ?_, fun c12 => ?_⟩
      · have f5 := Eq.trans (Eq.symm (if_neg c12)) f4
        have g5 := g4.1 c12
        exact v_Te_readLevel_L38 rd prd 600 x1 x2 (48 : Int32) (0 : Int32) t_length m6 t_characters m7 m8 _ f5 g5
      · have f5 := Eq.trans (Eq.symm (if_pos c12)) f4
        have g5 := g4.2 c12
        exact v_Te_readLevel_L38 rd prd 600 x1 x2 (1 : Int32) (0 : Int32) t_length m6 t_characters m7 m8 _ f5 g5
    · have f4 := Eq.trans (Eq.symm (if_pos c10)) f2
      have g4 := g2.2 c10
      exact f4.symm
  · have f1 := Eq.trans (Eq.symm (if_neg c1)) f0
    have g1 := hp.2 c1
    refine ⟨g1.1, ?_⟩
    have g7 := g1.2
    intro r14 m17 m18 m19 e16
    have g6 := g7 r14 m17 m18 m19 e16
    have f6 := Eq.trans (Eq.symm (zl2_eq e16)) f1
    have f6 := Eq.trans (Eq.symm (zl2_eq (Eq.refl (m17, m18, m19)))) f6
    have f6 := Eq.trans (Eq.symm (zl2_eq (Eq.refl (m18, m19)))) f6
    refine ⟨g6.1, ?_⟩
    have g8 := g6.2
    exact f6.symm
-- RuleTracer$RuleText.readUnit(I)Z: reads ['t.length', 't.at', 't.characters', 't.draft.length', 't.draft.steps'], changes ['t.at', 't.draft.length', 't.draft.steps']
abbrev w_Te_readUnit (K : Nat → ClassId) (q_t : Nat) (q_t_characters : Nat) (q_t_draft : Nat) (q_t_draft_steps : Nat) (t_length : Int32) (t_characters : Nat → Int32) (t_draft_actions : Int32) (t_draft_site : Int32) (t_draft_exit : Int32) (t_draft_conditional : Int32) (t_draft_there : Int32) (t_draft_on : Int32) (t_draft_failures : Int32) (t_draft_meetings : Int32) (u : Int32 × Int32 × (Nat → Int32)) : va_W := [zo 3 q_t [.ref q_t_characters, .ref q_t_draft, .int t_length, .int u.1], zaC K q_t_characters 48 t_characters, zo 2 q_t_draft [.ref q_t_draft_steps, .int u.2.1, .int t_draft_actions, .int t_draft_site, .int t_draft_exit, .int t_draft_conditional, .int t_draft_there, .int t_draft_on, .int t_draft_failures, .int t_draft_meetings], zaI K q_t_draft_steps 48 u.2.2]
abbrev wy_Te_readUnit : List Cond := .code y_Te_readUnit b_Te_readUnit 3 (some .boolean) :: zWT
def WP_Te_readUnit (rd : zRD) (prd : zRP) (t_length : Int32) (t_at : Int32) (t_characters : Nat → Int32) (t_draft_length : Int32) (t_draft_steps : Nat → Int32) (x1 : Int32) (Q : Int32 → (Int32 × Int32 × (Nat → Int32)) → Prop) : Prop := p_Te_next t_length t_at t_characters ∧ (∀ (r1 : Int32), s_Te_next t_length t_at t_characters = r1 → (∀ (r5 : Int32), s_Te_isDigit r1 = r5 → ((r5 = 0) → (∀ (r11 : Int32), s_Te_isName r1 = r11 → ((r11 = 0) → ((r1 = (40 : Int32)) → ((x1 < (5 : Int32)) → prd 0 t_length (t_at + (1 : Int32)) t_characters t_draft_length t_draft_steps (0 : Int32) (x1 + (1 : Int32)) ∧ (∀ (r22 : Int32) (m25 : Int32) (m26 : Int32) (m27 : Nat → Int32), rd 0 t_length (t_at + (1 : Int32)) t_characters t_draft_length t_draft_steps (0 : Int32) (x1 + (1 : Int32)) = (r22, m25, m26, m27) → ((r22 = 0) → Q (0 : Int32) (m25, m26, m27)) ∧ ((¬ r22 = 0) → p_Te_pass t_length m25 t_characters (41 : Int32) ∧ (∀ (r31 : Int32) (u32 : Int32), s_Te_pass t_length m25 t_characters (41 : Int32) = (r31, u32) → ((r31 = 0) → Q (0 : Int32) (u32, m26, m27)) ∧ ((¬ r31 = 0) → Q (1 : Int32) (u32, m26, m27)))))) ∧ ((¬ x1 < (5 : Int32)) → Q (0 : Int32) (t_at, t_draft_length, t_draft_steps))) ∧ ((¬ r1 = (40 : Int32)) → ((¬ r1 = (45 : Int32)) → Q (0 : Int32) (t_at, t_draft_length, t_draft_steps)) ∧ ((r1 = (45 : Int32)) → ((x1 < (5 : Int32)) → prd 1 t_length (t_at + (1 : Int32)) t_characters t_draft_length t_draft_steps (x1 + (1 : Int32)) (0 : Int32) ∧ (∀ (r42 : Int32) (m45 : Int32) (m46 : Int32) (m47 : Nat → Int32), rd 1 t_length (t_at + (1 : Int32)) t_characters t_draft_length t_draft_steps (x1 + (1 : Int32)) (0 : Int32) = (r42, m45, m46, m47) → ((¬ r42 = 0) → p_Ru_add m46 m47 (126 : Int32) ∧ (∀ (m54 : Int32) (m55 : Nat → Int32), s_Ru_add m46 m47 (126 : Int32) = (m54, m55) → Q (1 : Int32) (m45, m54, m55))) ∧ ((r42 = 0) → Q (0 : Int32) (m45, m46, m47)))) ∧ ((¬ x1 < (5 : Int32)) → Q (0 : Int32) (t_at, t_draft_length, t_draft_steps))))) ∧ ((¬ r11 = 0) → p_Ru_add t_draft_length t_draft_steps r1 ∧ (∀ (m60 : Int32) (m61 : Nat → Int32), s_Ru_add t_draft_length t_draft_steps r1 = (m60, m61) → Q (1 : Int32) (t_at + (1 : Int32), m60, m61))))) ∧ ((¬ r5 = 0) → p_Te_readNumber t_length t_at t_characters t_draft_length t_draft_steps ∧ (∀ (m66 : Int32) (m67 : Int32) (m68 : Nat → Int32), s_Te_readNumber t_length t_at t_characters t_draft_length t_draft_steps = (m66, m67, m68) → Q (1 : Int32) (m66, m67, m68)))))
set_option maxHeartbeats 4000000 in
set_option maxRecDepth 100000 in
theorem cw_Te_readUnit (l : Launch) (D : va_G) (K : Nat → ClassId) (q_t : Nat) (q_t_characters : Nat) (q_t_draft : Nat) (q_t_draft_steps : Nat) (t_length : Int32) (t_at : Int32) (t_characters : Nat → Int32) (t_draft_length : Int32) (t_draft_actions : Int32) (t_draft_site : Int32) (t_draft_exit : Int32) (t_draft_conditional : Int32) (t_draft_there : Int32) (t_draft_on : Int32) (t_draft_failures : Int32) (t_draft_meetings : Int32) (t_draft_steps : Nat → Int32) (x1 : Int32) {Q : Int32 → (Int32 × Int32 × (Nat → Int32)) → Prop} (nn : Nat) (rd : zRD) (prd : zRP) (hrec0 : ∀ (t_length : Int32) (t_at : Int32) (t_characters : Nat → Int32) (t_draft_length : Int32) (t_draft_actions : Int32) (t_draft_site : Int32) (t_draft_exit : Int32) (t_draft_conditional : Int32) (t_draft_there : Int32) (t_draft_on : Int32) (t_draft_failures : Int32) (t_draft_meetings : Int32) (t_draft_steps : Nat → Int32) (a b : Int32), prd 0 t_length t_at t_characters t_draft_length t_draft_steps a b → zCi l y_Te_readLevel (.code y_Te_readLevel b_Te_readLevel 6 (some .boolean) :: zWT) (zRm nn) D zcl (zT K) [.ref q_t, .int a, .int b] (w_Te_rd K q_t q_t_characters q_t_draft q_t_draft_steps t_length t_characters t_draft_actions t_draft_site t_draft_exit t_draft_conditional t_draft_there t_draft_on t_draft_failures t_draft_meetings (t_at, t_draft_length, t_draft_steps)) (w_Te_rd K q_t q_t_characters q_t_draft q_t_draft_steps t_length t_characters t_draft_actions t_draft_site t_draft_exit t_draft_conditional t_draft_there t_draft_on t_draft_failures t_draft_meetings) (fun r u => rd 0 t_length t_at t_characters t_draft_length t_draft_steps a b = (r, u.1, u.2.1, u.2.2)) 0 0) (hrec1 : ∀ (t_length : Int32) (t_at : Int32) (t_characters : Nat → Int32) (t_draft_length : Int32) (t_draft_actions : Int32) (t_draft_site : Int32) (t_draft_exit : Int32) (t_draft_conditional : Int32) (t_draft_there : Int32) (t_draft_on : Int32) (t_draft_failures : Int32) (t_draft_meetings : Int32) (t_draft_steps : Nat → Int32) (a : Int32), prd 1 t_length t_at t_characters t_draft_length t_draft_steps a (0 : Int32) → zCi l y_Te_readUnit (.code y_Te_readUnit b_Te_readUnit 3 (some .boolean) :: zWT) (zRm nn) D zcl (zT K) [.ref q_t, .int a] (w_Te_rd K q_t q_t_characters q_t_draft q_t_draft_steps t_length t_characters t_draft_actions t_draft_site t_draft_exit t_draft_conditional t_draft_there t_draft_on t_draft_failures t_draft_meetings (t_at, t_draft_length, t_draft_steps)) (w_Te_rd K q_t q_t_characters q_t_draft q_t_draft_steps t_length t_characters t_draft_actions t_draft_site t_draft_exit t_draft_conditional t_draft_there t_draft_on t_draft_failures t_draft_meetings) (fun r u => rd 1 t_length t_at t_characters t_draft_length t_draft_steps a (0 : Int32) = (r, u.1, u.2.1, u.2.2)) 0 0) (hS0 : WP_Te_readUnit rd prd t_length t_at t_characters t_draft_length t_draft_steps x1 Q) : zCi l y_Te_readUnit wy_Te_readUnit (zRm (nn + 1)) D zcl (zT K) [.ref q_t, .int x1] (w_Te_readUnit K q_t q_t_characters q_t_draft q_t_draft_steps t_length t_characters t_draft_actions t_draft_site t_draft_exit t_draft_conditional t_draft_there t_draft_on t_draft_failures t_draft_meetings (t_at, t_draft_length, t_draft_steps)) (w_Te_readUnit K q_t q_t_characters q_t_draft q_t_draft_steps t_length t_characters t_draft_actions t_draft_site t_draft_exit t_draft_conditional t_draft_there t_draft_on t_draft_failures t_draft_meetings) Q 0 0 := by
  refine z_meti (cc := b_Te_readUnit) (maxL := 3) (ret := (some .boolean)) (by decide) rfl (Nat.le_of_ble_eq_true rfl) ?_
  intro p e s m args below meth c A C hr hlk hnm
  refine z_lpick (lv' := [(0, .ref q_t), (1, .int x1)]) [0, 1] rfl ?_
  refine z_weq (ws' := [zo 3 q_t [.ref q_t_characters, .ref q_t_draft, .int t_length, .int t_at], zaC K q_t_characters 48 t_characters, zo 2 q_t_draft [.ref q_t_draft_steps, .int t_draft_length, .int t_draft_actions, .int t_draft_site, .int t_draft_exit, .int t_draft_conditional, .int t_draft_there, .int t_draft_on, .int t_draft_failures, .int t_draft_meetings], zaI K q_t_draft_steps 48 t_draft_steps]) rfl ?_
  refine z_aload_n C d_Te_readUnit_0 rfl 0 rfl ?_
  refine z_callVi (As := []) (b := q_t) (st := []) (wr := [zo 2 q_t_draft [.ref q_t_draft_steps, .int t_draft_length, .int t_draft_actions, .int t_draft_site, .int t_draft_exit, .int t_draft_conditional, .int t_draft_there, .int t_draft_on, .int t_draft_failures, .int t_draft_meetings], zaI K q_t_draft_steps 48 t_draft_steps]) (wj := fun u => [zo 3 q_t [.ref q_t_characters, .ref q_t_draft, .int t_length, .int t_at], zaC K q_t_characters 48 t_characters, zo 2 q_t_draft [.ref q_t_draft_steps, .int t_draft_length, .int t_draft_actions, .int t_draft_site, .int t_draft_exit, .int t_draft_conditional, .int t_draft_there, .int t_draft_on, .int t_draft_failures, .int t_draft_meetings], zaI K q_t_draft_steps 48 t_draft_steps]) C 0 rfl rfl (c_Te_next l D K q_t q_t_characters q_t_draft t_length t_at t_characters hS0.1) (cwV 0 C.2.2.2.2.1 (z_gV wl_Te_50 wi_Te_next wv_Te_next wz_Te wk_Te_next) rfl rfl rfl (by decide +kernel) ⟨by show 0 + 1 ≤ nn + 1 + 4; omega, by show 8 + (1 + 11) + (0) ≤ 30 * (nn + 1) + 200; omega⟩) [0, 1] [2, 3] [2, 3, 0, 1] rfl rfl rfl rfl (by decide) (fun _ => rfl) rfl rfl rfl (Nat.le_of_ble_eq_true rfl) d_Te_readUnit_1 ⟨Nat.le_of_ble_eq_true rfl, Nat.le_of_ble_eq_true rfl⟩ (fun r1 u2 e3 => ?_)
  have hS4 := hS0.2 r1 e3
  refine z_istore_n (lv' := [(2, .int r1), (0, .ref q_t), (1, .int x1)]) C d_Te_readUnit_4 rfl (by decide) rfl ?_
  refine z_iload_n C d_Te_readUnit_5 rfl 0 rfl ?_
  refine z_callSi (As := [.int r1]) (st := []) (wr := [zo 3 q_t [.ref q_t_characters, .ref q_t_draft, .int t_length, .int t_at], zaC K q_t_characters 48 t_characters, zo 2 q_t_draft [.ref q_t_draft_steps, .int t_draft_length, .int t_draft_actions, .int t_draft_site, .int t_draft_exit, .int t_draft_conditional, .int t_draft_there, .int t_draft_on, .int t_draft_failures, .int t_draft_meetings], zaI K q_t_draft_steps 48 t_draft_steps]) (wj := fun u => [zo 3 q_t [.ref q_t_characters, .ref q_t_draft, .int t_length, .int t_at], zaC K q_t_characters 48 t_characters, zo 2 q_t_draft [.ref q_t_draft_steps, .int t_draft_length, .int t_draft_actions, .int t_draft_site, .int t_draft_exit, .int t_draft_conditional, .int t_draft_there, .int t_draft_on, .int t_draft_failures, .int t_draft_meetings], zaI K q_t_draft_steps 48 t_draft_steps]) C (c_Te_isDigit l D K r1) (cwS 1 C.2.2.2.2.1 (z_gS wl_Te_86 ws_Te_isDigit wz_Te wk_Te_isDigit) rfl rfl rfl (by decide +kernel) ⟨by show 0 + 1 ≤ nn + 1 + 4; omega, by show 8 + (1 + 11) + (0) ≤ 30 * (nn + 1) + 200; omega⟩) [] [0, 1, 2, 3] [0, 1, 2, 3] rfl rfl rfl rfl (by decide) (fun _ => rfl) rfl rfl rfl (Nat.le_of_ble_eq_true rfl) d_Te_readUnit_6 ⟨Nat.le_of_ble_eq_true rfl, Nat.le_of_ble_eq_true rfl⟩ (fun r5 u6 e7 => ?_)
  have hS8 := hS4 r5 e7
  refine z_if_eq (tgt := 18) C d_Te_readUnit_9 (by decide) (fun c9 => ?_) (fun c9 => ?_)
  · have hS10 := hS8.1 c9
    refine z_iload_n C d_Te_readUnit_18 rfl 0 rfl ?_
    refine z_callSi (As := [.int r1]) (st := []) (wr := [zo 3 q_t [.ref q_t_characters, .ref q_t_draft, .int t_length, .int t_at], zaC K q_t_characters 48 t_characters, zo 2 q_t_draft [.ref q_t_draft_steps, .int t_draft_length, .int t_draft_actions, .int t_draft_site, .int t_draft_exit, .int t_draft_conditional, .int t_draft_there, .int t_draft_on, .int t_draft_failures, .int t_draft_meetings], zaI K q_t_draft_steps 48 t_draft_steps]) (wj := fun u => [zo 3 q_t [.ref q_t_characters, .ref q_t_draft, .int t_length, .int t_at], zaC K q_t_characters 48 t_characters, zo 2 q_t_draft [.ref q_t_draft_steps, .int t_draft_length, .int t_draft_actions, .int t_draft_site, .int t_draft_exit, .int t_draft_conditional, .int t_draft_there, .int t_draft_on, .int t_draft_failures, .int t_draft_meetings], zaI K q_t_draft_steps 48 t_draft_steps]) C (c_Te_isName l D K r1) (cwS 1 C.2.2.2.2.1 (z_gS wl_Te_92 ws_Te_isName wz_Te wk_Te_isName) rfl rfl rfl (by decide +kernel) ⟨by show 0 + 1 ≤ nn + 1 + 4; omega, by show 8 + (1 + 11) + (0) ≤ 30 * (nn + 1) + 200; omega⟩) [] [0, 1, 2, 3] [0, 1, 2, 3] rfl rfl rfl rfl (by decide) (fun _ => rfl) rfl rfl rfl (Nat.le_of_ble_eq_true rfl) d_Te_readUnit_19 ⟨Nat.le_of_ble_eq_true rfl, Nat.le_of_ble_eq_true rfl⟩ (fun r11 u12 e13 => ?_)
    have hS14 := hS10 r11 e13
    refine z_if_eq (tgt := 45) C d_Te_readUnit_22 (by decide) (fun c15 => ?_) (fun c15 => ?_)
    · have hS16 := hS14.1 c15
      refine z_iload_n C d_Te_readUnit_45 rfl 0 rfl ?_
      refine z_bipush (v := (40 : Int32)) C d_Te_readUnit_46 (by decide) ?_
      refine z_icmp_eq (tgt := 57) C d_Te_readUnit_48 (by decide) (fun c17 => ?_) (fun c17 => ?_)
      · have hS18 := hS16.1 c17
        refine z_iload_n C d_Te_readUnit_57 rfl 2 rfl ?_
        refine z_iconst (v := (5 : Int32)) C d_Te_readUnit_58 (by decide) ?_
        refine z_icmp_lt (tgt := 64) C d_Te_readUnit_59 (by decide) (fun c19 => ?_) (fun c19 => ?_)
        · have hS20 := hS18.1 c19
          refine z_aload_n C d_Te_readUnit_64 rfl 1 rfl ?_
          refine z_dup C d_Te_readUnit_65 rfl ?_
          refine z_get C 0 rfl rfl in_Te 3 (by decide) rfl wf_Te_26 rfl d_Te_readUnit_66 ?_
          refine z_iconst (v := (1 : Int32)) C d_Te_readUnit_69 (by decide) ?_
          refine z_iadd C d_Te_readUnit_70 ?_
          refine z_put (ty := .int) (ws' := [zo 3 q_t [.ref q_t_characters, .ref q_t_draft, .int t_length, .int (t_at + (1 : Int32))], zaC K q_t_characters 48 t_characters, zo 2 q_t_draft [.ref q_t_draft_steps, .int t_draft_length, .int t_draft_actions, .int t_draft_site, .int t_draft_exit, .int t_draft_conditional, .int t_draft_there, .int t_draft_on, .int t_draft_failures, .int t_draft_meetings], zaI K q_t_draft_steps 48 t_draft_steps]) C ty_Te to_Te nm_Te 0 rfl rfl in_Te 3 (by decide) rfl wf_Te_26 rfl rfl rfl rfl (Nat.le_of_ble_eq_true rfl) rfl d_Te_readUnit_71 ?_
          refine z_iload_n C d_Te_readUnit_74 rfl 0 rfl ?_
          refine z_bipush (v := (40 : Int32)) C d_Te_readUnit_75 (by decide) ?_
          refine z_icmp_ne (tgt := 106) C d_Te_readUnit_77 (by decide) (fun c21 => absurd c17 c21) (fun c21 => ?_)
          refine z_aload_n C d_Te_readUnit_80 rfl 1 rfl ?_
          refine z_iconst (v := (0 : Int32)) C d_Te_readUnit_81 (by decide) ?_
          refine z_iload_n C d_Te_readUnit_82 rfl 2 rfl ?_
          refine z_iconst (v := (1 : Int32)) C d_Te_readUnit_83 (by decide) ?_
          refine z_iadd C d_Te_readUnit_84 ?_
          refine z_callVi (As := [.int (0 : Int32), .int (x1 + (1 : Int32))]) (b := q_t) (st := []) (wr := []) (wj := fun u => [zo 3 q_t [.ref q_t_characters, .ref q_t_draft, .int t_length, .int u.1], zaC K q_t_characters 48 t_characters, zo 2 q_t_draft [.ref q_t_draft_steps, .int u.2.1, .int t_draft_actions, .int t_draft_site, .int t_draft_exit, .int t_draft_conditional, .int t_draft_there, .int t_draft_on, .int t_draft_failures, .int t_draft_meetings], zaI K q_t_draft_steps 48 u.2.2]) C 0 rfl rfl (hrec0 t_length (t_at + (1 : Int32)) t_characters t_draft_length t_draft_actions t_draft_site t_draft_exit t_draft_conditional t_draft_there t_draft_on t_draft_failures t_draft_meetings t_draft_steps (0 : Int32) (x1 + (1 : Int32)) hS20.1) (cwV 2 C.2.2.2.2.1 (z_gV wl_Te_65 wi_Te_readLevel wv_Te_readLevel wz_Te wk_Te_readLevel) rfl rfl rfl (by decide +kernel) ⟨by show nn + 4 + 1 ≤ nn + 1 + 4; omega, by show 8 + (6 + 11) + (30 * nn + 200) ≤ 30 * (nn + 1) + 200; omega⟩) [0, 1, 2, 3] [] [0, 1, 2, 3] rfl rfl rfl rfl (by decide) (fun _ => rfl) rfl rfl rfl (Nat.le_of_ble_eq_true rfl) d_Te_readUnit_85 ⟨Nat.le_of_ble_eq_true rfl, Nat.le_of_ble_eq_true rfl⟩ (fun r22 u23 e24 => ?_)
          obtain ⟨m25, m26, m27⟩ := u23
          refine z_weq (ws' := [zo 3 q_t [.ref q_t_characters, .ref q_t_draft, .int t_length, .int m25], zaC K q_t_characters 48 t_characters, zo 2 q_t_draft [.ref q_t_draft_steps, .int m26, .int t_draft_actions, .int t_draft_site, .int t_draft_exit, .int t_draft_conditional, .int t_draft_there, .int t_draft_on, .int t_draft_failures, .int t_draft_meetings], zaI K q_t_draft_steps 48 m27]) rfl ?_
          have hS28 := hS20.2 r22 m25 m26 m27 e24
          refine z_if_eq (tgt := 104) C d_Te_readUnit_88 (by decide) (fun c29 => ?_) (fun c29 => ?_)
          · have hS30 := hS28.1 c29
            refine z_iconst (v := (0 : Int32)) C d_Te_readUnit_104 (by decide) ?_
            exact z_zret C hr rfl hlk (m25, m26, m27) rfl hS30 d_Te_readUnit_105
          · have hS30 := hS28.2 c29
            refine z_aload_n C d_Te_readUnit_91 rfl 1 rfl ?_
            refine z_bipush (v := (41 : Int32)) C d_Te_readUnit_92 (by decide) ?_
            refine z_callVi (As := [.int (41 : Int32)]) (b := q_t) (st := []) (wr := [zo 2 q_t_draft [.ref q_t_draft_steps, .int m26, .int t_draft_actions, .int t_draft_site, .int t_draft_exit, .int t_draft_conditional, .int t_draft_there, .int t_draft_on, .int t_draft_failures, .int t_draft_meetings], zaI K q_t_draft_steps 48 m27]) (wj := fun u => [zo 3 q_t [.ref q_t_characters, .ref q_t_draft, .int t_length, .int u], zaC K q_t_characters 48 t_characters, zo 2 q_t_draft [.ref q_t_draft_steps, .int m26, .int t_draft_actions, .int t_draft_site, .int t_draft_exit, .int t_draft_conditional, .int t_draft_there, .int t_draft_on, .int t_draft_failures, .int t_draft_meetings], zaI K q_t_draft_steps 48 m27]) C 0 rfl rfl (c_Te_pass l D K q_t q_t_characters q_t_draft t_length m25 t_characters (41 : Int32) hS30.1) (cwV 1 C.2.2.2.2.1 (z_gV wl_Te_46 wi_Te_pass wv_Te_pass wz_Te wk_Te_pass) rfl rfl rfl (by decide +kernel) ⟨by show 1 + 1 ≤ nn + 1 + 4; omega, by show 8 + (2 + 11) + (20) ≤ 30 * (nn + 1) + 200; omega⟩) [0, 1] [2, 3] [2, 3, 0, 1] rfl rfl rfl rfl (by decide) (fun _ => rfl) rfl rfl rfl (Nat.le_of_ble_eq_true rfl) d_Te_readUnit_94 ⟨Nat.le_of_ble_eq_true rfl, Nat.le_of_ble_eq_true rfl⟩ (fun r31 u32 e33 => ?_)
            have hS34 := hS30.2 r31 u32 e33
            refine z_if_eq (tgt := 104) C d_Te_readUnit_97 (by decide) (fun c35 => ?_) (fun c35 => ?_)
            · have hS36 := hS34.1 c35
              refine z_iconst (v := (0 : Int32)) C d_Te_readUnit_104 (by decide) ?_
              exact z_zret C hr rfl hlk (u32, m26, m27) rfl hS36 d_Te_readUnit_105
            · have hS36 := hS34.2 c35
              refine z_iconst (v := (1 : Int32)) C d_Te_readUnit_100 (by decide) ?_
              refine z_goto (tgt := 105) C d_Te_readUnit_101 (by decide) ?_
              exact z_zret C hr rfl hlk (u32, m26, m27) rfl hS36 d_Te_readUnit_105
        · have hS20 := hS18.2 c19
          refine z_iconst (v := (0 : Int32)) C d_Te_readUnit_62 (by decide) ?_
          exact z_zret C hr rfl hlk (t_at, t_draft_length, t_draft_steps) rfl hS20 d_Te_readUnit_63
      · have hS18 := hS16.2 c17
        refine z_iload_n C d_Te_readUnit_51 rfl 0 rfl ?_
        refine z_bipush (v := (45 : Int32)) C d_Te_readUnit_52 (by decide) ?_
        refine z_icmp_ne (tgt := 62) C d_Te_readUnit_54 (by decide) (fun c37 => ?_) (fun c37 => ?_)
        · have hS38 := hS18.1 c37
          refine z_iconst (v := (0 : Int32)) C d_Te_readUnit_62 (by decide) ?_
          exact z_zret C hr rfl hlk (t_at, t_draft_length, t_draft_steps) rfl hS38 d_Te_readUnit_63
        · have hS38 := hS18.2 c37
          refine z_iload_n C d_Te_readUnit_57 rfl 2 rfl ?_
          refine z_iconst (v := (5 : Int32)) C d_Te_readUnit_58 (by decide) ?_
          refine z_icmp_lt (tgt := 64) C d_Te_readUnit_59 (by decide) (fun c39 => ?_) (fun c39 => ?_)
          · have hS40 := hS38.1 c39
            refine z_aload_n C d_Te_readUnit_64 rfl 1 rfl ?_
            refine z_dup C d_Te_readUnit_65 rfl ?_
            refine z_get C 0 rfl rfl in_Te 3 (by decide) rfl wf_Te_26 rfl d_Te_readUnit_66 ?_
            refine z_iconst (v := (1 : Int32)) C d_Te_readUnit_69 (by decide) ?_
            refine z_iadd C d_Te_readUnit_70 ?_
            refine z_put (ty := .int) (ws' := [zo 3 q_t [.ref q_t_characters, .ref q_t_draft, .int t_length, .int (t_at + (1 : Int32))], zaC K q_t_characters 48 t_characters, zo 2 q_t_draft [.ref q_t_draft_steps, .int t_draft_length, .int t_draft_actions, .int t_draft_site, .int t_draft_exit, .int t_draft_conditional, .int t_draft_there, .int t_draft_on, .int t_draft_failures, .int t_draft_meetings], zaI K q_t_draft_steps 48 t_draft_steps]) C ty_Te to_Te nm_Te 0 rfl rfl in_Te 3 (by decide) rfl wf_Te_26 rfl rfl rfl rfl (Nat.le_of_ble_eq_true rfl) rfl d_Te_readUnit_71 ?_
            refine z_iload_n C d_Te_readUnit_74 rfl 0 rfl ?_
            refine z_bipush (v := (40 : Int32)) C d_Te_readUnit_75 (by decide) ?_
            refine z_icmp_ne (tgt := 106) C d_Te_readUnit_77 (by decide) (fun c41 => ?_) (fun c41 => absurd c41 c17)
            refine z_aload_n C d_Te_readUnit_106 rfl 1 rfl ?_
            refine z_iload_n C d_Te_readUnit_107 rfl 2 rfl ?_
            refine z_iconst (v := (1 : Int32)) C d_Te_readUnit_108 (by decide) ?_
            refine z_iadd C d_Te_readUnit_109 ?_
            refine z_callVi (As := [.int (x1 + (1 : Int32))]) (b := q_t) (st := []) (wr := []) (wj := fun u => [zo 3 q_t [.ref q_t_characters, .ref q_t_draft, .int t_length, .int u.1], zaC K q_t_characters 48 t_characters, zo 2 q_t_draft [.ref q_t_draft_steps, .int u.2.1, .int t_draft_actions, .int t_draft_site, .int t_draft_exit, .int t_draft_conditional, .int t_draft_there, .int t_draft_on, .int t_draft_failures, .int t_draft_meetings], zaI K q_t_draft_steps 48 u.2.2]) C 0 rfl rfl (hrec1 t_length (t_at + (1 : Int32)) t_characters t_draft_length t_draft_actions t_draft_site t_draft_exit t_draft_conditional t_draft_there t_draft_on t_draft_failures t_draft_meetings t_draft_steps (x1 + (1 : Int32)) hS40.1) (cwV 1 C.2.2.2.2.1 (z_gV wl_Te_78 wi_Te_readUnit wv_Te_readUnit wz_Te wk_Te_readUnit) rfl rfl rfl (by decide +kernel) ⟨by show nn + 4 + 1 ≤ nn + 1 + 4; omega, by show 8 + (3 + 11) + (30 * nn + 200) ≤ 30 * (nn + 1) + 200; omega⟩) [0, 1, 2, 3] [] [0, 1, 2, 3] rfl rfl rfl rfl (by decide) (fun _ => rfl) rfl rfl rfl (Nat.le_of_ble_eq_true rfl) d_Te_readUnit_110 ⟨Nat.le_of_ble_eq_true rfl, Nat.le_of_ble_eq_true rfl⟩ (fun r42 u43 e44 => ?_)
            obtain ⟨m45, m46, m47⟩ := u43
            refine z_weq (ws' := [zo 3 q_t [.ref q_t_characters, .ref q_t_draft, .int t_length, .int m45], zaC K q_t_characters 48 t_characters, zo 2 q_t_draft [.ref q_t_draft_steps, .int m46, .int t_draft_actions, .int t_draft_site, .int t_draft_exit, .int t_draft_conditional, .int t_draft_there, .int t_draft_on, .int t_draft_failures, .int t_draft_meetings], zaI K q_t_draft_steps 48 m47]) rfl ?_
            have hS48 := hS40.2 r42 m45 m46 m47 e44
            refine z_if_ne (tgt := 118) C d_Te_readUnit_113 (by decide) (fun c49 => ?_) (fun c49 => ?_)
            · have hS50 := hS48.1 c49
              refine z_aload_n C d_Te_readUnit_118 rfl 1 rfl ?_
              refine z_get C 0 rfl rfl in_Te 1 (by decide) rfl wf_Te_18 rfl d_Te_readUnit_119 ?_
              refine z_bipush (v := (126 : Int32)) C d_Te_readUnit_122 (by decide) ?_
              refine z_callVv (As := [.int (126 : Int32)]) (b := q_t_draft) (st := []) (wr := [zo 3 q_t [.ref q_t_characters, .ref q_t_draft, .int t_length, .int m45], zaC K q_t_characters 48 t_characters]) (wj := fun u => [zo 3 q_t [.ref q_t_characters, .ref q_t_draft, .int t_length, .int m45], zaC K q_t_characters 48 t_characters, zo 2 q_t_draft [.ref q_t_draft_steps, .int u.1, .int t_draft_actions, .int t_draft_site, .int t_draft_exit, .int t_draft_conditional, .int t_draft_there, .int t_draft_on, .int t_draft_failures, .int t_draft_meetings], zaI K q_t_draft_steps 48 u.2]) C 2 rfl rfl (c_Ru_add l D K q_t_draft q_t_draft_steps m46 t_draft_actions t_draft_site t_draft_exit t_draft_conditional t_draft_there t_draft_on t_draft_failures t_draft_meetings m47 (126 : Int32) hS50.1) (cwV 1 C.2.2.2.2.1 (z_gV wl_Te_71 wi_Ru_add wv_Ru_add wz_Ru wk_Ru_add) rfl rfl rfl (by decide +kernel) ⟨by show 0 + 1 ≤ nn + 1 + 4; omega, by show 8 + (2 + 11) + (0) ≤ 30 * (nn + 1) + 200; omega⟩) [2, 3] [0, 1] [0, 1, 2, 3] rfl rfl rfl rfl (by decide) (fun _ => rfl) rfl rfl rfl (Nat.le_of_ble_eq_true rfl) d_Te_readUnit_124 ⟨Nat.le_of_ble_eq_true rfl, Nat.le_of_ble_eq_true rfl⟩ (fun u52 e53 => ?_)
              obtain ⟨m54, m55⟩ := u52
              refine z_weq (ws' := [zo 3 q_t [.ref q_t_characters, .ref q_t_draft, .int t_length, .int m45], zaC K q_t_characters 48 t_characters, zo 2 q_t_draft [.ref q_t_draft_steps, .int m54, .int t_draft_actions, .int t_draft_site, .int t_draft_exit, .int t_draft_conditional, .int t_draft_there, .int t_draft_on, .int t_draft_failures, .int t_draft_meetings], zaI K q_t_draft_steps 48 m55]) rfl ?_
              have hS56 := hS50.2 m54 m55 e53
              refine z_iconst (v := (1 : Int32)) C d_Te_readUnit_127 (by decide) ?_
              exact z_zret C hr rfl hlk (m45, m54, m55) rfl hS56 d_Te_readUnit_128
            · have hS50 := hS48.2 c49
              refine z_iconst (v := (0 : Int32)) C d_Te_readUnit_116 (by decide) ?_
              exact z_zret C hr rfl hlk (m45, m46, m47) rfl hS50 d_Te_readUnit_117
          · have hS40 := hS38.2 c39
            refine z_iconst (v := (0 : Int32)) C d_Te_readUnit_62 (by decide) ?_
            exact z_zret C hr rfl hlk (t_at, t_draft_length, t_draft_steps) rfl hS40 d_Te_readUnit_63
    · have hS16 := hS14.2 c15
      refine z_aload_n C d_Te_readUnit_25 rfl 1 rfl ?_
      refine z_dup C d_Te_readUnit_26 rfl ?_
      refine z_get C 0 rfl rfl in_Te 3 (by decide) rfl wf_Te_26 rfl d_Te_readUnit_27 ?_
      refine z_iconst (v := (1 : Int32)) C d_Te_readUnit_30 (by decide) ?_
      refine z_iadd C d_Te_readUnit_31 ?_
      refine z_put (ty := .int) (ws' := [zo 3 q_t [.ref q_t_characters, .ref q_t_draft, .int t_length, .int (t_at + (1 : Int32))], zaC K q_t_characters 48 t_characters, zo 2 q_t_draft [.ref q_t_draft_steps, .int t_draft_length, .int t_draft_actions, .int t_draft_site, .int t_draft_exit, .int t_draft_conditional, .int t_draft_there, .int t_draft_on, .int t_draft_failures, .int t_draft_meetings], zaI K q_t_draft_steps 48 t_draft_steps]) C ty_Te to_Te nm_Te 0 rfl rfl in_Te 3 (by decide) rfl wf_Te_26 rfl rfl rfl rfl (Nat.le_of_ble_eq_true rfl) rfl d_Te_readUnit_32 ?_
      refine z_aload_n C d_Te_readUnit_35 rfl 1 rfl ?_
      refine z_get C 0 rfl rfl in_Te 1 (by decide) rfl wf_Te_18 rfl d_Te_readUnit_36 ?_
      refine z_iload_n C d_Te_readUnit_39 rfl 0 rfl ?_
      refine z_callVv (As := [.int r1]) (b := q_t_draft) (st := []) (wr := [zo 3 q_t [.ref q_t_characters, .ref q_t_draft, .int t_length, .int (t_at + (1 : Int32))], zaC K q_t_characters 48 t_characters]) (wj := fun u => [zo 3 q_t [.ref q_t_characters, .ref q_t_draft, .int t_length, .int (t_at + (1 : Int32))], zaC K q_t_characters 48 t_characters, zo 2 q_t_draft [.ref q_t_draft_steps, .int u.1, .int t_draft_actions, .int t_draft_site, .int t_draft_exit, .int t_draft_conditional, .int t_draft_there, .int t_draft_on, .int t_draft_failures, .int t_draft_meetings], zaI K q_t_draft_steps 48 u.2]) C 2 rfl rfl (c_Ru_add l D K q_t_draft q_t_draft_steps t_draft_length t_draft_actions t_draft_site t_draft_exit t_draft_conditional t_draft_there t_draft_on t_draft_failures t_draft_meetings t_draft_steps r1 hS16.1) (cwV 1 C.2.2.2.2.1 (z_gV wl_Te_71 wi_Ru_add wv_Ru_add wz_Ru wk_Ru_add) rfl rfl rfl (by decide +kernel) ⟨by show 0 + 1 ≤ nn + 1 + 4; omega, by show 8 + (2 + 11) + (0) ≤ 30 * (nn + 1) + 200; omega⟩) [2, 3] [0, 1] [0, 1, 2, 3] rfl rfl rfl rfl (by decide) (fun _ => rfl) rfl rfl rfl (Nat.le_of_ble_eq_true rfl) d_Te_readUnit_40 ⟨Nat.le_of_ble_eq_true rfl, Nat.le_of_ble_eq_true rfl⟩ (fun u58 e59 => ?_)
      obtain ⟨m60, m61⟩ := u58
      refine z_weq (ws' := [zo 3 q_t [.ref q_t_characters, .ref q_t_draft, .int t_length, .int (t_at + (1 : Int32))], zaC K q_t_characters 48 t_characters, zo 2 q_t_draft [.ref q_t_draft_steps, .int m60, .int t_draft_actions, .int t_draft_site, .int t_draft_exit, .int t_draft_conditional, .int t_draft_there, .int t_draft_on, .int t_draft_failures, .int t_draft_meetings], zaI K q_t_draft_steps 48 m61]) rfl ?_
      have hS62 := hS16.2 m60 m61 e59
      refine z_iconst (v := (1 : Int32)) C d_Te_readUnit_43 (by decide) ?_
      exact z_zret C hr rfl hlk (t_at + (1 : Int32), m60, m61) rfl hS62 d_Te_readUnit_44
  · have hS10 := hS8.2 c9
    refine z_aload_n C d_Te_readUnit_12 rfl 1 rfl ?_
    refine z_callVv (As := []) (b := q_t) (st := []) (wr := []) (wj := fun u => [zo 3 q_t [.ref q_t_characters, .ref q_t_draft, .int t_length, .int u.1], zaC K q_t_characters 48 t_characters, zo 2 q_t_draft [.ref q_t_draft_steps, .int u.2.1, .int t_draft_actions, .int t_draft_site, .int t_draft_exit, .int t_draft_conditional, .int t_draft_there, .int t_draft_on, .int t_draft_failures, .int t_draft_meetings], zaI K q_t_draft_steps 48 u.2.2]) C 0 rfl rfl (c_Te_readNumber l D K q_t q_t_characters q_t_draft q_t_draft_steps t_length t_at t_characters t_draft_length t_draft_actions t_draft_site t_draft_exit t_draft_conditional t_draft_there t_draft_on t_draft_failures t_draft_meetings t_draft_steps hS10.1) (cwV 0 C.2.2.2.2.1 (z_gV wl_Te_89 wi_Te_readNumber wv_Te_readNumber wz_Te wk_Te_readNumber) rfl rfl rfl (by decide +kernel) ⟨by show 1 + 1 ≤ nn + 1 + 4; omega, by show 8 + (3 + 11) + (21) ≤ 30 * (nn + 1) + 200; omega⟩) [0, 1, 2, 3] [] [0, 1, 2, 3] rfl rfl rfl rfl (by decide) (fun _ => rfl) rfl rfl rfl (Nat.le_of_ble_eq_true rfl) d_Te_readUnit_13 ⟨Nat.le_of_ble_eq_true rfl, Nat.le_of_ble_eq_true rfl⟩ (fun u64 e65 => ?_)
    obtain ⟨m66, m67, m68⟩ := u64
    refine z_weq (ws' := [zo 3 q_t [.ref q_t_characters, .ref q_t_draft, .int t_length, .int m66], zaC K q_t_characters 48 t_characters, zo 2 q_t_draft [.ref q_t_draft_steps, .int m67, .int t_draft_actions, .int t_draft_site, .int t_draft_exit, .int t_draft_conditional, .int t_draft_there, .int t_draft_on, .int t_draft_failures, .int t_draft_meetings], zaI K q_t_draft_steps 48 m68]) rfl ?_
    have hS69 := hS10.2 m66 m67 m68 e65
    refine z_iconst (v := (1 : Int32)) C d_Te_readUnit_16 (by decide) ?_
    exact z_zret C hr rfl hlk (m66, m67, m68) rfl hS69 d_Te_readUnit_17
def sR_Te_readUnit (rd : zRD) (t_length : Int32) (t_at : Int32) (t_characters : Nat → Int32) (t_draft_length : Int32) (t_draft_steps : Nat → Int32) (x1 : Int32) : Int32 × Int32 × Int32 × (Nat → Int32) := (zl1 (s_Te_next t_length t_at t_characters) fun r1 => (zl1 (s_Te_isDigit r1) fun r5 => (if r5 = 0 then (zl1 (s_Te_isName r1) fun r11 => (if r11 = 0 then (if r1 = (40 : Int32) then (if x1 < (5 : Int32) then (zl2 (rd 0 t_length (t_at + (1 : Int32)) t_characters t_draft_length t_draft_steps (0 : Int32) (x1 + (1 : Int32))) (fun r22 z_r22 => zl2 z_r22 (fun m25 z_m25 => zl2 z_m25 (fun m26 m27 => (if r22 = 0 then ((0 : Int32), m25, m26, m27) else (zl2 (s_Te_pass t_length m25 t_characters (41 : Int32)) (fun r31 u32 => (if r31 = 0 then ((0 : Int32), u32, m26, m27) else ((1 : Int32), u32, m26, m27))))))))) else ((0 : Int32), t_at, t_draft_length, t_draft_steps)) else (if r1 = (45 : Int32) then (if x1 < (5 : Int32) then (zl2 (rd 1 t_length (t_at + (1 : Int32)) t_characters t_draft_length t_draft_steps (x1 + (1 : Int32)) (0 : Int32)) (fun r42 z_r42 => zl2 z_r42 (fun m45 z_m45 => zl2 z_m45 (fun m46 m47 => (if r42 = 0 then ((0 : Int32), m45, m46, m47) else (zl2 (s_Ru_add m46 m47 (126 : Int32)) (fun m54 m55 => ((1 : Int32), m45, m54, m55)))))))) else ((0 : Int32), t_at, t_draft_length, t_draft_steps)) else ((0 : Int32), t_at, t_draft_length, t_draft_steps))) else (zl2 (s_Ru_add t_draft_length t_draft_steps r1) (fun m60 m61 => ((1 : Int32), t_at + (1 : Int32), m60, m61))))) else (zl2 (s_Te_readNumber t_length t_at t_characters t_draft_length t_draft_steps) (fun m66 z_m66 => zl2 z_m66 (fun m67 m68 => ((1 : Int32), m66, m67, m68)))))))
def pR_Te_readUnit (rd : zRD) (prd : zRP) (t_length : Int32) (t_at : Int32) (t_characters : Nat → Int32) (t_draft_length : Int32) (t_draft_steps : Nat → Int32) (x1 : Int32) : Prop := WP_Te_readUnit rd prd t_length t_at t_characters t_draft_length t_draft_steps x1 (fun _ _ => True)
set_option maxRecDepth 100000 in
theorem v_Te_readUnit (rd : zRD) (prd : zRP) (t_length : Int32) (t_at : Int32) (t_characters : Nat → Int32) (t_draft_length : Int32) (t_draft_steps : Nat → Int32) (x1 : Int32) (hp : pR_Te_readUnit rd prd t_length t_at t_characters t_draft_length t_draft_steps x1) : WP_Te_readUnit rd prd t_length t_at t_characters t_draft_length t_draft_steps x1 (fun r u => sR_Te_readUnit rd t_length t_at t_characters t_draft_length t_draft_steps x1 = (r, u.1, u.2.1, u.2.2)) := by
  unfold pR_Te_readUnit WP_Te_readUnit at hp
  obtain ⟨tgt, f0⟩ : ∃ tgt, sR_Te_readUnit rd t_length t_at t_characters t_draft_length t_draft_steps x1 = tgt := ⟨_, rfl⟩
  rw [f0]
  unfold sR_Te_readUnit at f0
  unfold WP_Te_readUnit
  refine ⟨hp.1, ?_⟩
  have g2 := hp.2
  intro r1 e3
  have g1 := g2 r1 e3
  have f1 := Eq.trans (Eq.symm (zl1_eq e3)) f0
  intro r5 e7
  have g3 := g1 r5 e7
  have f3 := Eq.trans (Eq.symm (zl1_eq e7)) f1
  refine ⟨fun c9 => ?_, fun c9 => ?_⟩
  · have f4 := Eq.trans (Eq.symm (if_pos c9)) f3
    have g4 := g3.1 c9
    intro r11 e13
    have g5 := g4 r11 e13
    have f5 := Eq.trans (Eq.symm (zl1_eq e13)) f4
    refine ⟨fun c15 => ?_, fun c15 => ?_⟩
    · have f6 := Eq.trans (Eq.symm (if_pos c15)) f5
      have g6 := g5.1 c15
      refine ⟨fun c17 => ?_, fun c17 => ?_⟩
      · have f7 := Eq.trans (Eq.symm (if_pos c17)) f6
        have g7 := g6.1 c17
        refine ⟨fun c19 => ?_, fun c19 => ?_⟩
        · have f8 := Eq.trans (Eq.symm (if_pos c19)) f7
          have g8 := g7.1 c19
          refine ⟨g8.1, ?_⟩
          have g10 := g8.2
          intro r22 m25 m26 m27 e24
          have g9 := g10 r22 m25 m26 m27 e24
          have f9 := Eq.trans (Eq.symm (zl2_eq e24)) f8
          have f9 := Eq.trans (Eq.symm (zl2_eq (Eq.refl (m25, m26, m27)))) f9
          have f9 := Eq.trans (Eq.symm (zl2_eq (Eq.refl (m26, m27)))) f9
          refine ⟨fun c29 => ?_, fun c29 => ?_⟩
          · have f11 := Eq.trans (Eq.symm (if_pos c29)) f9
            have g11 := g9.1 c29
            exact f11.symm
          · have f11 := Eq.trans (Eq.symm (if_neg c29)) f9
            have g11 := g9.2 c29
            refine ⟨g11.1, ?_⟩
            have g13 := g11.2
            intro r31 u32 e33
            have g12 := g13 r31 u32 e33
            have f12 := Eq.trans (Eq.symm (zl2_eq e33)) f11
            refine ⟨fun c35 => ?_, fun c35 => ?_⟩
            · have f14 := Eq.trans (Eq.symm (if_pos c35)) f12
              have g14 := g12.1 c35
              exact f14.symm
            · have f14 := Eq.trans (Eq.symm (if_neg c35)) f12
              have g14 := g12.2 c35
              exact f14.symm
        · have f8 := Eq.trans (Eq.symm (if_neg c19)) f7
          have g8 := g7.2 c19
          exact f8.symm
      · have f7 := Eq.trans (Eq.symm (if_neg c17)) f6
        have g7 := g6.2 c17
        refine ⟨fun c37 => ?_, fun c37 => ?_⟩
        · have f15 := Eq.trans (Eq.symm (if_neg c37)) f7
          have g15 := g7.1 c37
          exact f15.symm
        · have f15 := Eq.trans (Eq.symm (if_pos c37)) f7
          have g15 := g7.2 c37
          refine ⟨fun c39 => ?_, fun c39 => ?_⟩
          · have f16 := Eq.trans (Eq.symm (if_pos c39)) f15
            have g16 := g15.1 c39
            refine ⟨g16.1, ?_⟩
            have g18 := g16.2
            intro r42 m45 m46 m47 e44
            have g17 := g18 r42 m45 m46 m47 e44
            have f17 := Eq.trans (Eq.symm (zl2_eq e44)) f16
            have f17 := Eq.trans (Eq.symm (zl2_eq (Eq.refl (m45, m46, m47)))) f17
            have f17 := Eq.trans (Eq.symm (zl2_eq (Eq.refl (m46, m47)))) f17
            refine ⟨fun c49 => ?_, fun c49 => ?_⟩
            · have f19 := Eq.trans (Eq.symm (if_neg c49)) f17
              have g19 := g17.1 c49
              refine ⟨g19.1, ?_⟩
              have g21 := g19.2
              intro m54 m55 e53
              have g20 := g21 m54 m55 e53
              have f20 := Eq.trans (Eq.symm (zl2_eq e53)) f19
              exact f20.symm
            · have f19 := Eq.trans (Eq.symm (if_pos c49)) f17
              have g19 := g17.2 c49
              exact f19.symm
          · have f16 := Eq.trans (Eq.symm (if_neg c39)) f15
            have g16 := g15.2 c39
            exact f16.symm
    · have f6 := Eq.trans (Eq.symm (if_neg c15)) f5
      have g6 := g5.2 c15
      refine ⟨g6.1, ?_⟩
      have g23 := g6.2
      intro m60 m61 e59
      have g22 := g23 m60 m61 e59
      have f22 := Eq.trans (Eq.symm (zl2_eq e59)) f6
      exact f22.symm
  · have f4 := Eq.trans (Eq.symm (if_neg c9)) f3
    have g4 := g3.2 c9
    refine ⟨g4.1, ?_⟩
    have g25 := g4.2
    intro m66 m67 m68 e65
    have g24 := g25 m66 m67 m68 e65
    have f24 := Eq.trans (Eq.symm (zl2_eq e65)) f4
    have f24 := Eq.trans (Eq.symm (zl2_eq (Eq.refl (m67, m68)))) f24
    exact f24.symm
def s_Te_rd : Nat → zRD
  | 0, _, _, a, _, dl, ds, _, _ => (0, a, dl, ds)
  | n + 1, m, l, a, ch, dl, ds, x, y => if m = 0 then sR_Te_readLevel (s_Te_rd n) l a ch dl ds x y else sR_Te_readUnit (s_Te_rd n) l a ch dl ds x
def p_Te_rd : Nat → zRP
  | 0, _, _, _, _, _, _, _, _ => False
  | n + 1, m, l, a, ch, dl, ds, x, y => if m = 0 then pR_Te_readLevel (s_Te_rd n) (p_Te_rd n) l a ch dl ds x y else pR_Te_readUnit (s_Te_rd n) (p_Te_rd n) l a ch dl ds x
set_option maxHeartbeats 4000000 in
theorem c_Te_rd (l : Launch) (D : va_G) (K : Nat → ClassId) (q_t : Nat) (q_t_characters : Nat) (q_t_draft : Nat) (q_t_draft_steps : Nat) : ∀ n : Nat, (∀ (t_length : Int32) (t_at : Int32) (t_characters : Nat → Int32) (t_draft_length : Int32) (t_draft_actions : Int32) (t_draft_site : Int32) (t_draft_exit : Int32) (t_draft_conditional : Int32) (t_draft_there : Int32) (t_draft_on : Int32) (t_draft_failures : Int32) (t_draft_meetings : Int32) (t_draft_steps : Nat → Int32) (a b : Int32), p_Te_rd n 0 t_length t_at t_characters t_draft_length t_draft_steps a b → zCi l y_Te_readLevel wy_Te_readLevel (zRm n) D zcl (zT K) [.ref q_t, .int a, .int b] (w_Te_rd K q_t q_t_characters q_t_draft q_t_draft_steps t_length t_characters t_draft_actions t_draft_site t_draft_exit t_draft_conditional t_draft_there t_draft_on t_draft_failures t_draft_meetings (t_at, t_draft_length, t_draft_steps)) (w_Te_rd K q_t q_t_characters q_t_draft q_t_draft_steps t_length t_characters t_draft_actions t_draft_site t_draft_exit t_draft_conditional t_draft_there t_draft_on t_draft_failures t_draft_meetings) (fun r u => s_Te_rd n 0 t_length t_at t_characters t_draft_length t_draft_steps a b = (r, u.1, u.2.1, u.2.2)) 0 0) ∧ (∀ (t_length : Int32) (t_at : Int32) (t_characters : Nat → Int32) (t_draft_length : Int32) (t_draft_actions : Int32) (t_draft_site : Int32) (t_draft_exit : Int32) (t_draft_conditional : Int32) (t_draft_there : Int32) (t_draft_on : Int32) (t_draft_failures : Int32) (t_draft_meetings : Int32) (t_draft_steps : Nat → Int32) (a : Int32), p_Te_rd n 1 t_length t_at t_characters t_draft_length t_draft_steps a (0 : Int32) → zCi l y_Te_readUnit wy_Te_readUnit (zRm n) D zcl (zT K) [.ref q_t, .int a] (w_Te_rd K q_t q_t_characters q_t_draft q_t_draft_steps t_length t_characters t_draft_actions t_draft_site t_draft_exit t_draft_conditional t_draft_there t_draft_on t_draft_failures t_draft_meetings (t_at, t_draft_length, t_draft_steps)) (w_Te_rd K q_t q_t_characters q_t_draft q_t_draft_steps t_length t_characters t_draft_actions t_draft_site t_draft_exit t_draft_conditional t_draft_there t_draft_on t_draft_failures t_draft_meetings) (fun r u => s_Te_rd n 1 t_length t_at t_characters t_draft_length t_draft_steps a (0 : Int32) = (r, u.1, u.2.1, u.2.2)) 0 0) := by
  intro n
  induction n with
  | zero => exact ⟨fun _ _ _ _ _ _ _ _ _ _ _ _ _ _ _ h => h.elim, fun _ _ _ _ _ _ _ _ _ _ _ _ _ _ h => h.elim⟩
  | succ n ih =>
    refine ⟨fun t_length t_at t_characters t_draft_length t_draft_actions t_draft_site t_draft_exit t_draft_conditional t_draft_there t_draft_on t_draft_failures t_draft_meetings t_draft_steps a b hp => ?_, fun t_length t_at t_characters t_draft_length t_draft_actions t_draft_site t_draft_exit t_draft_conditional t_draft_there t_draft_on t_draft_failures t_draft_meetings t_draft_steps a hp => ?_⟩
    · unfold p_Te_rd at hp
      unfold s_Te_rd
      exact cw_Te_readLevel l D K q_t q_t_characters q_t_draft q_t_draft_steps t_length t_at t_characters t_draft_length t_draft_actions t_draft_site t_draft_exit t_draft_conditional t_draft_there t_draft_on t_draft_failures t_draft_meetings t_draft_steps a b n (s_Te_rd n) (p_Te_rd n) ih.1 ih.2 (v_Te_readLevel (s_Te_rd n) (p_Te_rd n) t_length t_at t_characters t_draft_length t_draft_steps a b hp)
    · unfold p_Te_rd at hp
      unfold s_Te_rd
      exact cw_Te_readUnit l D K q_t q_t_characters q_t_draft q_t_draft_steps t_length t_at t_characters t_draft_length t_draft_actions t_draft_site t_draft_exit t_draft_conditional t_draft_there t_draft_on t_draft_failures t_draft_meetings t_draft_steps a n (s_Te_rd n) (p_Te_rd n) ih.1 ih.2 (v_Te_readUnit (s_Te_rd n) (p_Te_rd n) t_length t_at t_characters t_draft_length t_draft_steps a hp)
def s_Te_readLevel (t_length : Int32) (t_at : Int32) (t_characters : Nat → Int32) (t_draft_length : Int32) (t_draft_steps : Nat → Int32) (x1 x2 : Int32) : Int32 × Int32 × Int32 × (Nat → Int32) := s_Te_rd 30 0 t_length t_at t_characters t_draft_length t_draft_steps x1 x2
def p_Te_readLevel (t_length : Int32) (t_at : Int32) (t_characters : Nat → Int32) (t_draft_length : Int32) (t_draft_steps : Nat → Int32) (x1 x2 : Int32) : Prop := p_Te_rd 30 0 t_length t_at t_characters t_draft_length t_draft_steps x1 x2
abbrev rm_Te_readLevel : Room := { frames := 34, cells := 0, slots := 0, locals := 1100 }
theorem c_Te_readLevel (l : Launch) (D : va_G) (K : Nat → ClassId) (q_t : Nat) (q_t_characters : Nat) (q_t_draft : Nat) (q_t_draft_steps : Nat) (t_length : Int32) (t_at : Int32) (t_characters : Nat → Int32) (t_draft_length : Int32) (t_draft_actions : Int32) (t_draft_site : Int32) (t_draft_exit : Int32) (t_draft_conditional : Int32) (t_draft_there : Int32) (t_draft_on : Int32) (t_draft_failures : Int32) (t_draft_meetings : Int32) (t_draft_steps : Nat → Int32) (x1 x2 : Int32) (hp : p_Te_readLevel t_length t_at t_characters t_draft_length t_draft_steps x1 x2) : zCi l y_Te_readLevel wy_Te_readLevel rm_Te_readLevel D zcl (zT K) [.ref q_t, .int x1, .int x2] (w_Te_readLevel K q_t q_t_characters q_t_draft q_t_draft_steps t_length t_characters t_draft_actions t_draft_site t_draft_exit t_draft_conditional t_draft_there t_draft_on t_draft_failures t_draft_meetings (t_at, t_draft_length, t_draft_steps)) (w_Te_readLevel K q_t q_t_characters q_t_draft q_t_draft_steps t_length t_characters t_draft_actions t_draft_site t_draft_exit t_draft_conditional t_draft_there t_draft_on t_draft_failures t_draft_meetings) (fun r u => s_Te_readLevel t_length t_at t_characters t_draft_length t_draft_steps x1 x2 = (r, u.1, u.2.1, u.2.2)) 0 0 := (c_Te_rd l D K q_t q_t_characters q_t_draft q_t_draft_steps 30).1 t_length t_at t_characters t_draft_length t_draft_actions t_draft_site t_draft_exit t_draft_conditional t_draft_there t_draft_on t_draft_failures t_draft_meetings t_draft_steps x1 x2 hp
def s_Te_readUnit (t_length : Int32) (t_at : Int32) (t_characters : Nat → Int32) (t_draft_length : Int32) (t_draft_steps : Nat → Int32) (x1 : Int32) : Int32 × Int32 × Int32 × (Nat → Int32) := s_Te_rd 30 1 t_length t_at t_characters t_draft_length t_draft_steps x1 (0 : Int32)
def p_Te_readUnit (t_length : Int32) (t_at : Int32) (t_characters : Nat → Int32) (t_draft_length : Int32) (t_draft_steps : Nat → Int32) (x1 : Int32) : Prop := p_Te_rd 30 1 t_length t_at t_characters t_draft_length t_draft_steps x1 (0 : Int32)
abbrev rm_Te_readUnit : Room := { frames := 34, cells := 0, slots := 0, locals := 1100 }
theorem c_Te_readUnit (l : Launch) (D : va_G) (K : Nat → ClassId) (q_t : Nat) (q_t_characters : Nat) (q_t_draft : Nat) (q_t_draft_steps : Nat) (t_length : Int32) (t_at : Int32) (t_characters : Nat → Int32) (t_draft_length : Int32) (t_draft_actions : Int32) (t_draft_site : Int32) (t_draft_exit : Int32) (t_draft_conditional : Int32) (t_draft_there : Int32) (t_draft_on : Int32) (t_draft_failures : Int32) (t_draft_meetings : Int32) (t_draft_steps : Nat → Int32) (x1 : Int32) (hp : p_Te_readUnit t_length t_at t_characters t_draft_length t_draft_steps x1) : zCi l y_Te_readUnit wy_Te_readUnit rm_Te_readUnit D zcl (zT K) [.ref q_t, .int x1] (w_Te_readUnit K q_t q_t_characters q_t_draft q_t_draft_steps t_length t_characters t_draft_actions t_draft_site t_draft_exit t_draft_conditional t_draft_there t_draft_on t_draft_failures t_draft_meetings (t_at, t_draft_length, t_draft_steps)) (w_Te_readUnit K q_t q_t_characters q_t_draft q_t_draft_steps t_length t_characters t_draft_actions t_draft_site t_draft_exit t_draft_conditional t_draft_there t_draft_on t_draft_failures t_draft_meetings) (fun r u => s_Te_readUnit t_length t_at t_characters t_draft_length t_draft_steps x1 = (r, u.1, u.2.1, u.2.2)) 0 0 := (c_Te_rd l D K q_t q_t_characters q_t_draft q_t_draft_steps 30).2 t_length t_at t_characters t_draft_length t_draft_actions t_draft_site t_draft_exit t_draft_conditional t_draft_there t_draft_on t_draft_failures t_draft_meetings t_draft_steps x1 hp
-- RuleTracer$RuleText.readGathering()Z: reads ['t.length', 't.at', 't.characters', 't.draft.length', 't.draft.steps'], changes ['t.at', 't.draft.length', 't.draft.steps']
abbrev w_Te_readGathering (K : Nat → ClassId) (q_t : Nat) (q_t_characters : Nat) (q_t_draft : Nat) (q_t_draft_steps : Nat) (t_length : Int32) (t_characters : Nat → Int32) (t_draft_actions : Int32) (t_draft_site : Int32) (t_draft_exit : Int32) (t_draft_conditional : Int32) (t_draft_there : Int32) (t_draft_on : Int32) (t_draft_failures : Int32) (t_draft_meetings : Int32) (u : Int32 × Int32 × (Nat → Int32)) : va_W := [zo 3 q_t [.ref q_t_characters, .ref q_t_draft, .int t_length, .int u.1], zaC K q_t_characters 48 t_characters, zo 2 q_t_draft [.ref q_t_draft_steps, .int u.2.1, .int t_draft_actions, .int t_draft_site, .int t_draft_exit, .int t_draft_conditional, .int t_draft_there, .int t_draft_on, .int t_draft_failures, .int t_draft_meetings], zaI K q_t_draft_steps 48 u.2.2]
abbrev rm_Te_readGathering : Room := { frames := 35, cells := 0, slots := 0, locals := 1125 }
abbrev wy_Te_readGathering : List Cond := .code y_Te_readGathering b_Te_readGathering 2 (some .boolean) :: zWT
def WP_Te_readGathering (t_length : Int32) (t_at : Int32) (t_characters : Nat → Int32) (t_draft_length : Int32) (t_draft_steps : Nat → Int32) (Q : Int32 → (Int32 × Int32 × (Nat → Int32)) → Prop) : Prop := p_Te_next t_length t_at t_characters ∧ (∀ (r1 : Int32), s_Te_next t_length t_at t_characters = r1 → ((r1 < (65 : Int32)) → Q (0 : Int32) (t_at, t_draft_length, t_draft_steps)) ∧ ((¬ r1 < (65 : Int32)) → ((r1 ≤ (67 : Int32)) → p_Te_pass t_length (t_at + (1 : Int32)) t_characters (91 : Int32) ∧ (∀ (r9 : Int32) (u10 : Int32), s_Te_pass t_length (t_at + (1 : Int32)) t_characters (91 : Int32) = (r9, u10) → ((r9 = 0) → Q (0 : Int32) (u10, t_draft_length, t_draft_steps)) ∧ ((¬ r9 = 0) → p_Te_readLevel t_length u10 t_characters t_draft_length t_draft_steps (0 : Int32) (0 : Int32) ∧ (∀ (r15 : Int32) (m18 : Int32) (m19 : Int32) (m20 : Nat → Int32), s_Te_readLevel t_length u10 t_characters t_draft_length t_draft_steps (0 : Int32) (0 : Int32) = (r15, m18, m19, m20) → ((r15 = 0) → Q (0 : Int32) (m18, m19, m20)) ∧ ((¬ r15 = 0) → p_Te_pass t_length m18 t_characters (93 : Int32) ∧ (∀ (r24 : Int32) (u25 : Int32), s_Te_pass t_length m18 t_characters (93 : Int32) = (r24, u25) → ((¬ r24 = 0) → p_Te_pass t_length u25 t_characters (61 : Int32) ∧ (∀ (r30 : Int32) (u31 : Int32), s_Te_pass t_length u25 t_characters (61 : Int32) = (r30, u31) → ((r30 = 0) → Q (0 : Int32) (u31, m19, m20)) ∧ ((¬ r30 = 0) → p_Te_readLevel t_length u31 t_characters m19 m20 (0 : Int32) (0 : Int32) ∧ (∀ (r36 : Int32) (m39 : Int32) (m40 : Int32) (m41 : Nat → Int32), s_Te_readLevel t_length u31 t_characters m19 m20 (0 : Int32) (0 : Int32) = (r36, m39, m40, m41) → ((¬ r36 = 0) → p_Ru_add m40 m41 r1 ∧ (∀ (m48 : Int32) (m49 : Nat → Int32), s_Ru_add m40 m41 r1 = (m48, m49) → Q (1 : Int32) (m39, m48, m49))) ∧ ((r36 = 0) → Q (0 : Int32) (m39, m40, m41)))))) ∧ ((r24 = 0) → Q (0 : Int32) (u25, m19, m20)))))))) ∧ ((¬ r1 ≤ (67 : Int32)) → Q (0 : Int32) (t_at, t_draft_length, t_draft_steps))))
set_option maxHeartbeats 4000000 in
set_option maxRecDepth 100000 in
theorem cw_Te_readGathering (l : Launch) (D : va_G) (K : Nat → ClassId) (q_t : Nat) (q_t_characters : Nat) (q_t_draft : Nat) (q_t_draft_steps : Nat) (t_length : Int32) (t_at : Int32) (t_characters : Nat → Int32) (t_draft_length : Int32) (t_draft_actions : Int32) (t_draft_site : Int32) (t_draft_exit : Int32) (t_draft_conditional : Int32) (t_draft_there : Int32) (t_draft_on : Int32) (t_draft_failures : Int32) (t_draft_meetings : Int32) (t_draft_steps : Nat → Int32) {Q : Int32 → (Int32 × Int32 × (Nat → Int32)) → Prop} (hS0 : WP_Te_readGathering t_length t_at t_characters t_draft_length t_draft_steps Q) : zCi l y_Te_readGathering wy_Te_readGathering rm_Te_readGathering D zcl (zT K) [.ref q_t] (w_Te_readGathering K q_t q_t_characters q_t_draft q_t_draft_steps t_length t_characters t_draft_actions t_draft_site t_draft_exit t_draft_conditional t_draft_there t_draft_on t_draft_failures t_draft_meetings (t_at, t_draft_length, t_draft_steps)) (w_Te_readGathering K q_t q_t_characters q_t_draft q_t_draft_steps t_length t_characters t_draft_actions t_draft_site t_draft_exit t_draft_conditional t_draft_there t_draft_on t_draft_failures t_draft_meetings) Q 0 0 := by
  refine z_meti (cc := b_Te_readGathering) (maxL := 2) (ret := (some .boolean)) (by decide) rfl (Nat.le_of_ble_eq_true rfl) ?_
  intro p e s m args below meth c A C hr hlk hnm
  refine z_lpick (lv' := [(0, .ref q_t)]) [0] rfl ?_
  refine z_weq (ws' := [zo 3 q_t [.ref q_t_characters, .ref q_t_draft, .int t_length, .int t_at], zaC K q_t_characters 48 t_characters, zo 2 q_t_draft [.ref q_t_draft_steps, .int t_draft_length, .int t_draft_actions, .int t_draft_site, .int t_draft_exit, .int t_draft_conditional, .int t_draft_there, .int t_draft_on, .int t_draft_failures, .int t_draft_meetings], zaI K q_t_draft_steps 48 t_draft_steps]) rfl ?_
  refine z_aload_n C d_Te_readGathering_0 rfl 0 rfl ?_
  refine z_callVi (As := []) (b := q_t) (st := []) (wr := [zo 2 q_t_draft [.ref q_t_draft_steps, .int t_draft_length, .int t_draft_actions, .int t_draft_site, .int t_draft_exit, .int t_draft_conditional, .int t_draft_there, .int t_draft_on, .int t_draft_failures, .int t_draft_meetings], zaI K q_t_draft_steps 48 t_draft_steps]) (wj := fun u => [zo 3 q_t [.ref q_t_characters, .ref q_t_draft, .int t_length, .int t_at], zaC K q_t_characters 48 t_characters, zo 2 q_t_draft [.ref q_t_draft_steps, .int t_draft_length, .int t_draft_actions, .int t_draft_site, .int t_draft_exit, .int t_draft_conditional, .int t_draft_there, .int t_draft_on, .int t_draft_failures, .int t_draft_meetings], zaI K q_t_draft_steps 48 t_draft_steps]) C 0 rfl rfl (c_Te_next l D K q_t q_t_characters q_t_draft t_length t_at t_characters hS0.1) (cwV 0 C.2.2.2.2.1 (z_gV wl_Te_50 wi_Te_next wv_Te_next wz_Te wk_Te_next) rfl rfl rfl (by decide +kernel) ⟨Nat.le_of_ble_eq_true rfl, Nat.le_of_ble_eq_true rfl⟩) [0, 1] [2, 3] [2, 3, 0, 1] rfl rfl rfl rfl (by decide) (fun _ => rfl) rfl rfl rfl (Nat.le_of_ble_eq_true rfl) d_Te_readGathering_1 ⟨Nat.le_of_ble_eq_true rfl, Nat.le_of_ble_eq_true rfl⟩ (fun r1 u2 e3 => ?_)
  have hS4 := hS0.2 r1 e3
  refine z_istore_n (lv' := [(1, .int r1), (0, .ref q_t)]) C d_Te_readGathering_4 rfl (by decide) rfl ?_
  refine z_iload_n C d_Te_readGathering_5 rfl 0 rfl ?_
  refine z_bipush (v := (65 : Int32)) C d_Te_readGathering_6 (by decide) ?_
  refine z_icmp_lt (tgt := 17) C d_Te_readGathering_8 (by decide) (fun c5 => ?_) (fun c5 => ?_)
  · have hS6 := hS4.1 c5
    refine z_iconst (v := (0 : Int32)) C d_Te_readGathering_17 (by decide) ?_
    exact z_zret C hr rfl hlk (t_at, t_draft_length, t_draft_steps) rfl hS6 d_Te_readGathering_18
  · have hS6 := hS4.2 c5
    refine z_iload_n C d_Te_readGathering_11 rfl 0 rfl ?_
    refine z_bipush (v := (67 : Int32)) C d_Te_readGathering_12 (by decide) ?_
    refine z_icmp_le (tgt := 19) C d_Te_readGathering_14 (by decide) (fun c7 => ?_) (fun c7 => ?_)
    · have hS8 := hS6.1 c7
      refine z_aload_n C d_Te_readGathering_19 rfl 1 rfl ?_
      refine z_dup C d_Te_readGathering_20 rfl ?_
      refine z_get C 0 rfl rfl in_Te 3 (by decide) rfl wf_Te_26 rfl d_Te_readGathering_21 ?_
      refine z_iconst (v := (1 : Int32)) C d_Te_readGathering_24 (by decide) ?_
      refine z_iadd C d_Te_readGathering_25 ?_
      refine z_put (ty := .int) (ws' := [zo 3 q_t [.ref q_t_characters, .ref q_t_draft, .int t_length, .int (t_at + (1 : Int32))], zaC K q_t_characters 48 t_characters, zo 2 q_t_draft [.ref q_t_draft_steps, .int t_draft_length, .int t_draft_actions, .int t_draft_site, .int t_draft_exit, .int t_draft_conditional, .int t_draft_there, .int t_draft_on, .int t_draft_failures, .int t_draft_meetings], zaI K q_t_draft_steps 48 t_draft_steps]) C ty_Te to_Te nm_Te 0 rfl rfl in_Te 3 (by decide) rfl wf_Te_26 rfl rfl rfl rfl (Nat.le_of_ble_eq_true rfl) rfl d_Te_readGathering_26 ?_
      refine z_aload_n C d_Te_readGathering_29 rfl 1 rfl ?_
      refine z_bipush (v := (91 : Int32)) C d_Te_readGathering_30 (by decide) ?_
      refine z_callVi (As := [.int (91 : Int32)]) (b := q_t) (st := []) (wr := [zo 2 q_t_draft [.ref q_t_draft_steps, .int t_draft_length, .int t_draft_actions, .int t_draft_site, .int t_draft_exit, .int t_draft_conditional, .int t_draft_there, .int t_draft_on, .int t_draft_failures, .int t_draft_meetings], zaI K q_t_draft_steps 48 t_draft_steps]) (wj := fun u => [zo 3 q_t [.ref q_t_characters, .ref q_t_draft, .int t_length, .int u], zaC K q_t_characters 48 t_characters, zo 2 q_t_draft [.ref q_t_draft_steps, .int t_draft_length, .int t_draft_actions, .int t_draft_site, .int t_draft_exit, .int t_draft_conditional, .int t_draft_there, .int t_draft_on, .int t_draft_failures, .int t_draft_meetings], zaI K q_t_draft_steps 48 t_draft_steps]) C 0 rfl rfl (c_Te_pass l D K q_t q_t_characters q_t_draft t_length (t_at + (1 : Int32)) t_characters (91 : Int32) hS8.1) (cwV 1 C.2.2.2.2.1 (z_gV wl_Te_46 wi_Te_pass wv_Te_pass wz_Te wk_Te_pass) rfl rfl rfl (by decide +kernel) ⟨Nat.le_of_ble_eq_true rfl, Nat.le_of_ble_eq_true rfl⟩) [0, 1] [2, 3] [2, 3, 0, 1] rfl rfl rfl rfl (by decide) (fun _ => rfl) rfl rfl rfl (Nat.le_of_ble_eq_true rfl) d_Te_readGathering_32 ⟨Nat.le_of_ble_eq_true rfl, Nat.le_of_ble_eq_true rfl⟩ (fun r9 u10 e11 => ?_)
      have hS12 := hS8.2 r9 u10 e11
      refine z_if_eq (tgt := 56) C d_Te_readGathering_35 (by decide) (fun c13 => ?_) (fun c13 => ?_)
      · have hS14 := hS12.1 c13
        refine z_iconst (v := (0 : Int32)) C d_Te_readGathering_56 (by decide) ?_
        exact z_zret C hr rfl hlk (u10, t_draft_length, t_draft_steps) rfl hS14 d_Te_readGathering_57
      · have hS14 := hS12.2 c13
        refine z_aload_n C d_Te_readGathering_38 rfl 1 rfl ?_
        refine z_iconst (v := (0 : Int32)) C d_Te_readGathering_39 (by decide) ?_
        refine z_iconst (v := (0 : Int32)) C d_Te_readGathering_40 (by decide) ?_
        refine z_callVi (As := [.int (0 : Int32), .int (0 : Int32)]) (b := q_t) (st := []) (wr := []) (wj := fun u => [zo 3 q_t [.ref q_t_characters, .ref q_t_draft, .int t_length, .int u.1], zaC K q_t_characters 48 t_characters, zo 2 q_t_draft [.ref q_t_draft_steps, .int u.2.1, .int t_draft_actions, .int t_draft_site, .int t_draft_exit, .int t_draft_conditional, .int t_draft_there, .int t_draft_on, .int t_draft_failures, .int t_draft_meetings], zaI K q_t_draft_steps 48 u.2.2]) C 0 rfl rfl (c_Te_readLevel l D K q_t q_t_characters q_t_draft q_t_draft_steps t_length u10 t_characters t_draft_length t_draft_actions t_draft_site t_draft_exit t_draft_conditional t_draft_there t_draft_on t_draft_failures t_draft_meetings t_draft_steps (0 : Int32) (0 : Int32) hS14.1) (cwV 2 C.2.2.2.2.1 (z_gV wl_Te_65 wi_Te_readLevel wv_Te_readLevel wz_Te wk_Te_readLevel) rfl rfl rfl (by decide +kernel) ⟨Nat.le_of_ble_eq_true rfl, Nat.le_of_ble_eq_true rfl⟩) [0, 1, 2, 3] [] [0, 1, 2, 3] rfl rfl rfl rfl (by decide) (fun _ => rfl) rfl rfl rfl (Nat.le_of_ble_eq_true rfl) d_Te_readGathering_41 ⟨Nat.le_of_ble_eq_true rfl, Nat.le_of_ble_eq_true rfl⟩ (fun r15 u16 e17 => ?_)
        obtain ⟨m18, m19, m20⟩ := u16
        refine z_weq (ws' := [zo 3 q_t [.ref q_t_characters, .ref q_t_draft, .int t_length, .int m18], zaC K q_t_characters 48 t_characters, zo 2 q_t_draft [.ref q_t_draft_steps, .int m19, .int t_draft_actions, .int t_draft_site, .int t_draft_exit, .int t_draft_conditional, .int t_draft_there, .int t_draft_on, .int t_draft_failures, .int t_draft_meetings], zaI K q_t_draft_steps 48 m20]) rfl ?_
        have hS21 := hS14.2 r15 m18 m19 m20 e17
        refine z_if_eq (tgt := 56) C d_Te_readGathering_44 (by decide) (fun c22 => ?_) (fun c22 => ?_)
        · have hS23 := hS21.1 c22
          refine z_iconst (v := (0 : Int32)) C d_Te_readGathering_56 (by decide) ?_
          exact z_zret C hr rfl hlk (m18, m19, m20) rfl hS23 d_Te_readGathering_57
        · have hS23 := hS21.2 c22
          refine z_aload_n C d_Te_readGathering_47 rfl 1 rfl ?_
          refine z_bipush (v := (93 : Int32)) C d_Te_readGathering_48 (by decide) ?_
          refine z_callVi (As := [.int (93 : Int32)]) (b := q_t) (st := []) (wr := [zo 2 q_t_draft [.ref q_t_draft_steps, .int m19, .int t_draft_actions, .int t_draft_site, .int t_draft_exit, .int t_draft_conditional, .int t_draft_there, .int t_draft_on, .int t_draft_failures, .int t_draft_meetings], zaI K q_t_draft_steps 48 m20]) (wj := fun u => [zo 3 q_t [.ref q_t_characters, .ref q_t_draft, .int t_length, .int u], zaC K q_t_characters 48 t_characters, zo 2 q_t_draft [.ref q_t_draft_steps, .int m19, .int t_draft_actions, .int t_draft_site, .int t_draft_exit, .int t_draft_conditional, .int t_draft_there, .int t_draft_on, .int t_draft_failures, .int t_draft_meetings], zaI K q_t_draft_steps 48 m20]) C 0 rfl rfl (c_Te_pass l D K q_t q_t_characters q_t_draft t_length m18 t_characters (93 : Int32) hS23.1) (cwV 1 C.2.2.2.2.1 (z_gV wl_Te_46 wi_Te_pass wv_Te_pass wz_Te wk_Te_pass) rfl rfl rfl (by decide +kernel) ⟨Nat.le_of_ble_eq_true rfl, Nat.le_of_ble_eq_true rfl⟩) [0, 1] [2, 3] [2, 3, 0, 1] rfl rfl rfl rfl (by decide) (fun _ => rfl) rfl rfl rfl (Nat.le_of_ble_eq_true rfl) d_Te_readGathering_50 ⟨Nat.le_of_ble_eq_true rfl, Nat.le_of_ble_eq_true rfl⟩ (fun r24 u25 e26 => ?_)
          have hS27 := hS23.2 r24 u25 e26
          refine z_if_ne (tgt := 58) C d_Te_readGathering_53 (by decide) (fun c28 => ?_) (fun c28 => ?_)
          · have hS29 := hS27.1 c28
            refine z_aload_n C d_Te_readGathering_58 rfl 1 rfl ?_
            refine z_bipush (v := (61 : Int32)) C d_Te_readGathering_59 (by decide) ?_
            refine z_callVi (As := [.int (61 : Int32)]) (b := q_t) (st := []) (wr := [zo 2 q_t_draft [.ref q_t_draft_steps, .int m19, .int t_draft_actions, .int t_draft_site, .int t_draft_exit, .int t_draft_conditional, .int t_draft_there, .int t_draft_on, .int t_draft_failures, .int t_draft_meetings], zaI K q_t_draft_steps 48 m20]) (wj := fun u => [zo 3 q_t [.ref q_t_characters, .ref q_t_draft, .int t_length, .int u], zaC K q_t_characters 48 t_characters, zo 2 q_t_draft [.ref q_t_draft_steps, .int m19, .int t_draft_actions, .int t_draft_site, .int t_draft_exit, .int t_draft_conditional, .int t_draft_there, .int t_draft_on, .int t_draft_failures, .int t_draft_meetings], zaI K q_t_draft_steps 48 m20]) C 0 rfl rfl (c_Te_pass l D K q_t q_t_characters q_t_draft t_length u25 t_characters (61 : Int32) hS29.1) (cwV 1 C.2.2.2.2.1 (z_gV wl_Te_46 wi_Te_pass wv_Te_pass wz_Te wk_Te_pass) rfl rfl rfl (by decide +kernel) ⟨Nat.le_of_ble_eq_true rfl, Nat.le_of_ble_eq_true rfl⟩) [0, 1] [2, 3] [2, 3, 0, 1] rfl rfl rfl rfl (by decide) (fun _ => rfl) rfl rfl rfl (Nat.le_of_ble_eq_true rfl) d_Te_readGathering_61 ⟨Nat.le_of_ble_eq_true rfl, Nat.le_of_ble_eq_true rfl⟩ (fun r30 u31 e32 => ?_)
            have hS33 := hS29.2 r30 u31 e32
            refine z_if_eq (tgt := 76) C d_Te_readGathering_64 (by decide) (fun c34 => ?_) (fun c34 => ?_)
            · have hS35 := hS33.1 c34
              refine z_iconst (v := (0 : Int32)) C d_Te_readGathering_76 (by decide) ?_
              exact z_zret C hr rfl hlk (u31, m19, m20) rfl hS35 d_Te_readGathering_77
            · have hS35 := hS33.2 c34
              refine z_aload_n C d_Te_readGathering_67 rfl 1 rfl ?_
              refine z_iconst (v := (0 : Int32)) C d_Te_readGathering_68 (by decide) ?_
              refine z_iconst (v := (0 : Int32)) C d_Te_readGathering_69 (by decide) ?_
              refine z_callVi (As := [.int (0 : Int32), .int (0 : Int32)]) (b := q_t) (st := []) (wr := []) (wj := fun u => [zo 3 q_t [.ref q_t_characters, .ref q_t_draft, .int t_length, .int u.1], zaC K q_t_characters 48 t_characters, zo 2 q_t_draft [.ref q_t_draft_steps, .int u.2.1, .int t_draft_actions, .int t_draft_site, .int t_draft_exit, .int t_draft_conditional, .int t_draft_there, .int t_draft_on, .int t_draft_failures, .int t_draft_meetings], zaI K q_t_draft_steps 48 u.2.2]) C 0 rfl rfl (c_Te_readLevel l D K q_t q_t_characters q_t_draft q_t_draft_steps t_length u31 t_characters m19 t_draft_actions t_draft_site t_draft_exit t_draft_conditional t_draft_there t_draft_on t_draft_failures t_draft_meetings m20 (0 : Int32) (0 : Int32) hS35.1) (cwV 2 C.2.2.2.2.1 (z_gV wl_Te_65 wi_Te_readLevel wv_Te_readLevel wz_Te wk_Te_readLevel) rfl rfl rfl (by decide +kernel) ⟨Nat.le_of_ble_eq_true rfl, Nat.le_of_ble_eq_true rfl⟩) [0, 1, 2, 3] [] [0, 1, 2, 3] rfl rfl rfl rfl (by decide) (fun _ => rfl) rfl rfl rfl (Nat.le_of_ble_eq_true rfl) d_Te_readGathering_70 ⟨Nat.le_of_ble_eq_true rfl, Nat.le_of_ble_eq_true rfl⟩ (fun r36 u37 e38 => ?_)
              obtain ⟨m39, m40, m41⟩ := u37
              refine z_weq (ws' := [zo 3 q_t [.ref q_t_characters, .ref q_t_draft, .int t_length, .int m39], zaC K q_t_characters 48 t_characters, zo 2 q_t_draft [.ref q_t_draft_steps, .int m40, .int t_draft_actions, .int t_draft_site, .int t_draft_exit, .int t_draft_conditional, .int t_draft_there, .int t_draft_on, .int t_draft_failures, .int t_draft_meetings], zaI K q_t_draft_steps 48 m41]) rfl ?_
              have hS42 := hS35.2 r36 m39 m40 m41 e38
              refine z_if_ne (tgt := 78) C d_Te_readGathering_73 (by decide) (fun c43 => ?_) (fun c43 => ?_)
              · have hS44 := hS42.1 c43
                refine z_aload_n C d_Te_readGathering_78 rfl 1 rfl ?_
                refine z_get C 0 rfl rfl in_Te 1 (by decide) rfl wf_Te_18 rfl d_Te_readGathering_79 ?_
                refine z_iload_n C d_Te_readGathering_82 rfl 0 rfl ?_
                refine z_callVv (As := [.int r1]) (b := q_t_draft) (st := []) (wr := [zo 3 q_t [.ref q_t_characters, .ref q_t_draft, .int t_length, .int m39], zaC K q_t_characters 48 t_characters]) (wj := fun u => [zo 3 q_t [.ref q_t_characters, .ref q_t_draft, .int t_length, .int m39], zaC K q_t_characters 48 t_characters, zo 2 q_t_draft [.ref q_t_draft_steps, .int u.1, .int t_draft_actions, .int t_draft_site, .int t_draft_exit, .int t_draft_conditional, .int t_draft_there, .int t_draft_on, .int t_draft_failures, .int t_draft_meetings], zaI K q_t_draft_steps 48 u.2]) C 2 rfl rfl (c_Ru_add l D K q_t_draft q_t_draft_steps m40 t_draft_actions t_draft_site t_draft_exit t_draft_conditional t_draft_there t_draft_on t_draft_failures t_draft_meetings m41 r1 hS44.1) (cwV 1 C.2.2.2.2.1 (z_gV wl_Te_71 wi_Ru_add wv_Ru_add wz_Ru wk_Ru_add) rfl rfl rfl (by decide +kernel) ⟨Nat.le_of_ble_eq_true rfl, Nat.le_of_ble_eq_true rfl⟩) [2, 3] [0, 1] [0, 1, 2, 3] rfl rfl rfl rfl (by decide) (fun _ => rfl) rfl rfl rfl (Nat.le_of_ble_eq_true rfl) d_Te_readGathering_83 ⟨Nat.le_of_ble_eq_true rfl, Nat.le_of_ble_eq_true rfl⟩ (fun u46 e47 => ?_)
                obtain ⟨m48, m49⟩ := u46
                refine z_weq (ws' := [zo 3 q_t [.ref q_t_characters, .ref q_t_draft, .int t_length, .int m39], zaC K q_t_characters 48 t_characters, zo 2 q_t_draft [.ref q_t_draft_steps, .int m48, .int t_draft_actions, .int t_draft_site, .int t_draft_exit, .int t_draft_conditional, .int t_draft_there, .int t_draft_on, .int t_draft_failures, .int t_draft_meetings], zaI K q_t_draft_steps 48 m49]) rfl ?_
                have hS50 := hS44.2 m48 m49 e47
                refine z_iconst (v := (1 : Int32)) C d_Te_readGathering_86 (by decide) ?_
                exact z_zret C hr rfl hlk (m39, m48, m49) rfl hS50 d_Te_readGathering_87
              · have hS44 := hS42.2 c43
                refine z_iconst (v := (0 : Int32)) C d_Te_readGathering_76 (by decide) ?_
                exact z_zret C hr rfl hlk (m39, m40, m41) rfl hS44 d_Te_readGathering_77
          · have hS29 := hS27.2 c28
            refine z_iconst (v := (0 : Int32)) C d_Te_readGathering_56 (by decide) ?_
            exact z_zret C hr rfl hlk (u25, m19, m20) rfl hS29 d_Te_readGathering_57
    · have hS8 := hS6.2 c7
      refine z_iconst (v := (0 : Int32)) C d_Te_readGathering_17 (by decide) ?_
      exact z_zret C hr rfl hlk (t_at, t_draft_length, t_draft_steps) rfl hS8 d_Te_readGathering_18
def s_Te_readGathering (t_length : Int32) (t_at : Int32) (t_characters : Nat → Int32) (t_draft_length : Int32) (t_draft_steps : Nat → Int32) : Int32 × Int32 × Int32 × (Nat → Int32) := (zl1 (s_Te_next t_length t_at t_characters) fun r1 => (if r1 < (65 : Int32) then ((0 : Int32), t_at, t_draft_length, t_draft_steps) else (if r1 ≤ (67 : Int32) then (zl2 (s_Te_pass t_length (t_at + (1 : Int32)) t_characters (91 : Int32)) (fun r9 u10 => (if r9 = 0 then ((0 : Int32), u10, t_draft_length, t_draft_steps) else (zl2 (s_Te_readLevel t_length u10 t_characters t_draft_length t_draft_steps (0 : Int32) (0 : Int32)) (fun r15 z_r15 => zl2 z_r15 (fun m18 z_m18 => zl2 z_m18 (fun m19 m20 => (if r15 = 0 then ((0 : Int32), m18, m19, m20) else (zl2 (s_Te_pass t_length m18 t_characters (93 : Int32)) (fun r24 u25 => (if r24 = 0 then ((0 : Int32), u25, m19, m20) else (zl2 (s_Te_pass t_length u25 t_characters (61 : Int32)) (fun r30 u31 => (if r30 = 0 then ((0 : Int32), u31, m19, m20) else (zl2 (s_Te_readLevel t_length u31 t_characters m19 m20 (0 : Int32) (0 : Int32)) (fun r36 z_r36 => zl2 z_r36 (fun m39 z_m39 => zl2 z_m39 (fun m40 m41 => (if r36 = 0 then ((0 : Int32), m39, m40, m41) else (zl2 (s_Ru_add m40 m41 r1) (fun m48 m49 => ((1 : Int32), m39, m48, m49)))))))))))))))))))))) else ((0 : Int32), t_at, t_draft_length, t_draft_steps))))
def p_Te_readGathering (t_length : Int32) (t_at : Int32) (t_characters : Nat → Int32) (t_draft_length : Int32) (t_draft_steps : Nat → Int32) : Prop := WP_Te_readGathering t_length t_at t_characters t_draft_length t_draft_steps (fun _ _ => True)
set_option maxRecDepth 100000 in
theorem v_Te_readGathering (t_length : Int32) (t_at : Int32) (t_characters : Nat → Int32) (t_draft_length : Int32) (t_draft_steps : Nat → Int32) (hp : p_Te_readGathering t_length t_at t_characters t_draft_length t_draft_steps) : WP_Te_readGathering t_length t_at t_characters t_draft_length t_draft_steps (fun r u => s_Te_readGathering t_length t_at t_characters t_draft_length t_draft_steps = (r, u.1, u.2.1, u.2.2)) := by
  unfold p_Te_readGathering WP_Te_readGathering at hp
  obtain ⟨tgt, f0⟩ : ∃ tgt, s_Te_readGathering t_length t_at t_characters t_draft_length t_draft_steps = tgt := ⟨_, rfl⟩
  rw [f0]
  unfold s_Te_readGathering at f0
  unfold WP_Te_readGathering
  refine ⟨hp.1, ?_⟩
  have g2 := hp.2
  intro r1 e3
  have g1 := g2 r1 e3
  have f1 := Eq.trans (Eq.symm (zl1_eq e3)) f0
  refine ⟨fun c5 => ?_, fun c5 => ?_⟩
  · have f3 := Eq.trans (Eq.symm (if_pos c5)) f1
    have g3 := g1.1 c5
    exact f3.symm
  · have f3 := Eq.trans (Eq.symm (if_neg c5)) f1
    have g3 := g1.2 c5
    refine ⟨fun c7 => ?_, fun c7 => ?_⟩
    · have f4 := Eq.trans (Eq.symm (if_pos c7)) f3
      have g4 := g3.1 c7
      refine ⟨g4.1, ?_⟩
      have g6 := g4.2
      intro r9 u10 e11
      have g5 := g6 r9 u10 e11
      have f5 := Eq.trans (Eq.symm (zl2_eq e11)) f4
      refine ⟨fun c13 => ?_, fun c13 => ?_⟩
      · have f7 := Eq.trans (Eq.symm (if_pos c13)) f5
        have g7 := g5.1 c13
        exact f7.symm
      · have f7 := Eq.trans (Eq.symm (if_neg c13)) f5
        have g7 := g5.2 c13
        refine ⟨g7.1, ?_⟩
        have g9 := g7.2
        intro r15 m18 m19 m20 e17
        have g8 := g9 r15 m18 m19 m20 e17
        have f8 := Eq.trans (Eq.symm (zl2_eq e17)) f7
        have f8 := Eq.trans (Eq.symm (zl2_eq (Eq.refl (m18, m19, m20)))) f8
        have f8 := Eq.trans (Eq.symm (zl2_eq (Eq.refl (m19, m20)))) f8
        refine ⟨fun c22 => ?_, fun c22 => ?_⟩
        · have f10 := Eq.trans (Eq.symm (if_pos c22)) f8
          have g10 := g8.1 c22
          exact f10.symm
        · have f10 := Eq.trans (Eq.symm (if_neg c22)) f8
          have g10 := g8.2 c22
          refine ⟨g10.1, ?_⟩
          have g12 := g10.2
          intro r24 u25 e26
          have g11 := g12 r24 u25 e26
          have f11 := Eq.trans (Eq.symm (zl2_eq e26)) f10
          refine ⟨fun c28 => ?_, fun c28 => ?_⟩
          · have f13 := Eq.trans (Eq.symm (if_neg c28)) f11
            have g13 := g11.1 c28
            refine ⟨g13.1, ?_⟩
            have g15 := g13.2
            intro r30 u31 e32
            have g14 := g15 r30 u31 e32
            have f14 := Eq.trans (Eq.symm (zl2_eq e32)) f13
            refine ⟨fun c34 => ?_, fun c34 => ?_⟩
            · have f16 := Eq.trans (Eq.symm (if_pos c34)) f14
              have g16 := g14.1 c34
              exact f16.symm
            · have f16 := Eq.trans (Eq.symm (if_neg c34)) f14
              have g16 := g14.2 c34
              refine ⟨g16.1, ?_⟩
              have g18 := g16.2
              intro r36 m39 m40 m41 e38
              have g17 := g18 r36 m39 m40 m41 e38
              have f17 := Eq.trans (Eq.symm (zl2_eq e38)) f16
              have f17 := Eq.trans (Eq.symm (zl2_eq (Eq.refl (m39, m40, m41)))) f17
              have f17 := Eq.trans (Eq.symm (zl2_eq (Eq.refl (m40, m41)))) f17
              refine ⟨fun c43 => ?_, fun c43 => ?_⟩
              · have f19 := Eq.trans (Eq.symm (if_neg c43)) f17
                have g19 := g17.1 c43
                refine ⟨g19.1, ?_⟩
                have g21 := g19.2
                intro m48 m49 e47
                have g20 := g21 m48 m49 e47
                have f20 := Eq.trans (Eq.symm (zl2_eq e47)) f19
                exact f20.symm
              · have f19 := Eq.trans (Eq.symm (if_pos c43)) f17
                have g19 := g17.2 c43
                exact f19.symm
          · have f13 := Eq.trans (Eq.symm (if_pos c28)) f11
            have g13 := g11.2 c28
            exact f13.symm
    · have f4 := Eq.trans (Eq.symm (if_neg c7)) f3
      have g4 := g3.2 c7
      exact f4.symm
theorem c_Te_readGathering (l : Launch) (D : va_G) (K : Nat → ClassId) (q_t : Nat) (q_t_characters : Nat) (q_t_draft : Nat) (q_t_draft_steps : Nat) (t_length : Int32) (t_at : Int32) (t_characters : Nat → Int32) (t_draft_length : Int32) (t_draft_actions : Int32) (t_draft_site : Int32) (t_draft_exit : Int32) (t_draft_conditional : Int32) (t_draft_there : Int32) (t_draft_on : Int32) (t_draft_failures : Int32) (t_draft_meetings : Int32) (t_draft_steps : Nat → Int32) (hp : p_Te_readGathering t_length t_at t_characters t_draft_length t_draft_steps) : zCi l y_Te_readGathering wy_Te_readGathering rm_Te_readGathering D zcl (zT K) [.ref q_t] (w_Te_readGathering K q_t q_t_characters q_t_draft q_t_draft_steps t_length t_characters t_draft_actions t_draft_site t_draft_exit t_draft_conditional t_draft_there t_draft_on t_draft_failures t_draft_meetings (t_at, t_draft_length, t_draft_steps)) (w_Te_readGathering K q_t q_t_characters q_t_draft q_t_draft_steps t_length t_characters t_draft_actions t_draft_site t_draft_exit t_draft_conditional t_draft_there t_draft_on t_draft_failures t_draft_meetings) (fun r u => s_Te_readGathering t_length t_at t_characters t_draft_length t_draft_steps = (r, u.1, u.2.1, u.2.2)) 0 0 := cw_Te_readGathering l D K q_t q_t_characters q_t_draft q_t_draft_steps t_length t_at t_characters t_draft_length t_draft_actions t_draft_site t_draft_exit t_draft_conditional t_draft_there t_draft_on t_draft_failures t_draft_meetings t_draft_steps (v_Te_readGathering t_length t_at t_characters t_draft_length t_draft_steps hp)
-- RuleTracer$RuleText.readAction()Z: reads ['t.length', 't.at', 't.characters', 't.draft.length', 't.draft.steps'], changes ['t.at', 't.draft.length', 't.draft.steps']
abbrev w_Te_readAction (K : Nat → ClassId) (q_t : Nat) (q_t_characters : Nat) (q_t_draft : Nat) (q_t_draft_steps : Nat) (t_length : Int32) (t_characters : Nat → Int32) (t_draft_actions : Int32) (t_draft_site : Int32) (t_draft_exit : Int32) (t_draft_conditional : Int32) (t_draft_there : Int32) (t_draft_on : Int32) (t_draft_failures : Int32) (t_draft_meetings : Int32) (u : Int32 × Int32 × (Nat → Int32)) : va_W := [zo 3 q_t [.ref q_t_characters, .ref q_t_draft, .int t_length, .int u.1], zaC K q_t_characters 48 t_characters, zo 2 q_t_draft [.ref q_t_draft_steps, .int u.2.1, .int t_draft_actions, .int t_draft_site, .int t_draft_exit, .int t_draft_conditional, .int t_draft_there, .int t_draft_on, .int t_draft_failures, .int t_draft_meetings], zaI K q_t_draft_steps 48 u.2.2]
abbrev rm_Te_readAction : Room := { frames := 36, cells := 0, slots := 0, locals := 1146 }
abbrev wy_Te_readAction : List Cond := .code y_Te_readAction b_Te_readAction 3 (some .boolean) :: zWT
def WP_Te_readAction (t_length : Int32) (t_at : Int32) (t_characters : Nat → Int32) (t_draft_length : Int32) (t_draft_steps : Nat → Int32) (Q : Int32 → (Int32 × Int32 × (Nat → Int32)) → Prop) : Prop := p_Te_next t_length t_at t_characters ∧ (∀ (r1 : Int32), s_Te_next t_length t_at t_characters = r1 → ((¬ r1 = (64 : Int32)) → ((r1 < (117 : Int32)) → p_Te_pass t_length t_at t_characters (33 : Int32) ∧ (∀ (r9 : Int32) (u10 : Int32), s_Te_pass t_length t_at t_characters (33 : Int32) = (r9, u10) → ((¬ r9 = 0) → p_Te_readLevel t_length u10 t_characters t_draft_length t_draft_steps (0 : Int32) (0 : Int32) ∧ (∀ (r15 : Int32) (m18 : Int32) (m19 : Int32) (m20 : Nat → Int32), s_Te_readLevel t_length u10 t_characters t_draft_length t_draft_steps (0 : Int32) (0 : Int32) = (r15, m18, m19, m20) → ((¬ r15 = 0) → p_Ru_add m19 m20 r1 ∧ (∀ (m27 : Int32) (m28 : Nat → Int32), s_Ru_add m19 m20 r1 = (m27, m28) → Q (1 : Int32) (m18, m27, m28))) ∧ ((r15 = 0) → Q (0 : Int32) (m18, m19, m20)))) ∧ ((r9 = 0) → p_Te_pass t_length u10 t_characters (63 : Int32) ∧ (∀ (r30 : Int32) (u31 : Int32), s_Te_pass t_length u10 t_characters (63 : Int32) = (r30, u31) → ((¬ r30 = 0) → p_Te_readLevel t_length u31 t_characters t_draft_length t_draft_steps (0 : Int32) (0 : Int32) ∧ (∀ (r36 : Int32) (m39 : Int32) (m40 : Int32) (m41 : Nat → Int32), s_Te_readLevel t_length u31 t_characters t_draft_length t_draft_steps (0 : Int32) (0 : Int32) = (r36, m39, m40, m41) → ((¬ r36 = 0) → p_Ru_add m40 m41 r1 ∧ (∀ (m48 : Int32) (m49 : Nat → Int32), s_Ru_add m40 m41 r1 = (m48, m49) → Q (1 : Int32) (m39, m48, m49))) ∧ ((r36 = 0) → Q (0 : Int32) (m39, m40, m41)))) ∧ ((r30 = 0) → Q (0 : Int32) (u31, t_draft_length, t_draft_steps)))))) ∧ ((¬ r1 < (117 : Int32)) → (((122 : Int32) < r1) → p_Te_pass t_length t_at t_characters (33 : Int32) ∧ (∀ (r53 : Int32) (u54 : Int32), s_Te_pass t_length t_at t_characters (33 : Int32) = (r53, u54) → ((¬ r53 = 0) → p_Te_readLevel t_length u54 t_characters t_draft_length t_draft_steps (0 : Int32) (0 : Int32) ∧ (∀ (r59 : Int32) (m62 : Int32) (m63 : Int32) (m64 : Nat → Int32), s_Te_readLevel t_length u54 t_characters t_draft_length t_draft_steps (0 : Int32) (0 : Int32) = (r59, m62, m63, m64) → ((¬ r59 = 0) → p_Ru_add m63 m64 r1 ∧ (∀ (m71 : Int32) (m72 : Nat → Int32), s_Ru_add m63 m64 r1 = (m71, m72) → Q (1 : Int32) (m62, m71, m72))) ∧ ((r59 = 0) → Q (0 : Int32) (m62, m63, m64)))) ∧ ((r53 = 0) → p_Te_pass t_length u54 t_characters (63 : Int32) ∧ (∀ (r74 : Int32) (u75 : Int32), s_Te_pass t_length u54 t_characters (63 : Int32) = (r74, u75) → ((¬ r74 = 0) → p_Te_readLevel t_length u75 t_characters t_draft_length t_draft_steps (0 : Int32) (0 : Int32) ∧ (∀ (r80 : Int32) (m83 : Int32) (m84 : Int32) (m85 : Nat → Int32), s_Te_readLevel t_length u75 t_characters t_draft_length t_draft_steps (0 : Int32) (0 : Int32) = (r80, m83, m84, m85) → ((¬ r80 = 0) → p_Ru_add m84 m85 r1 ∧ (∀ (m92 : Int32) (m93 : Nat → Int32), s_Ru_add m84 m85 r1 = (m92, m93) → Q (1 : Int32) (m83, m92, m93))) ∧ ((r80 = 0) → Q (0 : Int32) (m83, m84, m85)))) ∧ ((r74 = 0) → Q (0 : Int32) (u75, t_draft_length, t_draft_steps)))))) ∧ ((¬ (122 : Int32) < r1) → p_Te_pass t_length (t_at + (1 : Int32)) t_characters (61 : Int32) ∧ (∀ (r95 : Int32) (u96 : Int32), s_Te_pass t_length (t_at + (1 : Int32)) t_characters (61 : Int32) = (r95, u96) → ((¬ r95 = 0) → p_Te_readLevel t_length u96 t_characters t_draft_length t_draft_steps (0 : Int32) (0 : Int32) ∧ (∀ (r101 : Int32) (m104 : Int32) (m105 : Int32) (m106 : Nat → Int32), s_Te_readLevel t_length u96 t_characters t_draft_length t_draft_steps (0 : Int32) (0 : Int32) = (r101, m104, m105, m106) → ((¬ r101 = 0) → p_Ru_add m105 m106 (((85 : Int32) + r1) - (117 : Int32)) ∧ (∀ (m113 : Int32) (m114 : Nat → Int32), s_Ru_add m105 m106 (((85 : Int32) + r1) - (117 : Int32)) = (m113, m114) → Q (1 : Int32) (m104, m113, m114))) ∧ ((r101 = 0) → Q (0 : Int32) (m104, m105, m106)))) ∧ ((r95 = 0) → Q (0 : Int32) (u96, t_draft_length, t_draft_steps)))))) ∧ ((r1 = (64 : Int32)) → p_Te_readGathering t_length (t_at + (1 : Int32)) t_characters t_draft_length t_draft_steps ∧ (∀ (r116 : Int32) (m119 : Int32) (m120 : Int32) (m121 : Nat → Int32), s_Te_readGathering t_length (t_at + (1 : Int32)) t_characters t_draft_length t_draft_steps = (r116, m119, m120, m121) → (zb r116 ∧ Q r116 (m119, m120, m121)))))
set_option maxHeartbeats 4000000 in
set_option maxRecDepth 100000 in
theorem cw_Te_readAction (l : Launch) (D : va_G) (K : Nat → ClassId) (q_t : Nat) (q_t_characters : Nat) (q_t_draft : Nat) (q_t_draft_steps : Nat) (t_length : Int32) (t_at : Int32) (t_characters : Nat → Int32) (t_draft_length : Int32) (t_draft_actions : Int32) (t_draft_site : Int32) (t_draft_exit : Int32) (t_draft_conditional : Int32) (t_draft_there : Int32) (t_draft_on : Int32) (t_draft_failures : Int32) (t_draft_meetings : Int32) (t_draft_steps : Nat → Int32) {Q : Int32 → (Int32 × Int32 × (Nat → Int32)) → Prop} (hS0 : WP_Te_readAction t_length t_at t_characters t_draft_length t_draft_steps Q) : zCi l y_Te_readAction wy_Te_readAction rm_Te_readAction D zcl (zT K) [.ref q_t] (w_Te_readAction K q_t q_t_characters q_t_draft q_t_draft_steps t_length t_characters t_draft_actions t_draft_site t_draft_exit t_draft_conditional t_draft_there t_draft_on t_draft_failures t_draft_meetings (t_at, t_draft_length, t_draft_steps)) (w_Te_readAction K q_t q_t_characters q_t_draft q_t_draft_steps t_length t_characters t_draft_actions t_draft_site t_draft_exit t_draft_conditional t_draft_there t_draft_on t_draft_failures t_draft_meetings) Q 0 0 := by
  refine z_meti (cc := b_Te_readAction) (maxL := 3) (ret := (some .boolean)) (by decide) rfl (Nat.le_of_ble_eq_true rfl) ?_
  intro p e s m args below meth c A C hr hlk hnm
  refine z_lpick (lv' := [(0, .ref q_t)]) [0] rfl ?_
  refine z_weq (ws' := [zo 3 q_t [.ref q_t_characters, .ref q_t_draft, .int t_length, .int t_at], zaC K q_t_characters 48 t_characters, zo 2 q_t_draft [.ref q_t_draft_steps, .int t_draft_length, .int t_draft_actions, .int t_draft_site, .int t_draft_exit, .int t_draft_conditional, .int t_draft_there, .int t_draft_on, .int t_draft_failures, .int t_draft_meetings], zaI K q_t_draft_steps 48 t_draft_steps]) rfl ?_
  refine z_aload_n C d_Te_readAction_0 rfl 0 rfl ?_
  refine z_callVi (As := []) (b := q_t) (st := []) (wr := [zo 2 q_t_draft [.ref q_t_draft_steps, .int t_draft_length, .int t_draft_actions, .int t_draft_site, .int t_draft_exit, .int t_draft_conditional, .int t_draft_there, .int t_draft_on, .int t_draft_failures, .int t_draft_meetings], zaI K q_t_draft_steps 48 t_draft_steps]) (wj := fun u => [zo 3 q_t [.ref q_t_characters, .ref q_t_draft, .int t_length, .int t_at], zaC K q_t_characters 48 t_characters, zo 2 q_t_draft [.ref q_t_draft_steps, .int t_draft_length, .int t_draft_actions, .int t_draft_site, .int t_draft_exit, .int t_draft_conditional, .int t_draft_there, .int t_draft_on, .int t_draft_failures, .int t_draft_meetings], zaI K q_t_draft_steps 48 t_draft_steps]) C 0 rfl rfl (c_Te_next l D K q_t q_t_characters q_t_draft t_length t_at t_characters hS0.1) (cwV 0 C.2.2.2.2.1 (z_gV wl_Te_50 wi_Te_next wv_Te_next wz_Te wk_Te_next) rfl rfl rfl (by decide +kernel) ⟨Nat.le_of_ble_eq_true rfl, Nat.le_of_ble_eq_true rfl⟩) [0, 1] [2, 3] [2, 3, 0, 1] rfl rfl rfl rfl (by decide) (fun _ => rfl) rfl rfl rfl (Nat.le_of_ble_eq_true rfl) d_Te_readAction_1 ⟨Nat.le_of_ble_eq_true rfl, Nat.le_of_ble_eq_true rfl⟩ (fun r1 u2 e3 => ?_)
  have hS4 := hS0.2 r1 e3
  refine z_istore_n (lv' := [(1, .int r1), (0, .ref q_t)]) C d_Te_readAction_4 rfl (by decide) rfl ?_
  refine z_iload_n C d_Te_readAction_5 rfl 0 rfl ?_
  refine z_bipush (v := (64 : Int32)) C d_Te_readAction_6 (by decide) ?_
  refine z_icmp_ne (tgt := 26) C d_Te_readAction_8 (by decide) (fun c5 => ?_) (fun c5 => ?_)
  · have hS6 := hS4.1 c5
    refine z_iload_n C d_Te_readAction_26 rfl 0 rfl ?_
    refine z_istore_n (lv' := [(2, .int r1), (1, .int r1), (0, .ref q_t)]) C d_Te_readAction_27 rfl (by decide) rfl ?_
    refine z_iload_n C d_Te_readAction_28 rfl 1 rfl ?_
    refine z_bipush (v := (117 : Int32)) C d_Te_readAction_29 (by decide) ?_
    refine z_icmp_lt (tgt := 69) C d_Te_readAction_31 (by decide) (fun c7 => ?_) (fun c7 => ?_)
    · have hS8 := hS6.1 c7
      refine z_aload_n C d_Te_readAction_69 rfl 2 rfl ?_
      refine z_bipush (v := (33 : Int32)) C d_Te_readAction_70 (by decide) ?_
      refine z_callVi (As := [.int (33 : Int32)]) (b := q_t) (st := []) (wr := [zo 2 q_t_draft [.ref q_t_draft_steps, .int t_draft_length, .int t_draft_actions, .int t_draft_site, .int t_draft_exit, .int t_draft_conditional, .int t_draft_there, .int t_draft_on, .int t_draft_failures, .int t_draft_meetings], zaI K q_t_draft_steps 48 t_draft_steps]) (wj := fun u => [zo 3 q_t [.ref q_t_characters, .ref q_t_draft, .int t_length, .int u], zaC K q_t_characters 48 t_characters, zo 2 q_t_draft [.ref q_t_draft_steps, .int t_draft_length, .int t_draft_actions, .int t_draft_site, .int t_draft_exit, .int t_draft_conditional, .int t_draft_there, .int t_draft_on, .int t_draft_failures, .int t_draft_meetings], zaI K q_t_draft_steps 48 t_draft_steps]) C 0 rfl rfl (c_Te_pass l D K q_t q_t_characters q_t_draft t_length t_at t_characters (33 : Int32) hS8.1) (cwV 1 C.2.2.2.2.1 (z_gV wl_Te_46 wi_Te_pass wv_Te_pass wz_Te wk_Te_pass) rfl rfl rfl (by decide +kernel) ⟨Nat.le_of_ble_eq_true rfl, Nat.le_of_ble_eq_true rfl⟩) [0, 1] [2, 3] [2, 3, 0, 1] rfl rfl rfl rfl (by decide) (fun _ => rfl) rfl rfl rfl (Nat.le_of_ble_eq_true rfl) d_Te_readAction_72 ⟨Nat.le_of_ble_eq_true rfl, Nat.le_of_ble_eq_true rfl⟩ (fun r9 u10 e11 => ?_)
      have hS12 := hS8.2 r9 u10 e11
      refine z_if_ne (tgt := 89) C d_Te_readAction_75 (by decide) (fun c13 => ?_) (fun c13 => ?_)
      · have hS14 := hS12.1 c13
        refine z_aload_n C d_Te_readAction_89 rfl 2 rfl ?_
        refine z_iconst (v := (0 : Int32)) C d_Te_readAction_90 (by decide) ?_
        refine z_iconst (v := (0 : Int32)) C d_Te_readAction_91 (by decide) ?_
        refine z_callVi (As := [.int (0 : Int32), .int (0 : Int32)]) (b := q_t) (st := []) (wr := []) (wj := fun u => [zo 3 q_t [.ref q_t_characters, .ref q_t_draft, .int t_length, .int u.1], zaC K q_t_characters 48 t_characters, zo 2 q_t_draft [.ref q_t_draft_steps, .int u.2.1, .int t_draft_actions, .int t_draft_site, .int t_draft_exit, .int t_draft_conditional, .int t_draft_there, .int t_draft_on, .int t_draft_failures, .int t_draft_meetings], zaI K q_t_draft_steps 48 u.2.2]) C 0 rfl rfl (c_Te_readLevel l D K q_t q_t_characters q_t_draft q_t_draft_steps t_length u10 t_characters t_draft_length t_draft_actions t_draft_site t_draft_exit t_draft_conditional t_draft_there t_draft_on t_draft_failures t_draft_meetings t_draft_steps (0 : Int32) (0 : Int32) hS14.1) (cwV 2 C.2.2.2.2.1 (z_gV wl_Te_65 wi_Te_readLevel wv_Te_readLevel wz_Te wk_Te_readLevel) rfl rfl rfl (by decide +kernel) ⟨Nat.le_of_ble_eq_true rfl, Nat.le_of_ble_eq_true rfl⟩) [0, 1, 2, 3] [] [0, 1, 2, 3] rfl rfl rfl rfl (by decide) (fun _ => rfl) rfl rfl rfl (Nat.le_of_ble_eq_true rfl) d_Te_readAction_92 ⟨Nat.le_of_ble_eq_true rfl, Nat.le_of_ble_eq_true rfl⟩ (fun r15 u16 e17 => ?_)
        obtain ⟨m18, m19, m20⟩ := u16
        refine z_weq (ws' := [zo 3 q_t [.ref q_t_characters, .ref q_t_draft, .int t_length, .int m18], zaC K q_t_characters 48 t_characters, zo 2 q_t_draft [.ref q_t_draft_steps, .int m19, .int t_draft_actions, .int t_draft_site, .int t_draft_exit, .int t_draft_conditional, .int t_draft_there, .int t_draft_on, .int t_draft_failures, .int t_draft_meetings], zaI K q_t_draft_steps 48 m20]) rfl ?_
        have hS21 := hS14.2 r15 m18 m19 m20 e17
        refine z_if_ne (tgt := 100) C d_Te_readAction_95 (by decide) (fun c22 => ?_) (fun c22 => ?_)
        · have hS23 := hS21.1 c22
          refine z_aload_n C d_Te_readAction_100 rfl 2 rfl ?_
          refine z_get C 0 rfl rfl in_Te 1 (by decide) rfl wf_Te_18 rfl d_Te_readAction_101 ?_
          refine z_iload_n C d_Te_readAction_104 rfl 0 rfl ?_
          refine z_callVv (As := [.int r1]) (b := q_t_draft) (st := []) (wr := [zo 3 q_t [.ref q_t_characters, .ref q_t_draft, .int t_length, .int m18], zaC K q_t_characters 48 t_characters]) (wj := fun u => [zo 3 q_t [.ref q_t_characters, .ref q_t_draft, .int t_length, .int m18], zaC K q_t_characters 48 t_characters, zo 2 q_t_draft [.ref q_t_draft_steps, .int u.1, .int t_draft_actions, .int t_draft_site, .int t_draft_exit, .int t_draft_conditional, .int t_draft_there, .int t_draft_on, .int t_draft_failures, .int t_draft_meetings], zaI K q_t_draft_steps 48 u.2]) C 2 rfl rfl (c_Ru_add l D K q_t_draft q_t_draft_steps m19 t_draft_actions t_draft_site t_draft_exit t_draft_conditional t_draft_there t_draft_on t_draft_failures t_draft_meetings m20 r1 hS23.1) (cwV 1 C.2.2.2.2.1 (z_gV wl_Te_71 wi_Ru_add wv_Ru_add wz_Ru wk_Ru_add) rfl rfl rfl (by decide +kernel) ⟨Nat.le_of_ble_eq_true rfl, Nat.le_of_ble_eq_true rfl⟩) [2, 3] [0, 1] [0, 1, 2, 3] rfl rfl rfl rfl (by decide) (fun _ => rfl) rfl rfl rfl (Nat.le_of_ble_eq_true rfl) d_Te_readAction_105 ⟨Nat.le_of_ble_eq_true rfl, Nat.le_of_ble_eq_true rfl⟩ (fun u25 e26 => ?_)
          obtain ⟨m27, m28⟩ := u25
          refine z_weq (ws' := [zo 3 q_t [.ref q_t_characters, .ref q_t_draft, .int t_length, .int m18], zaC K q_t_characters 48 t_characters, zo 2 q_t_draft [.ref q_t_draft_steps, .int m27, .int t_draft_actions, .int t_draft_site, .int t_draft_exit, .int t_draft_conditional, .int t_draft_there, .int t_draft_on, .int t_draft_failures, .int t_draft_meetings], zaI K q_t_draft_steps 48 m28]) rfl ?_
          have hS29 := hS23.2 m27 m28 e26
          refine z_iconst (v := (1 : Int32)) C d_Te_readAction_108 (by decide) ?_
          exact z_zret C hr rfl hlk (m18, m27, m28) rfl hS29 d_Te_readAction_109
        · have hS23 := hS21.2 c22
          refine z_iconst (v := (0 : Int32)) C d_Te_readAction_98 (by decide) ?_
          exact z_zret C hr rfl hlk (m18, m19, m20) rfl hS23 d_Te_readAction_99
      · have hS14 := hS12.2 c13
        refine z_aload_n C d_Te_readAction_78 rfl 2 rfl ?_
        refine z_bipush (v := (63 : Int32)) C d_Te_readAction_79 (by decide) ?_
        refine z_callVi (As := [.int (63 : Int32)]) (b := q_t) (st := []) (wr := [zo 2 q_t_draft [.ref q_t_draft_steps, .int t_draft_length, .int t_draft_actions, .int t_draft_site, .int t_draft_exit, .int t_draft_conditional, .int t_draft_there, .int t_draft_on, .int t_draft_failures, .int t_draft_meetings], zaI K q_t_draft_steps 48 t_draft_steps]) (wj := fun u => [zo 3 q_t [.ref q_t_characters, .ref q_t_draft, .int t_length, .int u], zaC K q_t_characters 48 t_characters, zo 2 q_t_draft [.ref q_t_draft_steps, .int t_draft_length, .int t_draft_actions, .int t_draft_site, .int t_draft_exit, .int t_draft_conditional, .int t_draft_there, .int t_draft_on, .int t_draft_failures, .int t_draft_meetings], zaI K q_t_draft_steps 48 t_draft_steps]) C 0 rfl rfl (c_Te_pass l D K q_t q_t_characters q_t_draft t_length u10 t_characters (63 : Int32) hS14.1) (cwV 1 C.2.2.2.2.1 (z_gV wl_Te_46 wi_Te_pass wv_Te_pass wz_Te wk_Te_pass) rfl rfl rfl (by decide +kernel) ⟨Nat.le_of_ble_eq_true rfl, Nat.le_of_ble_eq_true rfl⟩) [0, 1] [2, 3] [2, 3, 0, 1] rfl rfl rfl rfl (by decide) (fun _ => rfl) rfl rfl rfl (Nat.le_of_ble_eq_true rfl) d_Te_readAction_81 ⟨Nat.le_of_ble_eq_true rfl, Nat.le_of_ble_eq_true rfl⟩ (fun r30 u31 e32 => ?_)
        have hS33 := hS14.2 r30 u31 e32
        refine z_if_ne (tgt := 89) C d_Te_readAction_84 (by decide) (fun c34 => ?_) (fun c34 => ?_)
        · have hS35 := hS33.1 c34
          refine z_aload_n C d_Te_readAction_89 rfl 2 rfl ?_
          refine z_iconst (v := (0 : Int32)) C d_Te_readAction_90 (by decide) ?_
          refine z_iconst (v := (0 : Int32)) C d_Te_readAction_91 (by decide) ?_
          refine z_callVi (As := [.int (0 : Int32), .int (0 : Int32)]) (b := q_t) (st := []) (wr := []) (wj := fun u => [zo 3 q_t [.ref q_t_characters, .ref q_t_draft, .int t_length, .int u.1], zaC K q_t_characters 48 t_characters, zo 2 q_t_draft [.ref q_t_draft_steps, .int u.2.1, .int t_draft_actions, .int t_draft_site, .int t_draft_exit, .int t_draft_conditional, .int t_draft_there, .int t_draft_on, .int t_draft_failures, .int t_draft_meetings], zaI K q_t_draft_steps 48 u.2.2]) C 0 rfl rfl (c_Te_readLevel l D K q_t q_t_characters q_t_draft q_t_draft_steps t_length u31 t_characters t_draft_length t_draft_actions t_draft_site t_draft_exit t_draft_conditional t_draft_there t_draft_on t_draft_failures t_draft_meetings t_draft_steps (0 : Int32) (0 : Int32) hS35.1) (cwV 2 C.2.2.2.2.1 (z_gV wl_Te_65 wi_Te_readLevel wv_Te_readLevel wz_Te wk_Te_readLevel) rfl rfl rfl (by decide +kernel) ⟨Nat.le_of_ble_eq_true rfl, Nat.le_of_ble_eq_true rfl⟩) [0, 1, 2, 3] [] [0, 1, 2, 3] rfl rfl rfl rfl (by decide) (fun _ => rfl) rfl rfl rfl (Nat.le_of_ble_eq_true rfl) d_Te_readAction_92 ⟨Nat.le_of_ble_eq_true rfl, Nat.le_of_ble_eq_true rfl⟩ (fun r36 u37 e38 => ?_)
          obtain ⟨m39, m40, m41⟩ := u37
          refine z_weq (ws' := [zo 3 q_t [.ref q_t_characters, .ref q_t_draft, .int t_length, .int m39], zaC K q_t_characters 48 t_characters, zo 2 q_t_draft [.ref q_t_draft_steps, .int m40, .int t_draft_actions, .int t_draft_site, .int t_draft_exit, .int t_draft_conditional, .int t_draft_there, .int t_draft_on, .int t_draft_failures, .int t_draft_meetings], zaI K q_t_draft_steps 48 m41]) rfl ?_
          have hS42 := hS35.2 r36 m39 m40 m41 e38
          refine z_if_ne (tgt := 100) C d_Te_readAction_95 (by decide) (fun c43 => ?_) (fun c43 => ?_)
          · have hS44 := hS42.1 c43
            refine z_aload_n C d_Te_readAction_100 rfl 2 rfl ?_
            refine z_get C 0 rfl rfl in_Te 1 (by decide) rfl wf_Te_18 rfl d_Te_readAction_101 ?_
            refine z_iload_n C d_Te_readAction_104 rfl 0 rfl ?_
            refine z_callVv (As := [.int r1]) (b := q_t_draft) (st := []) (wr := [zo 3 q_t [.ref q_t_characters, .ref q_t_draft, .int t_length, .int m39], zaC K q_t_characters 48 t_characters]) (wj := fun u => [zo 3 q_t [.ref q_t_characters, .ref q_t_draft, .int t_length, .int m39], zaC K q_t_characters 48 t_characters, zo 2 q_t_draft [.ref q_t_draft_steps, .int u.1, .int t_draft_actions, .int t_draft_site, .int t_draft_exit, .int t_draft_conditional, .int t_draft_there, .int t_draft_on, .int t_draft_failures, .int t_draft_meetings], zaI K q_t_draft_steps 48 u.2]) C 2 rfl rfl (c_Ru_add l D K q_t_draft q_t_draft_steps m40 t_draft_actions t_draft_site t_draft_exit t_draft_conditional t_draft_there t_draft_on t_draft_failures t_draft_meetings m41 r1 hS44.1) (cwV 1 C.2.2.2.2.1 (z_gV wl_Te_71 wi_Ru_add wv_Ru_add wz_Ru wk_Ru_add) rfl rfl rfl (by decide +kernel) ⟨Nat.le_of_ble_eq_true rfl, Nat.le_of_ble_eq_true rfl⟩) [2, 3] [0, 1] [0, 1, 2, 3] rfl rfl rfl rfl (by decide) (fun _ => rfl) rfl rfl rfl (Nat.le_of_ble_eq_true rfl) d_Te_readAction_105 ⟨Nat.le_of_ble_eq_true rfl, Nat.le_of_ble_eq_true rfl⟩ (fun u46 e47 => ?_)
            obtain ⟨m48, m49⟩ := u46
            refine z_weq (ws' := [zo 3 q_t [.ref q_t_characters, .ref q_t_draft, .int t_length, .int m39], zaC K q_t_characters 48 t_characters, zo 2 q_t_draft [.ref q_t_draft_steps, .int m48, .int t_draft_actions, .int t_draft_site, .int t_draft_exit, .int t_draft_conditional, .int t_draft_there, .int t_draft_on, .int t_draft_failures, .int t_draft_meetings], zaI K q_t_draft_steps 48 m49]) rfl ?_
            have hS50 := hS44.2 m48 m49 e47
            refine z_iconst (v := (1 : Int32)) C d_Te_readAction_108 (by decide) ?_
            exact z_zret C hr rfl hlk (m39, m48, m49) rfl hS50 d_Te_readAction_109
          · have hS44 := hS42.2 c43
            refine z_iconst (v := (0 : Int32)) C d_Te_readAction_98 (by decide) ?_
            exact z_zret C hr rfl hlk (m39, m40, m41) rfl hS44 d_Te_readAction_99
        · have hS35 := hS33.2 c34
          refine z_iconst (v := (0 : Int32)) C d_Te_readAction_87 (by decide) ?_
          exact z_zret C hr rfl hlk (u31, t_draft_length, t_draft_steps) rfl hS35 d_Te_readAction_88
    · have hS8 := hS6.2 c7
      refine z_iload_n C d_Te_readAction_34 rfl 1 rfl ?_
      refine z_bipush (v := (122 : Int32)) C d_Te_readAction_35 (by decide) ?_
      refine z_icmp_gt (tgt := 69) C d_Te_readAction_37 (by decide) (fun c51 => ?_) (fun c51 => ?_)
      · have hS52 := hS8.1 c51
        refine z_aload_n C d_Te_readAction_69 rfl 2 rfl ?_
        refine z_bipush (v := (33 : Int32)) C d_Te_readAction_70 (by decide) ?_
        refine z_callVi (As := [.int (33 : Int32)]) (b := q_t) (st := []) (wr := [zo 2 q_t_draft [.ref q_t_draft_steps, .int t_draft_length, .int t_draft_actions, .int t_draft_site, .int t_draft_exit, .int t_draft_conditional, .int t_draft_there, .int t_draft_on, .int t_draft_failures, .int t_draft_meetings], zaI K q_t_draft_steps 48 t_draft_steps]) (wj := fun u => [zo 3 q_t [.ref q_t_characters, .ref q_t_draft, .int t_length, .int u], zaC K q_t_characters 48 t_characters, zo 2 q_t_draft [.ref q_t_draft_steps, .int t_draft_length, .int t_draft_actions, .int t_draft_site, .int t_draft_exit, .int t_draft_conditional, .int t_draft_there, .int t_draft_on, .int t_draft_failures, .int t_draft_meetings], zaI K q_t_draft_steps 48 t_draft_steps]) C 0 rfl rfl (c_Te_pass l D K q_t q_t_characters q_t_draft t_length t_at t_characters (33 : Int32) hS52.1) (cwV 1 C.2.2.2.2.1 (z_gV wl_Te_46 wi_Te_pass wv_Te_pass wz_Te wk_Te_pass) rfl rfl rfl (by decide +kernel) ⟨Nat.le_of_ble_eq_true rfl, Nat.le_of_ble_eq_true rfl⟩) [0, 1] [2, 3] [2, 3, 0, 1] rfl rfl rfl rfl (by decide) (fun _ => rfl) rfl rfl rfl (Nat.le_of_ble_eq_true rfl) d_Te_readAction_72 ⟨Nat.le_of_ble_eq_true rfl, Nat.le_of_ble_eq_true rfl⟩ (fun r53 u54 e55 => ?_)
        have hS56 := hS52.2 r53 u54 e55
        refine z_if_ne (tgt := 89) C d_Te_readAction_75 (by decide) (fun c57 => ?_) (fun c57 => ?_)
        · have hS58 := hS56.1 c57
          refine z_aload_n C d_Te_readAction_89 rfl 2 rfl ?_
          refine z_iconst (v := (0 : Int32)) C d_Te_readAction_90 (by decide) ?_
          refine z_iconst (v := (0 : Int32)) C d_Te_readAction_91 (by decide) ?_
          refine z_callVi (As := [.int (0 : Int32), .int (0 : Int32)]) (b := q_t) (st := []) (wr := []) (wj := fun u => [zo 3 q_t [.ref q_t_characters, .ref q_t_draft, .int t_length, .int u.1], zaC K q_t_characters 48 t_characters, zo 2 q_t_draft [.ref q_t_draft_steps, .int u.2.1, .int t_draft_actions, .int t_draft_site, .int t_draft_exit, .int t_draft_conditional, .int t_draft_there, .int t_draft_on, .int t_draft_failures, .int t_draft_meetings], zaI K q_t_draft_steps 48 u.2.2]) C 0 rfl rfl (c_Te_readLevel l D K q_t q_t_characters q_t_draft q_t_draft_steps t_length u54 t_characters t_draft_length t_draft_actions t_draft_site t_draft_exit t_draft_conditional t_draft_there t_draft_on t_draft_failures t_draft_meetings t_draft_steps (0 : Int32) (0 : Int32) hS58.1) (cwV 2 C.2.2.2.2.1 (z_gV wl_Te_65 wi_Te_readLevel wv_Te_readLevel wz_Te wk_Te_readLevel) rfl rfl rfl (by decide +kernel) ⟨Nat.le_of_ble_eq_true rfl, Nat.le_of_ble_eq_true rfl⟩) [0, 1, 2, 3] [] [0, 1, 2, 3] rfl rfl rfl rfl (by decide) (fun _ => rfl) rfl rfl rfl (Nat.le_of_ble_eq_true rfl) d_Te_readAction_92 ⟨Nat.le_of_ble_eq_true rfl, Nat.le_of_ble_eq_true rfl⟩ (fun r59 u60 e61 => ?_)
          obtain ⟨m62, m63, m64⟩ := u60
          refine z_weq (ws' := [zo 3 q_t [.ref q_t_characters, .ref q_t_draft, .int t_length, .int m62], zaC K q_t_characters 48 t_characters, zo 2 q_t_draft [.ref q_t_draft_steps, .int m63, .int t_draft_actions, .int t_draft_site, .int t_draft_exit, .int t_draft_conditional, .int t_draft_there, .int t_draft_on, .int t_draft_failures, .int t_draft_meetings], zaI K q_t_draft_steps 48 m64]) rfl ?_
          have hS65 := hS58.2 r59 m62 m63 m64 e61
          refine z_if_ne (tgt := 100) C d_Te_readAction_95 (by decide) (fun c66 => ?_) (fun c66 => ?_)
          · have hS67 := hS65.1 c66
            refine z_aload_n C d_Te_readAction_100 rfl 2 rfl ?_
            refine z_get C 0 rfl rfl in_Te 1 (by decide) rfl wf_Te_18 rfl d_Te_readAction_101 ?_
            refine z_iload_n C d_Te_readAction_104 rfl 0 rfl ?_
            refine z_callVv (As := [.int r1]) (b := q_t_draft) (st := []) (wr := [zo 3 q_t [.ref q_t_characters, .ref q_t_draft, .int t_length, .int m62], zaC K q_t_characters 48 t_characters]) (wj := fun u => [zo 3 q_t [.ref q_t_characters, .ref q_t_draft, .int t_length, .int m62], zaC K q_t_characters 48 t_characters, zo 2 q_t_draft [.ref q_t_draft_steps, .int u.1, .int t_draft_actions, .int t_draft_site, .int t_draft_exit, .int t_draft_conditional, .int t_draft_there, .int t_draft_on, .int t_draft_failures, .int t_draft_meetings], zaI K q_t_draft_steps 48 u.2]) C 2 rfl rfl (c_Ru_add l D K q_t_draft q_t_draft_steps m63 t_draft_actions t_draft_site t_draft_exit t_draft_conditional t_draft_there t_draft_on t_draft_failures t_draft_meetings m64 r1 hS67.1) (cwV 1 C.2.2.2.2.1 (z_gV wl_Te_71 wi_Ru_add wv_Ru_add wz_Ru wk_Ru_add) rfl rfl rfl (by decide +kernel) ⟨Nat.le_of_ble_eq_true rfl, Nat.le_of_ble_eq_true rfl⟩) [2, 3] [0, 1] [0, 1, 2, 3] rfl rfl rfl rfl (by decide) (fun _ => rfl) rfl rfl rfl (Nat.le_of_ble_eq_true rfl) d_Te_readAction_105 ⟨Nat.le_of_ble_eq_true rfl, Nat.le_of_ble_eq_true rfl⟩ (fun u69 e70 => ?_)
            obtain ⟨m71, m72⟩ := u69
            refine z_weq (ws' := [zo 3 q_t [.ref q_t_characters, .ref q_t_draft, .int t_length, .int m62], zaC K q_t_characters 48 t_characters, zo 2 q_t_draft [.ref q_t_draft_steps, .int m71, .int t_draft_actions, .int t_draft_site, .int t_draft_exit, .int t_draft_conditional, .int t_draft_there, .int t_draft_on, .int t_draft_failures, .int t_draft_meetings], zaI K q_t_draft_steps 48 m72]) rfl ?_
            have hS73 := hS67.2 m71 m72 e70
            refine z_iconst (v := (1 : Int32)) C d_Te_readAction_108 (by decide) ?_
            exact z_zret C hr rfl hlk (m62, m71, m72) rfl hS73 d_Te_readAction_109
          · have hS67 := hS65.2 c66
            refine z_iconst (v := (0 : Int32)) C d_Te_readAction_98 (by decide) ?_
            exact z_zret C hr rfl hlk (m62, m63, m64) rfl hS67 d_Te_readAction_99
        · have hS58 := hS56.2 c57
          refine z_aload_n C d_Te_readAction_78 rfl 2 rfl ?_
          refine z_bipush (v := (63 : Int32)) C d_Te_readAction_79 (by decide) ?_
          refine z_callVi (As := [.int (63 : Int32)]) (b := q_t) (st := []) (wr := [zo 2 q_t_draft [.ref q_t_draft_steps, .int t_draft_length, .int t_draft_actions, .int t_draft_site, .int t_draft_exit, .int t_draft_conditional, .int t_draft_there, .int t_draft_on, .int t_draft_failures, .int t_draft_meetings], zaI K q_t_draft_steps 48 t_draft_steps]) (wj := fun u => [zo 3 q_t [.ref q_t_characters, .ref q_t_draft, .int t_length, .int u], zaC K q_t_characters 48 t_characters, zo 2 q_t_draft [.ref q_t_draft_steps, .int t_draft_length, .int t_draft_actions, .int t_draft_site, .int t_draft_exit, .int t_draft_conditional, .int t_draft_there, .int t_draft_on, .int t_draft_failures, .int t_draft_meetings], zaI K q_t_draft_steps 48 t_draft_steps]) C 0 rfl rfl (c_Te_pass l D K q_t q_t_characters q_t_draft t_length u54 t_characters (63 : Int32) hS58.1) (cwV 1 C.2.2.2.2.1 (z_gV wl_Te_46 wi_Te_pass wv_Te_pass wz_Te wk_Te_pass) rfl rfl rfl (by decide +kernel) ⟨Nat.le_of_ble_eq_true rfl, Nat.le_of_ble_eq_true rfl⟩) [0, 1] [2, 3] [2, 3, 0, 1] rfl rfl rfl rfl (by decide) (fun _ => rfl) rfl rfl rfl (Nat.le_of_ble_eq_true rfl) d_Te_readAction_81 ⟨Nat.le_of_ble_eq_true rfl, Nat.le_of_ble_eq_true rfl⟩ (fun r74 u75 e76 => ?_)
          have hS77 := hS58.2 r74 u75 e76
          refine z_if_ne (tgt := 89) C d_Te_readAction_84 (by decide) (fun c78 => ?_) (fun c78 => ?_)
          · have hS79 := hS77.1 c78
            refine z_aload_n C d_Te_readAction_89 rfl 2 rfl ?_
            refine z_iconst (v := (0 : Int32)) C d_Te_readAction_90 (by decide) ?_
            refine z_iconst (v := (0 : Int32)) C d_Te_readAction_91 (by decide) ?_
            refine z_callVi (As := [.int (0 : Int32), .int (0 : Int32)]) (b := q_t) (st := []) (wr := []) (wj := fun u => [zo 3 q_t [.ref q_t_characters, .ref q_t_draft, .int t_length, .int u.1], zaC K q_t_characters 48 t_characters, zo 2 q_t_draft [.ref q_t_draft_steps, .int u.2.1, .int t_draft_actions, .int t_draft_site, .int t_draft_exit, .int t_draft_conditional, .int t_draft_there, .int t_draft_on, .int t_draft_failures, .int t_draft_meetings], zaI K q_t_draft_steps 48 u.2.2]) C 0 rfl rfl (c_Te_readLevel l D K q_t q_t_characters q_t_draft q_t_draft_steps t_length u75 t_characters t_draft_length t_draft_actions t_draft_site t_draft_exit t_draft_conditional t_draft_there t_draft_on t_draft_failures t_draft_meetings t_draft_steps (0 : Int32) (0 : Int32) hS79.1) (cwV 2 C.2.2.2.2.1 (z_gV wl_Te_65 wi_Te_readLevel wv_Te_readLevel wz_Te wk_Te_readLevel) rfl rfl rfl (by decide +kernel) ⟨Nat.le_of_ble_eq_true rfl, Nat.le_of_ble_eq_true rfl⟩) [0, 1, 2, 3] [] [0, 1, 2, 3] rfl rfl rfl rfl (by decide) (fun _ => rfl) rfl rfl rfl (Nat.le_of_ble_eq_true rfl) d_Te_readAction_92 ⟨Nat.le_of_ble_eq_true rfl, Nat.le_of_ble_eq_true rfl⟩ (fun r80 u81 e82 => ?_)
            obtain ⟨m83, m84, m85⟩ := u81
            refine z_weq (ws' := [zo 3 q_t [.ref q_t_characters, .ref q_t_draft, .int t_length, .int m83], zaC K q_t_characters 48 t_characters, zo 2 q_t_draft [.ref q_t_draft_steps, .int m84, .int t_draft_actions, .int t_draft_site, .int t_draft_exit, .int t_draft_conditional, .int t_draft_there, .int t_draft_on, .int t_draft_failures, .int t_draft_meetings], zaI K q_t_draft_steps 48 m85]) rfl ?_
            have hS86 := hS79.2 r80 m83 m84 m85 e82
            refine z_if_ne (tgt := 100) C d_Te_readAction_95 (by decide) (fun c87 => ?_) (fun c87 => ?_)
            · have hS88 := hS86.1 c87
              refine z_aload_n C d_Te_readAction_100 rfl 2 rfl ?_
              refine z_get C 0 rfl rfl in_Te 1 (by decide) rfl wf_Te_18 rfl d_Te_readAction_101 ?_
              refine z_iload_n C d_Te_readAction_104 rfl 0 rfl ?_
              refine z_callVv (As := [.int r1]) (b := q_t_draft) (st := []) (wr := [zo 3 q_t [.ref q_t_characters, .ref q_t_draft, .int t_length, .int m83], zaC K q_t_characters 48 t_characters]) (wj := fun u => [zo 3 q_t [.ref q_t_characters, .ref q_t_draft, .int t_length, .int m83], zaC K q_t_characters 48 t_characters, zo 2 q_t_draft [.ref q_t_draft_steps, .int u.1, .int t_draft_actions, .int t_draft_site, .int t_draft_exit, .int t_draft_conditional, .int t_draft_there, .int t_draft_on, .int t_draft_failures, .int t_draft_meetings], zaI K q_t_draft_steps 48 u.2]) C 2 rfl rfl (c_Ru_add l D K q_t_draft q_t_draft_steps m84 t_draft_actions t_draft_site t_draft_exit t_draft_conditional t_draft_there t_draft_on t_draft_failures t_draft_meetings m85 r1 hS88.1) (cwV 1 C.2.2.2.2.1 (z_gV wl_Te_71 wi_Ru_add wv_Ru_add wz_Ru wk_Ru_add) rfl rfl rfl (by decide +kernel) ⟨Nat.le_of_ble_eq_true rfl, Nat.le_of_ble_eq_true rfl⟩) [2, 3] [0, 1] [0, 1, 2, 3] rfl rfl rfl rfl (by decide) (fun _ => rfl) rfl rfl rfl (Nat.le_of_ble_eq_true rfl) d_Te_readAction_105 ⟨Nat.le_of_ble_eq_true rfl, Nat.le_of_ble_eq_true rfl⟩ (fun u90 e91 => ?_)
              obtain ⟨m92, m93⟩ := u90
              refine z_weq (ws' := [zo 3 q_t [.ref q_t_characters, .ref q_t_draft, .int t_length, .int m83], zaC K q_t_characters 48 t_characters, zo 2 q_t_draft [.ref q_t_draft_steps, .int m92, .int t_draft_actions, .int t_draft_site, .int t_draft_exit, .int t_draft_conditional, .int t_draft_there, .int t_draft_on, .int t_draft_failures, .int t_draft_meetings], zaI K q_t_draft_steps 48 m93]) rfl ?_
              have hS94 := hS88.2 m92 m93 e91
              refine z_iconst (v := (1 : Int32)) C d_Te_readAction_108 (by decide) ?_
              exact z_zret C hr rfl hlk (m83, m92, m93) rfl hS94 d_Te_readAction_109
            · have hS88 := hS86.2 c87
              refine z_iconst (v := (0 : Int32)) C d_Te_readAction_98 (by decide) ?_
              exact z_zret C hr rfl hlk (m83, m84, m85) rfl hS88 d_Te_readAction_99
          · have hS79 := hS77.2 c78
            refine z_iconst (v := (0 : Int32)) C d_Te_readAction_87 (by decide) ?_
            exact z_zret C hr rfl hlk (u75, t_draft_length, t_draft_steps) rfl hS79 d_Te_readAction_88
      · have hS52 := hS8.2 c51
        refine z_aload_n C d_Te_readAction_40 rfl 2 rfl ?_
        refine z_dup C d_Te_readAction_41 rfl ?_
        refine z_get C 0 rfl rfl in_Te 3 (by decide) rfl wf_Te_26 rfl d_Te_readAction_42 ?_
        refine z_iconst (v := (1 : Int32)) C d_Te_readAction_45 (by decide) ?_
        refine z_iadd C d_Te_readAction_46 ?_
        refine z_put (ty := .int) (ws' := [zo 3 q_t [.ref q_t_characters, .ref q_t_draft, .int t_length, .int (t_at + (1 : Int32))], zaC K q_t_characters 48 t_characters, zo 2 q_t_draft [.ref q_t_draft_steps, .int t_draft_length, .int t_draft_actions, .int t_draft_site, .int t_draft_exit, .int t_draft_conditional, .int t_draft_there, .int t_draft_on, .int t_draft_failures, .int t_draft_meetings], zaI K q_t_draft_steps 48 t_draft_steps]) C ty_Te to_Te nm_Te 0 rfl rfl in_Te 3 (by decide) rfl wf_Te_26 rfl rfl rfl rfl (Nat.le_of_ble_eq_true rfl) rfl d_Te_readAction_47 ?_
        refine z_bipush (v := (85 : Int32)) C d_Te_readAction_50 (by decide) ?_
        refine z_iload_n C d_Te_readAction_52 rfl 1 rfl ?_
        refine z_iadd C d_Te_readAction_53 ?_
        refine z_bipush (v := (117 : Int32)) C d_Te_readAction_54 (by decide) ?_
        refine z_isub C d_Te_readAction_56 ?_
        refine z_istore_n (lv' := [(2, .int (((85 : Int32) + r1) - (117 : Int32))), (1, .int r1), (0, .ref q_t)]) C d_Te_readAction_57 rfl (by decide) rfl ?_
        refine z_aload_n C d_Te_readAction_58 rfl 2 rfl ?_
        refine z_bipush (v := (61 : Int32)) C d_Te_readAction_59 (by decide) ?_
        refine z_callVi (As := [.int (61 : Int32)]) (b := q_t) (st := []) (wr := [zo 2 q_t_draft [.ref q_t_draft_steps, .int t_draft_length, .int t_draft_actions, .int t_draft_site, .int t_draft_exit, .int t_draft_conditional, .int t_draft_there, .int t_draft_on, .int t_draft_failures, .int t_draft_meetings], zaI K q_t_draft_steps 48 t_draft_steps]) (wj := fun u => [zo 3 q_t [.ref q_t_characters, .ref q_t_draft, .int t_length, .int u], zaC K q_t_characters 48 t_characters, zo 2 q_t_draft [.ref q_t_draft_steps, .int t_draft_length, .int t_draft_actions, .int t_draft_site, .int t_draft_exit, .int t_draft_conditional, .int t_draft_there, .int t_draft_on, .int t_draft_failures, .int t_draft_meetings], zaI K q_t_draft_steps 48 t_draft_steps]) C 0 rfl rfl (c_Te_pass l D K q_t q_t_characters q_t_draft t_length (t_at + (1 : Int32)) t_characters (61 : Int32) hS52.1) (cwV 1 C.2.2.2.2.1 (z_gV wl_Te_46 wi_Te_pass wv_Te_pass wz_Te wk_Te_pass) rfl rfl rfl (by decide +kernel) ⟨Nat.le_of_ble_eq_true rfl, Nat.le_of_ble_eq_true rfl⟩) [0, 1] [2, 3] [2, 3, 0, 1] rfl rfl rfl rfl (by decide) (fun _ => rfl) rfl rfl rfl (Nat.le_of_ble_eq_true rfl) d_Te_readAction_61 ⟨Nat.le_of_ble_eq_true rfl, Nat.le_of_ble_eq_true rfl⟩ (fun r95 u96 e97 => ?_)
        have hS98 := hS52.2 r95 u96 e97
        refine z_if_ne (tgt := 89) C d_Te_readAction_64 (by decide) (fun c99 => ?_) (fun c99 => ?_)
        · have hS100 := hS98.1 c99
          refine z_aload_n C d_Te_readAction_89 rfl 2 rfl ?_
          refine z_iconst (v := (0 : Int32)) C d_Te_readAction_90 (by decide) ?_
          refine z_iconst (v := (0 : Int32)) C d_Te_readAction_91 (by decide) ?_
          refine z_callVi (As := [.int (0 : Int32), .int (0 : Int32)]) (b := q_t) (st := []) (wr := []) (wj := fun u => [zo 3 q_t [.ref q_t_characters, .ref q_t_draft, .int t_length, .int u.1], zaC K q_t_characters 48 t_characters, zo 2 q_t_draft [.ref q_t_draft_steps, .int u.2.1, .int t_draft_actions, .int t_draft_site, .int t_draft_exit, .int t_draft_conditional, .int t_draft_there, .int t_draft_on, .int t_draft_failures, .int t_draft_meetings], zaI K q_t_draft_steps 48 u.2.2]) C 0 rfl rfl (c_Te_readLevel l D K q_t q_t_characters q_t_draft q_t_draft_steps t_length u96 t_characters t_draft_length t_draft_actions t_draft_site t_draft_exit t_draft_conditional t_draft_there t_draft_on t_draft_failures t_draft_meetings t_draft_steps (0 : Int32) (0 : Int32) hS100.1) (cwV 2 C.2.2.2.2.1 (z_gV wl_Te_65 wi_Te_readLevel wv_Te_readLevel wz_Te wk_Te_readLevel) rfl rfl rfl (by decide +kernel) ⟨Nat.le_of_ble_eq_true rfl, Nat.le_of_ble_eq_true rfl⟩) [0, 1, 2, 3] [] [0, 1, 2, 3] rfl rfl rfl rfl (by decide) (fun _ => rfl) rfl rfl rfl (Nat.le_of_ble_eq_true rfl) d_Te_readAction_92 ⟨Nat.le_of_ble_eq_true rfl, Nat.le_of_ble_eq_true rfl⟩ (fun r101 u102 e103 => ?_)
          obtain ⟨m104, m105, m106⟩ := u102
          refine z_weq (ws' := [zo 3 q_t [.ref q_t_characters, .ref q_t_draft, .int t_length, .int m104], zaC K q_t_characters 48 t_characters, zo 2 q_t_draft [.ref q_t_draft_steps, .int m105, .int t_draft_actions, .int t_draft_site, .int t_draft_exit, .int t_draft_conditional, .int t_draft_there, .int t_draft_on, .int t_draft_failures, .int t_draft_meetings], zaI K q_t_draft_steps 48 m106]) rfl ?_
          have hS107 := hS100.2 r101 m104 m105 m106 e103
          refine z_if_ne (tgt := 100) C d_Te_readAction_95 (by decide) (fun c108 => ?_) (fun c108 => ?_)
          · have hS109 := hS107.1 c108
            refine z_aload_n C d_Te_readAction_100 rfl 2 rfl ?_
            refine z_get C 0 rfl rfl in_Te 1 (by decide) rfl wf_Te_18 rfl d_Te_readAction_101 ?_
            refine z_iload_n C d_Te_readAction_104 rfl 0 rfl ?_
            refine z_callVv (As := [.int (((85 : Int32) + r1) - (117 : Int32))]) (b := q_t_draft) (st := []) (wr := [zo 3 q_t [.ref q_t_characters, .ref q_t_draft, .int t_length, .int m104], zaC K q_t_characters 48 t_characters]) (wj := fun u => [zo 3 q_t [.ref q_t_characters, .ref q_t_draft, .int t_length, .int m104], zaC K q_t_characters 48 t_characters, zo 2 q_t_draft [.ref q_t_draft_steps, .int u.1, .int t_draft_actions, .int t_draft_site, .int t_draft_exit, .int t_draft_conditional, .int t_draft_there, .int t_draft_on, .int t_draft_failures, .int t_draft_meetings], zaI K q_t_draft_steps 48 u.2]) C 2 rfl rfl (c_Ru_add l D K q_t_draft q_t_draft_steps m105 t_draft_actions t_draft_site t_draft_exit t_draft_conditional t_draft_there t_draft_on t_draft_failures t_draft_meetings m106 (((85 : Int32) + r1) - (117 : Int32)) hS109.1) (cwV 1 C.2.2.2.2.1 (z_gV wl_Te_71 wi_Ru_add wv_Ru_add wz_Ru wk_Ru_add) rfl rfl rfl (by decide +kernel) ⟨Nat.le_of_ble_eq_true rfl, Nat.le_of_ble_eq_true rfl⟩) [2, 3] [0, 1] [0, 1, 2, 3] rfl rfl rfl rfl (by decide) (fun _ => rfl) rfl rfl rfl (Nat.le_of_ble_eq_true rfl) d_Te_readAction_105 ⟨Nat.le_of_ble_eq_true rfl, Nat.le_of_ble_eq_true rfl⟩ (fun u111 e112 => ?_)
            obtain ⟨m113, m114⟩ := u111
            refine z_weq (ws' := [zo 3 q_t [.ref q_t_characters, .ref q_t_draft, .int t_length, .int m104], zaC K q_t_characters 48 t_characters, zo 2 q_t_draft [.ref q_t_draft_steps, .int m113, .int t_draft_actions, .int t_draft_site, .int t_draft_exit, .int t_draft_conditional, .int t_draft_there, .int t_draft_on, .int t_draft_failures, .int t_draft_meetings], zaI K q_t_draft_steps 48 m114]) rfl ?_
            have hS115 := hS109.2 m113 m114 e112
            refine z_iconst (v := (1 : Int32)) C d_Te_readAction_108 (by decide) ?_
            exact z_zret C hr rfl hlk (m104, m113, m114) rfl hS115 d_Te_readAction_109
          · have hS109 := hS107.2 c108
            refine z_iconst (v := (0 : Int32)) C d_Te_readAction_98 (by decide) ?_
            exact z_zret C hr rfl hlk (m104, m105, m106) rfl hS109 d_Te_readAction_99
        · have hS100 := hS98.2 c99
          refine z_iconst (v := (0 : Int32)) C d_Te_readAction_67 (by decide) ?_
          exact z_zret C hr rfl hlk (u96, t_draft_length, t_draft_steps) rfl hS100 d_Te_readAction_68
  · have hS6 := hS4.2 c5
    refine z_aload_n C d_Te_readAction_11 rfl 1 rfl ?_
    refine z_dup C d_Te_readAction_12 rfl ?_
    refine z_get C 0 rfl rfl in_Te 3 (by decide) rfl wf_Te_26 rfl d_Te_readAction_13 ?_
    refine z_iconst (v := (1 : Int32)) C d_Te_readAction_16 (by decide) ?_
    refine z_iadd C d_Te_readAction_17 ?_
    refine z_put (ty := .int) (ws' := [zo 3 q_t [.ref q_t_characters, .ref q_t_draft, .int t_length, .int (t_at + (1 : Int32))], zaC K q_t_characters 48 t_characters, zo 2 q_t_draft [.ref q_t_draft_steps, .int t_draft_length, .int t_draft_actions, .int t_draft_site, .int t_draft_exit, .int t_draft_conditional, .int t_draft_there, .int t_draft_on, .int t_draft_failures, .int t_draft_meetings], zaI K q_t_draft_steps 48 t_draft_steps]) C ty_Te to_Te nm_Te 0 rfl rfl in_Te 3 (by decide) rfl wf_Te_26 rfl rfl rfl rfl (Nat.le_of_ble_eq_true rfl) rfl d_Te_readAction_18 ?_
    refine z_aload_n C d_Te_readAction_21 rfl 1 rfl ?_
    refine z_callVi (As := []) (b := q_t) (st := []) (wr := []) (wj := fun u => [zo 3 q_t [.ref q_t_characters, .ref q_t_draft, .int t_length, .int u.1], zaC K q_t_characters 48 t_characters, zo 2 q_t_draft [.ref q_t_draft_steps, .int u.2.1, .int t_draft_actions, .int t_draft_site, .int t_draft_exit, .int t_draft_conditional, .int t_draft_there, .int t_draft_on, .int t_draft_failures, .int t_draft_meetings], zaI K q_t_draft_steps 48 u.2.2]) C 0 rfl rfl (c_Te_readGathering l D K q_t q_t_characters q_t_draft q_t_draft_steps t_length (t_at + (1 : Int32)) t_characters t_draft_length t_draft_actions t_draft_site t_draft_exit t_draft_conditional t_draft_there t_draft_on t_draft_failures t_draft_meetings t_draft_steps hS6.1) (cwV 0 C.2.2.2.2.1 (z_gV wl_Te_75 wi_Te_readGathering wv_Te_readGathering wz_Te wk_Te_readGathering) rfl rfl rfl (by decide +kernel) ⟨Nat.le_of_ble_eq_true rfl, Nat.le_of_ble_eq_true rfl⟩) [0, 1, 2, 3] [] [0, 1, 2, 3] rfl rfl rfl rfl (by decide) (fun _ => rfl) rfl rfl rfl (Nat.le_of_ble_eq_true rfl) d_Te_readAction_22 ⟨Nat.le_of_ble_eq_true rfl, Nat.le_of_ble_eq_true rfl⟩ (fun r116 u117 e118 => ?_)
    obtain ⟨m119, m120, m121⟩ := u117
    refine z_weq (ws' := [zo 3 q_t [.ref q_t_characters, .ref q_t_draft, .int t_length, .int m119], zaC K q_t_characters 48 t_characters, zo 2 q_t_draft [.ref q_t_draft_steps, .int m120, .int t_draft_actions, .int t_draft_site, .int t_draft_exit, .int t_draft_conditional, .int t_draft_there, .int t_draft_on, .int t_draft_failures, .int t_draft_meetings], zaI K q_t_draft_steps 48 m121]) rfl ?_
    have hS122 := hS6.2 r116 m119 m120 m121 e118
    exact z_zret C hr (zb_n hS122.1) hlk (m119, m120, m121) rfl hS122.2 d_Te_readAction_25
def s_Te_readAction (t_length : Int32) (t_at : Int32) (t_characters : Nat → Int32) (t_draft_length : Int32) (t_draft_steps : Nat → Int32) : Int32 × Int32 × Int32 × (Nat → Int32) := (zl1 (s_Te_next t_length t_at t_characters) fun r1 => (if r1 = (64 : Int32) then (zl2 (s_Te_readGathering t_length (t_at + (1 : Int32)) t_characters t_draft_length t_draft_steps) (fun r116 z_r116 => zl2 z_r116 (fun m119 z_m119 => zl2 z_m119 (fun m120 m121 => (r116, m119, m120, m121))))) else (if r1 < (117 : Int32) then (zl2 (s_Te_pass t_length t_at t_characters (33 : Int32)) (fun r9 u10 => (if r9 = 0 then (zl2 (s_Te_pass t_length u10 t_characters (63 : Int32)) (fun r30 u31 => (if r30 = 0 then ((0 : Int32), u31, t_draft_length, t_draft_steps) else (zl2 (s_Te_readLevel t_length u31 t_characters t_draft_length t_draft_steps (0 : Int32) (0 : Int32)) (fun r36 z_r36 => zl2 z_r36 (fun m39 z_m39 => zl2 z_m39 (fun m40 m41 => (if r36 = 0 then ((0 : Int32), m39, m40, m41) else (zl2 (s_Ru_add m40 m41 r1) (fun m48 m49 => ((1 : Int32), m39, m48, m49))))))))))) else (zl2 (s_Te_readLevel t_length u10 t_characters t_draft_length t_draft_steps (0 : Int32) (0 : Int32)) (fun r15 z_r15 => zl2 z_r15 (fun m18 z_m18 => zl2 z_m18 (fun m19 m20 => (if r15 = 0 then ((0 : Int32), m18, m19, m20) else (zl2 (s_Ru_add m19 m20 r1) (fun m27 m28 => ((1 : Int32), m18, m27, m28))))))))))) else (if (122 : Int32) < r1 then (zl2 (s_Te_pass t_length t_at t_characters (33 : Int32)) (fun r53 u54 => (if r53 = 0 then (zl2 (s_Te_pass t_length u54 t_characters (63 : Int32)) (fun r74 u75 => (if r74 = 0 then ((0 : Int32), u75, t_draft_length, t_draft_steps) else (zl2 (s_Te_readLevel t_length u75 t_characters t_draft_length t_draft_steps (0 : Int32) (0 : Int32)) (fun r80 z_r80 => zl2 z_r80 (fun m83 z_m83 => zl2 z_m83 (fun m84 m85 => (if r80 = 0 then ((0 : Int32), m83, m84, m85) else (zl2 (s_Ru_add m84 m85 r1) (fun m92 m93 => ((1 : Int32), m83, m92, m93))))))))))) else (zl2 (s_Te_readLevel t_length u54 t_characters t_draft_length t_draft_steps (0 : Int32) (0 : Int32)) (fun r59 z_r59 => zl2 z_r59 (fun m62 z_m62 => zl2 z_m62 (fun m63 m64 => (if r59 = 0 then ((0 : Int32), m62, m63, m64) else (zl2 (s_Ru_add m63 m64 r1) (fun m71 m72 => ((1 : Int32), m62, m71, m72))))))))))) else (zl2 (s_Te_pass t_length (t_at + (1 : Int32)) t_characters (61 : Int32)) (fun r95 u96 => (if r95 = 0 then ((0 : Int32), u96, t_draft_length, t_draft_steps) else (zl2 (s_Te_readLevel t_length u96 t_characters t_draft_length t_draft_steps (0 : Int32) (0 : Int32)) (fun r101 z_r101 => zl2 z_r101 (fun m104 z_m104 => zl2 z_m104 (fun m105 m106 => (if r101 = 0 then ((0 : Int32), m104, m105, m106) else (zl2 (s_Ru_add m105 m106 (((85 : Int32) + r1) - (117 : Int32))) (fun m113 m114 => ((1 : Int32), m104, m113, m114)))))))))))))))
def p_Te_readAction (t_length : Int32) (t_at : Int32) (t_characters : Nat → Int32) (t_draft_length : Int32) (t_draft_steps : Nat → Int32) : Prop := WP_Te_readAction t_length t_at t_characters t_draft_length t_draft_steps (fun _ _ => True)
set_option maxRecDepth 100000 in
theorem v_Te_readAction (t_length : Int32) (t_at : Int32) (t_characters : Nat → Int32) (t_draft_length : Int32) (t_draft_steps : Nat → Int32) (hp : p_Te_readAction t_length t_at t_characters t_draft_length t_draft_steps) : WP_Te_readAction t_length t_at t_characters t_draft_length t_draft_steps (fun r u => s_Te_readAction t_length t_at t_characters t_draft_length t_draft_steps = (r, u.1, u.2.1, u.2.2)) := by
  unfold p_Te_readAction WP_Te_readAction at hp
  obtain ⟨tgt, f0⟩ : ∃ tgt, s_Te_readAction t_length t_at t_characters t_draft_length t_draft_steps = tgt := ⟨_, rfl⟩
  rw [f0]
  unfold s_Te_readAction at f0
  unfold WP_Te_readAction
  refine ⟨hp.1, ?_⟩
  have g2 := hp.2
  intro r1 e3
  have g1 := g2 r1 e3
  have f1 := Eq.trans (Eq.symm (zl1_eq e3)) f0
  refine ⟨fun c5 => ?_, fun c5 => ?_⟩
  · have f3 := Eq.trans (Eq.symm (if_neg c5)) f1
    have g3 := g1.1 c5
    refine ⟨fun c7 => ?_, fun c7 => ?_⟩
    · have f4 := Eq.trans (Eq.symm (if_pos c7)) f3
      have g4 := g3.1 c7
      refine ⟨g4.1, ?_⟩
      have g6 := g4.2
      intro r9 u10 e11
      have g5 := g6 r9 u10 e11
      have f5 := Eq.trans (Eq.symm (zl2_eq e11)) f4
      refine ⟨fun c13 => ?_, fun c13 => ?_⟩
      · have f7 := Eq.trans (Eq.symm (if_neg c13)) f5
        have g7 := g5.1 c13
        refine ⟨g7.1, ?_⟩
        have g9 := g7.2
        intro r15 m18 m19 m20 e17
        have g8 := g9 r15 m18 m19 m20 e17
        have f8 := Eq.trans (Eq.symm (zl2_eq e17)) f7
        have f8 := Eq.trans (Eq.symm (zl2_eq (Eq.refl (m18, m19, m20)))) f8
        have f8 := Eq.trans (Eq.symm (zl2_eq (Eq.refl (m19, m20)))) f8
        refine ⟨fun c22 => ?_, fun c22 => ?_⟩
        · have f10 := Eq.trans (Eq.symm (if_neg c22)) f8
          have g10 := g8.1 c22
          refine ⟨g10.1, ?_⟩
          have g12 := g10.2
          intro m27 m28 e26
          have g11 := g12 m27 m28 e26
          have f11 := Eq.trans (Eq.symm (zl2_eq e26)) f10
          exact f11.symm
        · have f10 := Eq.trans (Eq.symm (if_pos c22)) f8
          have g10 := g8.2 c22
          exact f10.symm
      · have f7 := Eq.trans (Eq.symm (if_pos c13)) f5
        have g7 := g5.2 c13
        refine ⟨g7.1, ?_⟩
        have g14 := g7.2
        intro r30 u31 e32
        have g13 := g14 r30 u31 e32
        have f13 := Eq.trans (Eq.symm (zl2_eq e32)) f7
        refine ⟨fun c34 => ?_, fun c34 => ?_⟩
        · have f15 := Eq.trans (Eq.symm (if_neg c34)) f13
          have g15 := g13.1 c34
          refine ⟨g15.1, ?_⟩
          have g17 := g15.2
          intro r36 m39 m40 m41 e38
          have g16 := g17 r36 m39 m40 m41 e38
          have f16 := Eq.trans (Eq.symm (zl2_eq e38)) f15
          have f16 := Eq.trans (Eq.symm (zl2_eq (Eq.refl (m39, m40, m41)))) f16
          have f16 := Eq.trans (Eq.symm (zl2_eq (Eq.refl (m40, m41)))) f16
          refine ⟨fun c43 => ?_, fun c43 => ?_⟩
          · have f18 := Eq.trans (Eq.symm (if_neg c43)) f16
            have g18 := g16.1 c43
            refine ⟨g18.1, ?_⟩
            have g20 := g18.2
            intro m48 m49 e47
            have g19 := g20 m48 m49 e47
            have f19 := Eq.trans (Eq.symm (zl2_eq e47)) f18
            exact f19.symm
          · have f18 := Eq.trans (Eq.symm (if_pos c43)) f16
            have g18 := g16.2 c43
            exact f18.symm
        · have f15 := Eq.trans (Eq.symm (if_pos c34)) f13
          have g15 := g13.2 c34
          exact f15.symm
    · have f4 := Eq.trans (Eq.symm (if_neg c7)) f3
      have g4 := g3.2 c7
      refine ⟨fun c51 => ?_, fun c51 => ?_⟩
      · have f21 := Eq.trans (Eq.symm (if_pos c51)) f4
        have g21 := g4.1 c51
        refine ⟨g21.1, ?_⟩
        have g23 := g21.2
        intro r53 u54 e55
        have g22 := g23 r53 u54 e55
        have f22 := Eq.trans (Eq.symm (zl2_eq e55)) f21
        refine ⟨fun c57 => ?_, fun c57 => ?_⟩
        · have f24 := Eq.trans (Eq.symm (if_neg c57)) f22
          have g24 := g22.1 c57
          refine ⟨g24.1, ?_⟩
          have g26 := g24.2
          intro r59 m62 m63 m64 e61
          have g25 := g26 r59 m62 m63 m64 e61
          have f25 := Eq.trans (Eq.symm (zl2_eq e61)) f24
          have f25 := Eq.trans (Eq.symm (zl2_eq (Eq.refl (m62, m63, m64)))) f25
          have f25 := Eq.trans (Eq.symm (zl2_eq (Eq.refl (m63, m64)))) f25
          refine ⟨fun c66 => ?_, fun c66 => ?_⟩
          · have f27 := Eq.trans (Eq.symm (if_neg c66)) f25
            have g27 := g25.1 c66
            refine ⟨g27.1, ?_⟩
            have g29 := g27.2
            intro m71 m72 e70
            have g28 := g29 m71 m72 e70
            have f28 := Eq.trans (Eq.symm (zl2_eq e70)) f27
            exact f28.symm
          · have f27 := Eq.trans (Eq.symm (if_pos c66)) f25
            have g27 := g25.2 c66
            exact f27.symm
        · have f24 := Eq.trans (Eq.symm (if_pos c57)) f22
          have g24 := g22.2 c57
          refine ⟨g24.1, ?_⟩
          have g31 := g24.2
          intro r74 u75 e76
          have g30 := g31 r74 u75 e76
          have f30 := Eq.trans (Eq.symm (zl2_eq e76)) f24
          refine ⟨fun c78 => ?_, fun c78 => ?_⟩
          · have f32 := Eq.trans (Eq.symm (if_neg c78)) f30
            have g32 := g30.1 c78
            refine ⟨g32.1, ?_⟩
            have g34 := g32.2
            intro r80 m83 m84 m85 e82
            have g33 := g34 r80 m83 m84 m85 e82
            have f33 := Eq.trans (Eq.symm (zl2_eq e82)) f32
            have f33 := Eq.trans (Eq.symm (zl2_eq (Eq.refl (m83, m84, m85)))) f33
            have f33 := Eq.trans (Eq.symm (zl2_eq (Eq.refl (m84, m85)))) f33
            refine ⟨fun c87 => ?_, fun c87 => ?_⟩
            · have f35 := Eq.trans (Eq.symm (if_neg c87)) f33
              have g35 := g33.1 c87
              refine ⟨g35.1, ?_⟩
              have g37 := g35.2
              intro m92 m93 e91
              have g36 := g37 m92 m93 e91
              have f36 := Eq.trans (Eq.symm (zl2_eq e91)) f35
              exact f36.symm
            · have f35 := Eq.trans (Eq.symm (if_pos c87)) f33
              have g35 := g33.2 c87
              exact f35.symm
          · have f32 := Eq.trans (Eq.symm (if_pos c78)) f30
            have g32 := g30.2 c78
            exact f32.symm
      · have f21 := Eq.trans (Eq.symm (if_neg c51)) f4
        have g21 := g4.2 c51
        refine ⟨g21.1, ?_⟩
        have g39 := g21.2
        intro r95 u96 e97
        have g38 := g39 r95 u96 e97
        have f38 := Eq.trans (Eq.symm (zl2_eq e97)) f21
        refine ⟨fun c99 => ?_, fun c99 => ?_⟩
        · have f40 := Eq.trans (Eq.symm (if_neg c99)) f38
          have g40 := g38.1 c99
          refine ⟨g40.1, ?_⟩
          have g42 := g40.2
          intro r101 m104 m105 m106 e103
          have g41 := g42 r101 m104 m105 m106 e103
          have f41 := Eq.trans (Eq.symm (zl2_eq e103)) f40
          have f41 := Eq.trans (Eq.symm (zl2_eq (Eq.refl (m104, m105, m106)))) f41
          have f41 := Eq.trans (Eq.symm (zl2_eq (Eq.refl (m105, m106)))) f41
          refine ⟨fun c108 => ?_, fun c108 => ?_⟩
          · have f43 := Eq.trans (Eq.symm (if_neg c108)) f41
            have g43 := g41.1 c108
            refine ⟨g43.1, ?_⟩
            have g45 := g43.2
            intro m113 m114 e112
            have g44 := g45 m113 m114 e112
            have f44 := Eq.trans (Eq.symm (zl2_eq e112)) f43
            exact f44.symm
          · have f43 := Eq.trans (Eq.symm (if_pos c108)) f41
            have g43 := g41.2 c108
            exact f43.symm
        · have f40 := Eq.trans (Eq.symm (if_pos c99)) f38
          have g40 := g38.2 c99
          exact f40.symm
  · have f3 := Eq.trans (Eq.symm (if_pos c5)) f1
    have g3 := g1.2 c5
    refine ⟨g3.1, ?_⟩
    have g47 := g3.2
    intro r116 m119 m120 m121 e118
    have g46 := g47 r116 m119 m120 m121 e118
    have f46 := Eq.trans (Eq.symm (zl2_eq e118)) f3
    have f46 := Eq.trans (Eq.symm (zl2_eq (Eq.refl (m119, m120, m121)))) f46
    have f46 := Eq.trans (Eq.symm (zl2_eq (Eq.refl (m120, m121)))) f46
    refine ⟨g46.1, ?_⟩
    have g48 := g46.2
    exact f46.symm
theorem c_Te_readAction (l : Launch) (D : va_G) (K : Nat → ClassId) (q_t : Nat) (q_t_characters : Nat) (q_t_draft : Nat) (q_t_draft_steps : Nat) (t_length : Int32) (t_at : Int32) (t_characters : Nat → Int32) (t_draft_length : Int32) (t_draft_actions : Int32) (t_draft_site : Int32) (t_draft_exit : Int32) (t_draft_conditional : Int32) (t_draft_there : Int32) (t_draft_on : Int32) (t_draft_failures : Int32) (t_draft_meetings : Int32) (t_draft_steps : Nat → Int32) (hp : p_Te_readAction t_length t_at t_characters t_draft_length t_draft_steps) : zCi l y_Te_readAction wy_Te_readAction rm_Te_readAction D zcl (zT K) [.ref q_t] (w_Te_readAction K q_t q_t_characters q_t_draft q_t_draft_steps t_length t_characters t_draft_actions t_draft_site t_draft_exit t_draft_conditional t_draft_there t_draft_on t_draft_failures t_draft_meetings (t_at, t_draft_length, t_draft_steps)) (w_Te_readAction K q_t q_t_characters q_t_draft q_t_draft_steps t_length t_characters t_draft_actions t_draft_site t_draft_exit t_draft_conditional t_draft_there t_draft_on t_draft_failures t_draft_meetings) (fun r u => s_Te_readAction t_length t_at t_characters t_draft_length t_draft_steps = (r, u.1, u.2.1, u.2.2)) 0 0 := cw_Te_readAction l D K q_t q_t_characters q_t_draft q_t_draft_steps t_length t_at t_characters t_draft_length t_draft_actions t_draft_site t_draft_exit t_draft_conditional t_draft_there t_draft_on t_draft_failures t_draft_meetings t_draft_steps (v_Te_readAction t_length t_at t_characters t_draft_length t_draft_steps hp)
-- RuleTracer$RuleText.readHead()Z: reads ['t.length', 't.at', 't.characters', 't.draft.length', 't.draft.site', 't.draft.exit', 't.draft.conditional', 't.draft.steps'], changes ['t.at', 't.draft.length', 't.draft.site', 't.draft.exit', 't.draft.conditional', 't.draft.steps']
abbrev w_Te_readHead (K : Nat → ClassId) (q_t : Nat) (q_t_characters : Nat) (q_t_draft : Nat) (q_t_draft_steps : Nat) (t_length : Int32) (t_characters : Nat → Int32) (t_draft_actions : Int32) (t_draft_there : Int32) (t_draft_on : Int32) (t_draft_failures : Int32) (t_draft_meetings : Int32) (u : Int32 × Int32 × Int32 × Int32 × Int32 × (Nat → Int32)) : va_W := [zo 3 q_t [.ref q_t_characters, .ref q_t_draft, .int t_length, .int u.1], zaC K q_t_characters 48 t_characters, zo 2 q_t_draft [.ref q_t_draft_steps, .int u.2.1, .int t_draft_actions, .int u.2.2.1, .int u.2.2.2.1, .int u.2.2.2.2.1, .int t_draft_there, .int t_draft_on, .int t_draft_failures, .int t_draft_meetings], zaI K q_t_draft_steps 48 u.2.2.2.2.2]
abbrev rm_Te_readHead : Room := { frames := 35, cells := 0, slots := 0, locals := 1125 }
abbrev wy_Te_readHead : List Cond := .code y_Te_readHead b_Te_readHead 1 (some .boolean) :: zWT
def WP_Te_readHead (t_length : Int32) (t_at : Int32) (t_characters : Nat → Int32) (t_draft_length : Int32) (t_draft_site : Int32) (t_draft_exit : Int32) (t_draft_conditional : Int32) (t_draft_steps : Nat → Int32) (Q : Int32 → (Int32 × Int32 × Int32 × Int32 × Int32 × (Nat → Int32)) → Prop) : Prop := p_Te_next t_length t_at t_characters ∧ (∀ (r1 : Int32), s_Te_next t_length t_at t_characters = r1 → ((¬ r1 = (120 : Int32)) → p_Te_pass t_length t_at t_characters (101 : Int32) ∧ (∀ (r7 : Int32) (u8 : Int32), s_Te_pass t_length t_at t_characters (101 : Int32) = (r7, u8) → ((¬ r7 = 0) → p_Te_next t_length u8 t_characters ∧ (∀ (r13 : Int32), s_Te_next t_length u8 t_characters = r13 → (∀ (r17 : Int32), s_Tr_isWithin (r13 - (48 : Int32)) (8 : Int32) = r17 → ((¬ r17 = 0) → p_Te_pass t_length (u8 + (1 : Int32)) t_characters (47 : Int32) ∧ (∀ (r23 : Int32) (u24 : Int32), s_Te_pass t_length (u8 + (1 : Int32)) t_characters (47 : Int32) = (r23, u24) → ((r23 = 0) → p_Te_pass t_length u24 t_characters (123 : Int32) ∧ (∀ (r29 : Int32) (u30 : Int32), s_Te_pass t_length u24 t_characters (123 : Int32) = (r29, u30) → (zb r29 ∧ Q r29 (u30, t_draft_length, r13 - (48 : Int32), (0 : Int32), t_draft_conditional, t_draft_steps)))) ∧ ((¬ r23 = 0) → p_Te_readLevel t_length u24 t_characters t_draft_length t_draft_steps (0 : Int32) (0 : Int32) ∧ (∀ (r33 : Int32) (m36 : Int32) (m37 : Int32) (m38 : Nat → Int32), s_Te_readLevel t_length u24 t_characters t_draft_length t_draft_steps (0 : Int32) (0 : Int32) = (r33, m36, m37, m38) → ((r33 = 0) → Q (0 : Int32) (m36, m37, r13 - (48 : Int32), (0 : Int32), t_draft_conditional, m38)) ∧ ((¬ r33 = 0) → p_Te_pass t_length m36 t_characters (47 : Int32) ∧ (∀ (r42 : Int32) (u43 : Int32), s_Te_pass t_length m36 t_characters (47 : Int32) = (r42, u43) → ((¬ r42 = 0) → p_Ru_add m37 m38 (47 : Int32) ∧ (∀ (m51 : Int32) (m52 : Nat → Int32), s_Ru_add m37 m38 (47 : Int32) = (m51, m52) → p_Te_pass t_length u43 t_characters (123 : Int32) ∧ (∀ (r54 : Int32) (u55 : Int32), s_Te_pass t_length u43 t_characters (123 : Int32) = (r54, u55) → (zb r54 ∧ Q r54 (u55, m51, r13 - (48 : Int32), (0 : Int32), (1 : Int32), m52))))) ∧ ((r42 = 0) → Q (0 : Int32) (u43, m37, r13 - (48 : Int32), (0 : Int32), t_draft_conditional, m38)))))))) ∧ ((r17 = 0) → Q (0 : Int32) (u8, t_draft_length, r13 - (48 : Int32), (0 : Int32), t_draft_conditional, t_draft_steps))))) ∧ ((r7 = 0) → p_Te_pass t_length u8 t_characters (120 : Int32) ∧ (∀ (r58 : Int32) (u59 : Int32), s_Te_pass t_length u8 t_characters (120 : Int32) = (r58, u59) → ((¬ r58 = 0) → p_Te_next t_length u59 t_characters ∧ (∀ (r64 : Int32), s_Te_next t_length u59 t_characters = r64 → (∀ (r68 : Int32), s_Tr_isWithin (r64 - (48 : Int32)) (8 : Int32) = r68 → ((¬ r68 = 0) → p_Te_pass t_length (u59 + (1 : Int32)) t_characters (47 : Int32) ∧ (∀ (r74 : Int32) (u75 : Int32), s_Te_pass t_length (u59 + (1 : Int32)) t_characters (47 : Int32) = (r74, u75) → ((r74 = 0) → p_Te_pass t_length u75 t_characters (123 : Int32) ∧ (∀ (r80 : Int32) (u81 : Int32), s_Te_pass t_length u75 t_characters (123 : Int32) = (r80, u81) → (zb r80 ∧ Q r80 (u81, t_draft_length, r64 - (48 : Int32), (0 : Int32), t_draft_conditional, t_draft_steps)))) ∧ ((¬ r74 = 0) → p_Te_readLevel t_length u75 t_characters t_draft_length t_draft_steps (0 : Int32) (0 : Int32) ∧ (∀ (r84 : Int32) (m87 : Int32) (m88 : Int32) (m89 : Nat → Int32), s_Te_readLevel t_length u75 t_characters t_draft_length t_draft_steps (0 : Int32) (0 : Int32) = (r84, m87, m88, m89) → ((r84 = 0) → Q (0 : Int32) (m87, m88, r64 - (48 : Int32), (0 : Int32), t_draft_conditional, m89)) ∧ ((¬ r84 = 0) → p_Te_pass t_length m87 t_characters (47 : Int32) ∧ (∀ (r93 : Int32) (u94 : Int32), s_Te_pass t_length m87 t_characters (47 : Int32) = (r93, u94) → ((¬ r93 = 0) → p_Ru_add m88 m89 (47 : Int32) ∧ (∀ (m102 : Int32) (m103 : Nat → Int32), s_Ru_add m88 m89 (47 : Int32) = (m102, m103) → p_Te_pass t_length u94 t_characters (123 : Int32) ∧ (∀ (r105 : Int32) (u106 : Int32), s_Te_pass t_length u94 t_characters (123 : Int32) = (r105, u106) → (zb r105 ∧ Q r105 (u106, m102, r64 - (48 : Int32), (0 : Int32), (1 : Int32), m103))))) ∧ ((r93 = 0) → Q (0 : Int32) (u94, m88, r64 - (48 : Int32), (0 : Int32), t_draft_conditional, m89)))))))) ∧ ((r68 = 0) → Q (0 : Int32) (u59, t_draft_length, r64 - (48 : Int32), (0 : Int32), t_draft_conditional, t_draft_steps))))) ∧ ((r58 = 0) → Q (0 : Int32) (u59, t_draft_length, t_draft_site, (0 : Int32), t_draft_conditional, t_draft_steps)))))) ∧ ((r1 = (120 : Int32)) → p_Te_pass t_length t_at t_characters (101 : Int32) ∧ (∀ (r109 : Int32) (u110 : Int32), s_Te_pass t_length t_at t_characters (101 : Int32) = (r109, u110) → ((¬ r109 = 0) → p_Te_next t_length u110 t_characters ∧ (∀ (r115 : Int32), s_Te_next t_length u110 t_characters = r115 → (∀ (r119 : Int32), s_Tr_isWithin (r115 - (48 : Int32)) (8 : Int32) = r119 → ((¬ r119 = 0) → p_Te_pass t_length (u110 + (1 : Int32)) t_characters (47 : Int32) ∧ (∀ (r125 : Int32) (u126 : Int32), s_Te_pass t_length (u110 + (1 : Int32)) t_characters (47 : Int32) = (r125, u126) → ((r125 = 0) → p_Te_pass t_length u126 t_characters (123 : Int32) ∧ (∀ (r131 : Int32) (u132 : Int32), s_Te_pass t_length u126 t_characters (123 : Int32) = (r131, u132) → (zb r131 ∧ Q r131 (u132, t_draft_length, r115 - (48 : Int32), (1 : Int32), t_draft_conditional, t_draft_steps)))) ∧ ((¬ r125 = 0) → p_Te_readLevel t_length u126 t_characters t_draft_length t_draft_steps (0 : Int32) (0 : Int32) ∧ (∀ (r135 : Int32) (m138 : Int32) (m139 : Int32) (m140 : Nat → Int32), s_Te_readLevel t_length u126 t_characters t_draft_length t_draft_steps (0 : Int32) (0 : Int32) = (r135, m138, m139, m140) → ((r135 = 0) → Q (0 : Int32) (m138, m139, r115 - (48 : Int32), (1 : Int32), t_draft_conditional, m140)) ∧ ((¬ r135 = 0) → p_Te_pass t_length m138 t_characters (47 : Int32) ∧ (∀ (r144 : Int32) (u145 : Int32), s_Te_pass t_length m138 t_characters (47 : Int32) = (r144, u145) → ((¬ r144 = 0) → p_Ru_add m139 m140 (47 : Int32) ∧ (∀ (m153 : Int32) (m154 : Nat → Int32), s_Ru_add m139 m140 (47 : Int32) = (m153, m154) → p_Te_pass t_length u145 t_characters (123 : Int32) ∧ (∀ (r156 : Int32) (u157 : Int32), s_Te_pass t_length u145 t_characters (123 : Int32) = (r156, u157) → (zb r156 ∧ Q r156 (u157, m153, r115 - (48 : Int32), (1 : Int32), (1 : Int32), m154))))) ∧ ((r144 = 0) → Q (0 : Int32) (u145, m139, r115 - (48 : Int32), (1 : Int32), t_draft_conditional, m140)))))))) ∧ ((r119 = 0) → Q (0 : Int32) (u110, t_draft_length, r115 - (48 : Int32), (1 : Int32), t_draft_conditional, t_draft_steps))))) ∧ ((r109 = 0) → p_Te_pass t_length u110 t_characters (120 : Int32) ∧ (∀ (r160 : Int32) (u161 : Int32), s_Te_pass t_length u110 t_characters (120 : Int32) = (r160, u161) → ((¬ r160 = 0) → p_Te_next t_length u161 t_characters ∧ (∀ (r166 : Int32), s_Te_next t_length u161 t_characters = r166 → (∀ (r170 : Int32), s_Tr_isWithin (r166 - (48 : Int32)) (8 : Int32) = r170 → ((¬ r170 = 0) → p_Te_pass t_length (u161 + (1 : Int32)) t_characters (47 : Int32) ∧ (∀ (r176 : Int32) (u177 : Int32), s_Te_pass t_length (u161 + (1 : Int32)) t_characters (47 : Int32) = (r176, u177) → ((r176 = 0) → p_Te_pass t_length u177 t_characters (123 : Int32) ∧ (∀ (r182 : Int32) (u183 : Int32), s_Te_pass t_length u177 t_characters (123 : Int32) = (r182, u183) → (zb r182 ∧ Q r182 (u183, t_draft_length, r166 - (48 : Int32), (1 : Int32), t_draft_conditional, t_draft_steps)))) ∧ ((¬ r176 = 0) → p_Te_readLevel t_length u177 t_characters t_draft_length t_draft_steps (0 : Int32) (0 : Int32) ∧ (∀ (r186 : Int32) (m189 : Int32) (m190 : Int32) (m191 : Nat → Int32), s_Te_readLevel t_length u177 t_characters t_draft_length t_draft_steps (0 : Int32) (0 : Int32) = (r186, m189, m190, m191) → ((r186 = 0) → Q (0 : Int32) (m189, m190, r166 - (48 : Int32), (1 : Int32), t_draft_conditional, m191)) ∧ ((¬ r186 = 0) → p_Te_pass t_length m189 t_characters (47 : Int32) ∧ (∀ (r195 : Int32) (u196 : Int32), s_Te_pass t_length m189 t_characters (47 : Int32) = (r195, u196) → ((¬ r195 = 0) → p_Ru_add m190 m191 (47 : Int32) ∧ (∀ (m204 : Int32) (m205 : Nat → Int32), s_Ru_add m190 m191 (47 : Int32) = (m204, m205) → p_Te_pass t_length u196 t_characters (123 : Int32) ∧ (∀ (r207 : Int32) (u208 : Int32), s_Te_pass t_length u196 t_characters (123 : Int32) = (r207, u208) → (zb r207 ∧ Q r207 (u208, m204, r166 - (48 : Int32), (1 : Int32), (1 : Int32), m205))))) ∧ ((r195 = 0) → Q (0 : Int32) (u196, m190, r166 - (48 : Int32), (1 : Int32), t_draft_conditional, m191)))))))) ∧ ((r170 = 0) → Q (0 : Int32) (u161, t_draft_length, r166 - (48 : Int32), (1 : Int32), t_draft_conditional, t_draft_steps))))) ∧ ((r160 = 0) → Q (0 : Int32) (u161, t_draft_length, t_draft_site, (1 : Int32), t_draft_conditional, t_draft_steps)))))))
set_option maxHeartbeats 4000000 in
set_option maxRecDepth 100000 in
theorem cw_Te_readHead (l : Launch) (D : va_G) (K : Nat → ClassId) (q_t : Nat) (q_t_characters : Nat) (q_t_draft : Nat) (q_t_draft_steps : Nat) (t_length : Int32) (t_at : Int32) (t_characters : Nat → Int32) (t_draft_length : Int32) (t_draft_actions : Int32) (t_draft_site : Int32) (t_draft_exit : Int32) (t_draft_conditional : Int32) (t_draft_there : Int32) (t_draft_on : Int32) (t_draft_failures : Int32) (t_draft_meetings : Int32) (t_draft_steps : Nat → Int32) {Q : Int32 → (Int32 × Int32 × Int32 × Int32 × Int32 × (Nat → Int32)) → Prop} (hS0 : WP_Te_readHead t_length t_at t_characters t_draft_length t_draft_site t_draft_exit t_draft_conditional t_draft_steps Q) : zCi l y_Te_readHead wy_Te_readHead rm_Te_readHead D zcl (zT K) [.ref q_t] (w_Te_readHead K q_t q_t_characters q_t_draft q_t_draft_steps t_length t_characters t_draft_actions t_draft_there t_draft_on t_draft_failures t_draft_meetings (t_at, t_draft_length, t_draft_site, t_draft_exit, t_draft_conditional, t_draft_steps)) (w_Te_readHead K q_t q_t_characters q_t_draft q_t_draft_steps t_length t_characters t_draft_actions t_draft_there t_draft_on t_draft_failures t_draft_meetings) Q 0 0 := by
  refine z_meti (cc := b_Te_readHead) (maxL := 1) (ret := (some .boolean)) (by decide) rfl (Nat.le_of_ble_eq_true rfl) ?_
  intro p e s m args below meth c A C hr hlk hnm
  refine z_lpick (lv' := [(0, .ref q_t)]) [0] rfl ?_
  refine z_weq (ws' := [zo 3 q_t [.ref q_t_characters, .ref q_t_draft, .int t_length, .int t_at], zaC K q_t_characters 48 t_characters, zo 2 q_t_draft [.ref q_t_draft_steps, .int t_draft_length, .int t_draft_actions, .int t_draft_site, .int t_draft_exit, .int t_draft_conditional, .int t_draft_there, .int t_draft_on, .int t_draft_failures, .int t_draft_meetings], zaI K q_t_draft_steps 48 t_draft_steps]) rfl ?_
  refine z_aload_n C d_Te_readHead_0 rfl 0 rfl ?_
  refine z_get C 0 rfl rfl in_Te 1 (by decide) rfl wf_Te_18 rfl d_Te_readHead_1 ?_
  refine z_aload_n C d_Te_readHead_4 rfl 0 rfl ?_
  refine z_callVi (As := []) (b := q_t) (st := [.ref q_t_draft]) (wr := [zo 2 q_t_draft [.ref q_t_draft_steps, .int t_draft_length, .int t_draft_actions, .int t_draft_site, .int t_draft_exit, .int t_draft_conditional, .int t_draft_there, .int t_draft_on, .int t_draft_failures, .int t_draft_meetings], zaI K q_t_draft_steps 48 t_draft_steps]) (wj := fun u => [zo 3 q_t [.ref q_t_characters, .ref q_t_draft, .int t_length, .int t_at], zaC K q_t_characters 48 t_characters, zo 2 q_t_draft [.ref q_t_draft_steps, .int t_draft_length, .int t_draft_actions, .int t_draft_site, .int t_draft_exit, .int t_draft_conditional, .int t_draft_there, .int t_draft_on, .int t_draft_failures, .int t_draft_meetings], zaI K q_t_draft_steps 48 t_draft_steps]) C 0 rfl rfl (c_Te_next l D K q_t q_t_characters q_t_draft t_length t_at t_characters hS0.1) (cwV 0 C.2.2.2.2.1 (z_gV wl_Te_50 wi_Te_next wv_Te_next wz_Te wk_Te_next) rfl rfl rfl (by decide +kernel) ⟨Nat.le_of_ble_eq_true rfl, Nat.le_of_ble_eq_true rfl⟩) [0, 1] [2, 3] [2, 3, 0, 1] rfl rfl rfl rfl (by decide) (fun _ => rfl) rfl rfl rfl (Nat.le_of_ble_eq_true rfl) d_Te_readHead_5 ⟨Nat.le_of_ble_eq_true rfl, Nat.le_of_ble_eq_true rfl⟩ (fun r1 u2 e3 => ?_)
  have hS4 := hS0.2 r1 e3
  refine z_bipush (v := (120 : Int32)) C d_Te_readHead_8 (by decide) ?_
  refine z_icmp_ne (tgt := 17) C d_Te_readHead_10 (by decide) (fun c5 => ?_) (fun c5 => ?_)
  · have hS6 := hS4.1 c5
    refine z_iconst (v := (0 : Int32)) C d_Te_readHead_17 (by decide) ?_
    refine z_put (ty := .boolean) (ws' := [zo 3 q_t [.ref q_t_characters, .ref q_t_draft, .int t_length, .int t_at], zaC K q_t_characters 48 t_characters, zo 2 q_t_draft [.ref q_t_draft_steps, .int t_draft_length, .int t_draft_actions, .int t_draft_site, .int (0 : Int32), .int t_draft_conditional, .int t_draft_there, .int t_draft_on, .int t_draft_failures, .int t_draft_meetings], zaI K q_t_draft_steps 48 t_draft_steps]) C ty_Ru to_Ru nm_Ru 2 rfl rfl in_Ru 4 (by decide) rfl wf_Te_54 rfl rfl rfl rfl (Nat.le_of_ble_eq_true rfl) rfl d_Te_readHead_18 ?_
    refine z_aload_n C d_Te_readHead_21 rfl 0 rfl ?_
    refine z_bipush (v := (101 : Int32)) C d_Te_readHead_22 (by decide) ?_
    refine z_callVi (As := [.int (101 : Int32)]) (b := q_t) (st := []) (wr := [zo 2 q_t_draft [.ref q_t_draft_steps, .int t_draft_length, .int t_draft_actions, .int t_draft_site, .int (0 : Int32), .int t_draft_conditional, .int t_draft_there, .int t_draft_on, .int t_draft_failures, .int t_draft_meetings], zaI K q_t_draft_steps 48 t_draft_steps]) (wj := fun u => [zo 3 q_t [.ref q_t_characters, .ref q_t_draft, .int t_length, .int u], zaC K q_t_characters 48 t_characters, zo 2 q_t_draft [.ref q_t_draft_steps, .int t_draft_length, .int t_draft_actions, .int t_draft_site, .int (0 : Int32), .int t_draft_conditional, .int t_draft_there, .int t_draft_on, .int t_draft_failures, .int t_draft_meetings], zaI K q_t_draft_steps 48 t_draft_steps]) C 0 rfl rfl (c_Te_pass l D K q_t q_t_characters q_t_draft t_length t_at t_characters (101 : Int32) hS6.1) (cwV 1 C.2.2.2.2.1 (z_gV wl_Te_46 wi_Te_pass wv_Te_pass wz_Te wk_Te_pass) rfl rfl rfl (by decide +kernel) ⟨Nat.le_of_ble_eq_true rfl, Nat.le_of_ble_eq_true rfl⟩) [0, 1] [2, 3] [2, 3, 0, 1] rfl rfl rfl rfl (by decide) (fun _ => rfl) rfl rfl rfl (Nat.le_of_ble_eq_true rfl) d_Te_readHead_24 ⟨Nat.le_of_ble_eq_true rfl, Nat.le_of_ble_eq_true rfl⟩ (fun r7 u8 e9 => ?_)
    have hS10 := hS6.2 r7 u8 e9
    refine z_if_ne (tgt := 41) C d_Te_readHead_27 (by decide) (fun c11 => ?_) (fun c11 => ?_)
    · have hS12 := hS10.1 c11
      refine z_aload_n C d_Te_readHead_41 rfl 0 rfl ?_
      refine z_get C 0 rfl rfl in_Te 1 (by decide) rfl wf_Te_18 rfl d_Te_readHead_42 ?_
      refine z_aload_n C d_Te_readHead_45 rfl 0 rfl ?_
      refine z_callVi (As := []) (b := q_t) (st := [.ref q_t_draft]) (wr := [zo 2 q_t_draft [.ref q_t_draft_steps, .int t_draft_length, .int t_draft_actions, .int t_draft_site, .int (0 : Int32), .int t_draft_conditional, .int t_draft_there, .int t_draft_on, .int t_draft_failures, .int t_draft_meetings], zaI K q_t_draft_steps 48 t_draft_steps]) (wj := fun u => [zo 3 q_t [.ref q_t_characters, .ref q_t_draft, .int t_length, .int u8], zaC K q_t_characters 48 t_characters, zo 2 q_t_draft [.ref q_t_draft_steps, .int t_draft_length, .int t_draft_actions, .int t_draft_site, .int (0 : Int32), .int t_draft_conditional, .int t_draft_there, .int t_draft_on, .int t_draft_failures, .int t_draft_meetings], zaI K q_t_draft_steps 48 t_draft_steps]) C 0 rfl rfl (c_Te_next l D K q_t q_t_characters q_t_draft t_length u8 t_characters hS12.1) (cwV 0 C.2.2.2.2.1 (z_gV wl_Te_50 wi_Te_next wv_Te_next wz_Te wk_Te_next) rfl rfl rfl (by decide +kernel) ⟨Nat.le_of_ble_eq_true rfl, Nat.le_of_ble_eq_true rfl⟩) [0, 1] [2, 3] [2, 3, 0, 1] rfl rfl rfl rfl (by decide) (fun _ => rfl) rfl rfl rfl (Nat.le_of_ble_eq_true rfl) d_Te_readHead_46 ⟨Nat.le_of_ble_eq_true rfl, Nat.le_of_ble_eq_true rfl⟩ (fun r13 u14 e15 => ?_)
      have hS16 := hS12.2 r13 e15
      refine z_bipush (v := (48 : Int32)) C d_Te_readHead_49 (by decide) ?_
      refine z_isub C d_Te_readHead_51 ?_
      refine z_put (ty := .int) (ws' := [zo 3 q_t [.ref q_t_characters, .ref q_t_draft, .int t_length, .int u8], zaC K q_t_characters 48 t_characters, zo 2 q_t_draft [.ref q_t_draft_steps, .int t_draft_length, .int t_draft_actions, .int (r13 - (48 : Int32)), .int (0 : Int32), .int t_draft_conditional, .int t_draft_there, .int t_draft_on, .int t_draft_failures, .int t_draft_meetings], zaI K q_t_draft_steps 48 t_draft_steps]) C ty_Ru to_Ru nm_Ru 2 rfl rfl in_Ru 3 (by decide) rfl wf_Te_58 rfl rfl rfl rfl (Nat.le_of_ble_eq_true rfl) rfl d_Te_readHead_52 ?_
      refine z_aload_n C d_Te_readHead_55 rfl 0 rfl ?_
      refine z_get C 0 rfl rfl in_Te 1 (by decide) rfl wf_Te_18 rfl d_Te_readHead_56 ?_
      refine z_get C 2 rfl rfl in_Ru 3 (by decide) rfl wf_Te_58 rfl d_Te_readHead_59 ?_
      refine z_bipush (v := (8 : Int32)) C d_Te_readHead_62 (by decide) ?_
      refine z_callSNi (As := [.int (r13 - (48 : Int32)), .int (8 : Int32)]) (st := []) (wr := [zo 3 q_t [.ref q_t_characters, .ref q_t_draft, .int t_length, .int u8], zaC K q_t_characters 48 t_characters, zo 2 q_t_draft [.ref q_t_draft_steps, .int t_draft_length, .int t_draft_actions, .int (r13 - (48 : Int32)), .int (0 : Int32), .int t_draft_conditional, .int t_draft_there, .int t_draft_on, .int t_draft_failures, .int t_draft_meetings], zaI K q_t_draft_steps 48 t_draft_steps]) (wj := fun u => [zo 3 q_t [.ref q_t_characters, .ref q_t_draft, .int t_length, .int u8], zaC K q_t_characters 48 t_characters, zo 2 q_t_draft [.ref q_t_draft_steps, .int t_draft_length, .int t_draft_actions, .int (r13 - (48 : Int32)), .int (0 : Int32), .int t_draft_conditional, .int t_draft_there, .int t_draft_on, .int t_draft_failures, .int t_draft_meetings], zaI K q_t_draft_steps 48 t_draft_steps]) C (c_Tr_isWithin l D K (r13 - (48 : Int32)) (8 : Int32)) ⟨va_cnB 2 C.2.2.2.2.1 (z_gI wk_Tr_isWithin) rfl rfl rfl (C.2.2.2.2.2.1.2.1 _ (List.mem_of_getElem? (i := 5) rfl)) (C.2.2.2.2.1 _ wz_Tr) (by decide +kernel) ⟨Nat.le_of_ble_eq_true rfl, Nat.le_of_ble_eq_true rfl⟩, C.2.2.2.2.1 _ ws_Tr_isWithin, trivial⟩ [] [0, 1, 2, 3] [0, 1, 2, 3] rfl rfl rfl rfl (by decide) (fun _ => rfl) rfl rfl rfl (Nat.le_of_ble_eq_true rfl) d_Te_readHead_64 ⟨Nat.le_of_ble_eq_true rfl, Nat.le_of_ble_eq_true rfl⟩ (fun r17 u18 e19 => ?_)
      have hS20 := hS16 r17 e19
      refine z_if_ne (tgt := 72) C d_Te_readHead_67 (by decide) (fun c21 => ?_) (fun c21 => ?_)
      · have hS22 := hS20.1 c21
        refine z_aload_n C d_Te_readHead_72 rfl 0 rfl ?_
        refine z_dup C d_Te_readHead_73 rfl ?_
        refine z_get C 0 rfl rfl in_Te 3 (by decide) rfl wf_Te_26 rfl d_Te_readHead_74 ?_
        refine z_iconst (v := (1 : Int32)) C d_Te_readHead_77 (by decide) ?_
        refine z_iadd C d_Te_readHead_78 ?_
        refine z_put (ty := .int) (ws' := [zo 3 q_t [.ref q_t_characters, .ref q_t_draft, .int t_length, .int (u8 + (1 : Int32))], zaC K q_t_characters 48 t_characters, zo 2 q_t_draft [.ref q_t_draft_steps, .int t_draft_length, .int t_draft_actions, .int (r13 - (48 : Int32)), .int (0 : Int32), .int t_draft_conditional, .int t_draft_there, .int t_draft_on, .int t_draft_failures, .int t_draft_meetings], zaI K q_t_draft_steps 48 t_draft_steps]) C ty_Te to_Te nm_Te 0 rfl rfl in_Te 3 (by decide) rfl wf_Te_26 rfl rfl rfl rfl (Nat.le_of_ble_eq_true rfl) rfl d_Te_readHead_79 ?_
        refine z_aload_n C d_Te_readHead_82 rfl 0 rfl ?_
        refine z_bipush (v := (47 : Int32)) C d_Te_readHead_83 (by decide) ?_
        refine z_callVi (As := [.int (47 : Int32)]) (b := q_t) (st := []) (wr := [zo 2 q_t_draft [.ref q_t_draft_steps, .int t_draft_length, .int t_draft_actions, .int (r13 - (48 : Int32)), .int (0 : Int32), .int t_draft_conditional, .int t_draft_there, .int t_draft_on, .int t_draft_failures, .int t_draft_meetings], zaI K q_t_draft_steps 48 t_draft_steps]) (wj := fun u => [zo 3 q_t [.ref q_t_characters, .ref q_t_draft, .int t_length, .int u], zaC K q_t_characters 48 t_characters, zo 2 q_t_draft [.ref q_t_draft_steps, .int t_draft_length, .int t_draft_actions, .int (r13 - (48 : Int32)), .int (0 : Int32), .int t_draft_conditional, .int t_draft_there, .int t_draft_on, .int t_draft_failures, .int t_draft_meetings], zaI K q_t_draft_steps 48 t_draft_steps]) C 0 rfl rfl (c_Te_pass l D K q_t q_t_characters q_t_draft t_length (u8 + (1 : Int32)) t_characters (47 : Int32) hS22.1) (cwV 1 C.2.2.2.2.1 (z_gV wl_Te_46 wi_Te_pass wv_Te_pass wz_Te wk_Te_pass) rfl rfl rfl (by decide +kernel) ⟨Nat.le_of_ble_eq_true rfl, Nat.le_of_ble_eq_true rfl⟩) [0, 1] [2, 3] [2, 3, 0, 1] rfl rfl rfl rfl (by decide) (fun _ => rfl) rfl rfl rfl (Nat.le_of_ble_eq_true rfl) d_Te_readHead_85 ⟨Nat.le_of_ble_eq_true rfl, Nat.le_of_ble_eq_true rfl⟩ (fun r23 u24 e25 => ?_)
        have hS26 := hS22.2 r23 u24 e25
        refine z_if_eq (tgt := 128) C d_Te_readHead_88 (by decide) (fun c27 => ?_) (fun c27 => ?_)
        · have hS28 := hS26.1 c27
          refine z_aload_n C d_Te_readHead_128 rfl 0 rfl ?_
          refine z_bipush (v := (123 : Int32)) C d_Te_readHead_129 (by decide) ?_
          refine z_callVi (As := [.int (123 : Int32)]) (b := q_t) (st := []) (wr := [zo 2 q_t_draft [.ref q_t_draft_steps, .int t_draft_length, .int t_draft_actions, .int (r13 - (48 : Int32)), .int (0 : Int32), .int t_draft_conditional, .int t_draft_there, .int t_draft_on, .int t_draft_failures, .int t_draft_meetings], zaI K q_t_draft_steps 48 t_draft_steps]) (wj := fun u => [zo 3 q_t [.ref q_t_characters, .ref q_t_draft, .int t_length, .int u], zaC K q_t_characters 48 t_characters, zo 2 q_t_draft [.ref q_t_draft_steps, .int t_draft_length, .int t_draft_actions, .int (r13 - (48 : Int32)), .int (0 : Int32), .int t_draft_conditional, .int t_draft_there, .int t_draft_on, .int t_draft_failures, .int t_draft_meetings], zaI K q_t_draft_steps 48 t_draft_steps]) C 0 rfl rfl (c_Te_pass l D K q_t q_t_characters q_t_draft t_length u24 t_characters (123 : Int32) hS28.1) (cwV 1 C.2.2.2.2.1 (z_gV wl_Te_46 wi_Te_pass wv_Te_pass wz_Te wk_Te_pass) rfl rfl rfl (by decide +kernel) ⟨Nat.le_of_ble_eq_true rfl, Nat.le_of_ble_eq_true rfl⟩) [0, 1] [2, 3] [2, 3, 0, 1] rfl rfl rfl rfl (by decide) (fun _ => rfl) rfl rfl rfl (Nat.le_of_ble_eq_true rfl) d_Te_readHead_131 ⟨Nat.le_of_ble_eq_true rfl, Nat.le_of_ble_eq_true rfl⟩ (fun r29 u30 e31 => ?_)
          have hS32 := hS28.2 r29 u30 e31
          exact z_zret C hr (zb_n hS32.1) hlk (u30, t_draft_length, r13 - (48 : Int32), (0 : Int32), t_draft_conditional, t_draft_steps) rfl hS32.2 d_Te_readHead_134
        · have hS28 := hS26.2 c27
          refine z_aload_n C d_Te_readHead_91 rfl 0 rfl ?_
          refine z_iconst (v := (0 : Int32)) C d_Te_readHead_92 (by decide) ?_
          refine z_iconst (v := (0 : Int32)) C d_Te_readHead_93 (by decide) ?_
          refine z_callVi (As := [.int (0 : Int32), .int (0 : Int32)]) (b := q_t) (st := []) (wr := []) (wj := fun u => [zo 3 q_t [.ref q_t_characters, .ref q_t_draft, .int t_length, .int u.1], zaC K q_t_characters 48 t_characters, zo 2 q_t_draft [.ref q_t_draft_steps, .int u.2.1, .int t_draft_actions, .int (r13 - (48 : Int32)), .int (0 : Int32), .int t_draft_conditional, .int t_draft_there, .int t_draft_on, .int t_draft_failures, .int t_draft_meetings], zaI K q_t_draft_steps 48 u.2.2]) C 0 rfl rfl (c_Te_readLevel l D K q_t q_t_characters q_t_draft q_t_draft_steps t_length u24 t_characters t_draft_length t_draft_actions (r13 - (48 : Int32)) (0 : Int32) t_draft_conditional t_draft_there t_draft_on t_draft_failures t_draft_meetings t_draft_steps (0 : Int32) (0 : Int32) hS28.1) (cwV 2 C.2.2.2.2.1 (z_gV wl_Te_65 wi_Te_readLevel wv_Te_readLevel wz_Te wk_Te_readLevel) rfl rfl rfl (by decide +kernel) ⟨Nat.le_of_ble_eq_true rfl, Nat.le_of_ble_eq_true rfl⟩) [0, 1, 2, 3] [] [0, 1, 2, 3] rfl rfl rfl rfl (by decide) (fun _ => rfl) rfl rfl rfl (Nat.le_of_ble_eq_true rfl) d_Te_readHead_94 ⟨Nat.le_of_ble_eq_true rfl, Nat.le_of_ble_eq_true rfl⟩ (fun r33 u34 e35 => ?_)
          obtain ⟨m36, m37, m38⟩ := u34
          refine z_weq (ws' := [zo 3 q_t [.ref q_t_characters, .ref q_t_draft, .int t_length, .int m36], zaC K q_t_characters 48 t_characters, zo 2 q_t_draft [.ref q_t_draft_steps, .int m37, .int t_draft_actions, .int (r13 - (48 : Int32)), .int (0 : Int32), .int t_draft_conditional, .int t_draft_there, .int t_draft_on, .int t_draft_failures, .int t_draft_meetings], zaI K q_t_draft_steps 48 m38]) rfl ?_
          have hS39 := hS28.2 r33 m36 m37 m38 e35
          refine z_if_eq (tgt := 109) C d_Te_readHead_97 (by decide) (fun c40 => ?_) (fun c40 => ?_)
          · have hS41 := hS39.1 c40
            refine z_iconst (v := (0 : Int32)) C d_Te_readHead_109 (by decide) ?_
            exact z_zret C hr rfl hlk (m36, m37, r13 - (48 : Int32), (0 : Int32), t_draft_conditional, m38) rfl hS41 d_Te_readHead_110
          · have hS41 := hS39.2 c40
            refine z_aload_n C d_Te_readHead_100 rfl 0 rfl ?_
            refine z_bipush (v := (47 : Int32)) C d_Te_readHead_101 (by decide) ?_
            refine z_callVi (As := [.int (47 : Int32)]) (b := q_t) (st := []) (wr := [zo 2 q_t_draft [.ref q_t_draft_steps, .int m37, .int t_draft_actions, .int (r13 - (48 : Int32)), .int (0 : Int32), .int t_draft_conditional, .int t_draft_there, .int t_draft_on, .int t_draft_failures, .int t_draft_meetings], zaI K q_t_draft_steps 48 m38]) (wj := fun u => [zo 3 q_t [.ref q_t_characters, .ref q_t_draft, .int t_length, .int u], zaC K q_t_characters 48 t_characters, zo 2 q_t_draft [.ref q_t_draft_steps, .int m37, .int t_draft_actions, .int (r13 - (48 : Int32)), .int (0 : Int32), .int t_draft_conditional, .int t_draft_there, .int t_draft_on, .int t_draft_failures, .int t_draft_meetings], zaI K q_t_draft_steps 48 m38]) C 0 rfl rfl (c_Te_pass l D K q_t q_t_characters q_t_draft t_length m36 t_characters (47 : Int32) hS41.1) (cwV 1 C.2.2.2.2.1 (z_gV wl_Te_46 wi_Te_pass wv_Te_pass wz_Te wk_Te_pass) rfl rfl rfl (by decide +kernel) ⟨Nat.le_of_ble_eq_true rfl, Nat.le_of_ble_eq_true rfl⟩) [0, 1] [2, 3] [2, 3, 0, 1] rfl rfl rfl rfl (by decide) (fun _ => rfl) rfl rfl rfl (Nat.le_of_ble_eq_true rfl) d_Te_readHead_103 ⟨Nat.le_of_ble_eq_true rfl, Nat.le_of_ble_eq_true rfl⟩ (fun r42 u43 e44 => ?_)
            have hS45 := hS41.2 r42 u43 e44
            refine z_if_ne (tgt := 111) C d_Te_readHead_106 (by decide) (fun c46 => ?_) (fun c46 => ?_)
            · have hS47 := hS45.1 c46
              refine z_aload_n C d_Te_readHead_111 rfl 0 rfl ?_
              refine z_get C 0 rfl rfl in_Te 1 (by decide) rfl wf_Te_18 rfl d_Te_readHead_112 ?_
              refine z_iconst (v := (1 : Int32)) C d_Te_readHead_115 (by decide) ?_
              refine z_put (ty := .boolean) (ws' := [zo 3 q_t [.ref q_t_characters, .ref q_t_draft, .int t_length, .int u43], zaC K q_t_characters 48 t_characters, zo 2 q_t_draft [.ref q_t_draft_steps, .int m37, .int t_draft_actions, .int (r13 - (48 : Int32)), .int (0 : Int32), .int (1 : Int32), .int t_draft_there, .int t_draft_on, .int t_draft_failures, .int t_draft_meetings], zaI K q_t_draft_steps 48 m38]) C ty_Ru to_Ru nm_Ru 2 rfl rfl in_Ru 5 (by decide) rfl wf_Te_68 rfl rfl rfl rfl (Nat.le_of_ble_eq_true rfl) rfl d_Te_readHead_116 ?_
              refine z_aload_n C d_Te_readHead_119 rfl 0 rfl ?_
              refine z_get C 0 rfl rfl in_Te 1 (by decide) rfl wf_Te_18 rfl d_Te_readHead_120 ?_
              refine z_bipush (v := (47 : Int32)) C d_Te_readHead_123 (by decide) ?_
              refine z_callVv (As := [.int (47 : Int32)]) (b := q_t_draft) (st := []) (wr := [zo 3 q_t [.ref q_t_characters, .ref q_t_draft, .int t_length, .int u43], zaC K q_t_characters 48 t_characters]) (wj := fun u => [zo 3 q_t [.ref q_t_characters, .ref q_t_draft, .int t_length, .int u43], zaC K q_t_characters 48 t_characters, zo 2 q_t_draft [.ref q_t_draft_steps, .int u.1, .int t_draft_actions, .int (r13 - (48 : Int32)), .int (0 : Int32), .int (1 : Int32), .int t_draft_there, .int t_draft_on, .int t_draft_failures, .int t_draft_meetings], zaI K q_t_draft_steps 48 u.2]) C 2 rfl rfl (c_Ru_add l D K q_t_draft q_t_draft_steps m37 t_draft_actions (r13 - (48 : Int32)) (0 : Int32) (1 : Int32) t_draft_there t_draft_on t_draft_failures t_draft_meetings m38 (47 : Int32) hS47.1) (cwV 1 C.2.2.2.2.1 (z_gV wl_Te_71 wi_Ru_add wv_Ru_add wz_Ru wk_Ru_add) rfl rfl rfl (by decide +kernel) ⟨Nat.le_of_ble_eq_true rfl, Nat.le_of_ble_eq_true rfl⟩) [2, 3] [0, 1] [0, 1, 2, 3] rfl rfl rfl rfl (by decide) (fun _ => rfl) rfl rfl rfl (Nat.le_of_ble_eq_true rfl) d_Te_readHead_125 ⟨Nat.le_of_ble_eq_true rfl, Nat.le_of_ble_eq_true rfl⟩ (fun u49 e50 => ?_)
              obtain ⟨m51, m52⟩ := u49
              refine z_weq (ws' := [zo 3 q_t [.ref q_t_characters, .ref q_t_draft, .int t_length, .int u43], zaC K q_t_characters 48 t_characters, zo 2 q_t_draft [.ref q_t_draft_steps, .int m51, .int t_draft_actions, .int (r13 - (48 : Int32)), .int (0 : Int32), .int (1 : Int32), .int t_draft_there, .int t_draft_on, .int t_draft_failures, .int t_draft_meetings], zaI K q_t_draft_steps 48 m52]) rfl ?_
              have hS53 := hS47.2 m51 m52 e50
              refine z_aload_n C d_Te_readHead_128 rfl 0 rfl ?_
              refine z_bipush (v := (123 : Int32)) C d_Te_readHead_129 (by decide) ?_
              refine z_callVi (As := [.int (123 : Int32)]) (b := q_t) (st := []) (wr := [zo 2 q_t_draft [.ref q_t_draft_steps, .int m51, .int t_draft_actions, .int (r13 - (48 : Int32)), .int (0 : Int32), .int (1 : Int32), .int t_draft_there, .int t_draft_on, .int t_draft_failures, .int t_draft_meetings], zaI K q_t_draft_steps 48 m52]) (wj := fun u => [zo 3 q_t [.ref q_t_characters, .ref q_t_draft, .int t_length, .int u], zaC K q_t_characters 48 t_characters, zo 2 q_t_draft [.ref q_t_draft_steps, .int m51, .int t_draft_actions, .int (r13 - (48 : Int32)), .int (0 : Int32), .int (1 : Int32), .int t_draft_there, .int t_draft_on, .int t_draft_failures, .int t_draft_meetings], zaI K q_t_draft_steps 48 m52]) C 0 rfl rfl (c_Te_pass l D K q_t q_t_characters q_t_draft t_length u43 t_characters (123 : Int32) hS53.1) (cwV 1 C.2.2.2.2.1 (z_gV wl_Te_46 wi_Te_pass wv_Te_pass wz_Te wk_Te_pass) rfl rfl rfl (by decide +kernel) ⟨Nat.le_of_ble_eq_true rfl, Nat.le_of_ble_eq_true rfl⟩) [0, 1] [2, 3] [2, 3, 0, 1] rfl rfl rfl rfl (by decide) (fun _ => rfl) rfl rfl rfl (Nat.le_of_ble_eq_true rfl) d_Te_readHead_131 ⟨Nat.le_of_ble_eq_true rfl, Nat.le_of_ble_eq_true rfl⟩ (fun r54 u55 e56 => ?_)
              have hS57 := hS53.2 r54 u55 e56
              exact z_zret C hr (zb_n hS57.1) hlk (u55, m51, r13 - (48 : Int32), (0 : Int32), (1 : Int32), m52) rfl hS57.2 d_Te_readHead_134
            · have hS47 := hS45.2 c46
              refine z_iconst (v := (0 : Int32)) C d_Te_readHead_109 (by decide) ?_
              exact z_zret C hr rfl hlk (u43, m37, r13 - (48 : Int32), (0 : Int32), t_draft_conditional, m38) rfl hS47 d_Te_readHead_110
      · have hS22 := hS20.2 c21
        refine z_iconst (v := (0 : Int32)) C d_Te_readHead_70 (by decide) ?_
        exact z_zret C hr rfl hlk (u8, t_draft_length, r13 - (48 : Int32), (0 : Int32), t_draft_conditional, t_draft_steps) rfl hS22 d_Te_readHead_71
    · have hS12 := hS10.2 c11
      refine z_aload_n C d_Te_readHead_30 rfl 0 rfl ?_
      refine z_bipush (v := (120 : Int32)) C d_Te_readHead_31 (by decide) ?_
      refine z_callVi (As := [.int (120 : Int32)]) (b := q_t) (st := []) (wr := [zo 2 q_t_draft [.ref q_t_draft_steps, .int t_draft_length, .int t_draft_actions, .int t_draft_site, .int (0 : Int32), .int t_draft_conditional, .int t_draft_there, .int t_draft_on, .int t_draft_failures, .int t_draft_meetings], zaI K q_t_draft_steps 48 t_draft_steps]) (wj := fun u => [zo 3 q_t [.ref q_t_characters, .ref q_t_draft, .int t_length, .int u], zaC K q_t_characters 48 t_characters, zo 2 q_t_draft [.ref q_t_draft_steps, .int t_draft_length, .int t_draft_actions, .int t_draft_site, .int (0 : Int32), .int t_draft_conditional, .int t_draft_there, .int t_draft_on, .int t_draft_failures, .int t_draft_meetings], zaI K q_t_draft_steps 48 t_draft_steps]) C 0 rfl rfl (c_Te_pass l D K q_t q_t_characters q_t_draft t_length u8 t_characters (120 : Int32) hS12.1) (cwV 1 C.2.2.2.2.1 (z_gV wl_Te_46 wi_Te_pass wv_Te_pass wz_Te wk_Te_pass) rfl rfl rfl (by decide +kernel) ⟨Nat.le_of_ble_eq_true rfl, Nat.le_of_ble_eq_true rfl⟩) [0, 1] [2, 3] [2, 3, 0, 1] rfl rfl rfl rfl (by decide) (fun _ => rfl) rfl rfl rfl (Nat.le_of_ble_eq_true rfl) d_Te_readHead_33 ⟨Nat.le_of_ble_eq_true rfl, Nat.le_of_ble_eq_true rfl⟩ (fun r58 u59 e60 => ?_)
      have hS61 := hS12.2 r58 u59 e60
      refine z_if_ne (tgt := 41) C d_Te_readHead_36 (by decide) (fun c62 => ?_) (fun c62 => ?_)
      · have hS63 := hS61.1 c62
        refine z_aload_n C d_Te_readHead_41 rfl 0 rfl ?_
        refine z_get C 0 rfl rfl in_Te 1 (by decide) rfl wf_Te_18 rfl d_Te_readHead_42 ?_
        refine z_aload_n C d_Te_readHead_45 rfl 0 rfl ?_
        refine z_callVi (As := []) (b := q_t) (st := [.ref q_t_draft]) (wr := [zo 2 q_t_draft [.ref q_t_draft_steps, .int t_draft_length, .int t_draft_actions, .int t_draft_site, .int (0 : Int32), .int t_draft_conditional, .int t_draft_there, .int t_draft_on, .int t_draft_failures, .int t_draft_meetings], zaI K q_t_draft_steps 48 t_draft_steps]) (wj := fun u => [zo 3 q_t [.ref q_t_characters, .ref q_t_draft, .int t_length, .int u59], zaC K q_t_characters 48 t_characters, zo 2 q_t_draft [.ref q_t_draft_steps, .int t_draft_length, .int t_draft_actions, .int t_draft_site, .int (0 : Int32), .int t_draft_conditional, .int t_draft_there, .int t_draft_on, .int t_draft_failures, .int t_draft_meetings], zaI K q_t_draft_steps 48 t_draft_steps]) C 0 rfl rfl (c_Te_next l D K q_t q_t_characters q_t_draft t_length u59 t_characters hS63.1) (cwV 0 C.2.2.2.2.1 (z_gV wl_Te_50 wi_Te_next wv_Te_next wz_Te wk_Te_next) rfl rfl rfl (by decide +kernel) ⟨Nat.le_of_ble_eq_true rfl, Nat.le_of_ble_eq_true rfl⟩) [0, 1] [2, 3] [2, 3, 0, 1] rfl rfl rfl rfl (by decide) (fun _ => rfl) rfl rfl rfl (Nat.le_of_ble_eq_true rfl) d_Te_readHead_46 ⟨Nat.le_of_ble_eq_true rfl, Nat.le_of_ble_eq_true rfl⟩ (fun r64 u65 e66 => ?_)
        have hS67 := hS63.2 r64 e66
        refine z_bipush (v := (48 : Int32)) C d_Te_readHead_49 (by decide) ?_
        refine z_isub C d_Te_readHead_51 ?_
        refine z_put (ty := .int) (ws' := [zo 3 q_t [.ref q_t_characters, .ref q_t_draft, .int t_length, .int u59], zaC K q_t_characters 48 t_characters, zo 2 q_t_draft [.ref q_t_draft_steps, .int t_draft_length, .int t_draft_actions, .int (r64 - (48 : Int32)), .int (0 : Int32), .int t_draft_conditional, .int t_draft_there, .int t_draft_on, .int t_draft_failures, .int t_draft_meetings], zaI K q_t_draft_steps 48 t_draft_steps]) C ty_Ru to_Ru nm_Ru 2 rfl rfl in_Ru 3 (by decide) rfl wf_Te_58 rfl rfl rfl rfl (Nat.le_of_ble_eq_true rfl) rfl d_Te_readHead_52 ?_
        refine z_aload_n C d_Te_readHead_55 rfl 0 rfl ?_
        refine z_get C 0 rfl rfl in_Te 1 (by decide) rfl wf_Te_18 rfl d_Te_readHead_56 ?_
        refine z_get C 2 rfl rfl in_Ru 3 (by decide) rfl wf_Te_58 rfl d_Te_readHead_59 ?_
        refine z_bipush (v := (8 : Int32)) C d_Te_readHead_62 (by decide) ?_
        refine z_callSNi (As := [.int (r64 - (48 : Int32)), .int (8 : Int32)]) (st := []) (wr := [zo 3 q_t [.ref q_t_characters, .ref q_t_draft, .int t_length, .int u59], zaC K q_t_characters 48 t_characters, zo 2 q_t_draft [.ref q_t_draft_steps, .int t_draft_length, .int t_draft_actions, .int (r64 - (48 : Int32)), .int (0 : Int32), .int t_draft_conditional, .int t_draft_there, .int t_draft_on, .int t_draft_failures, .int t_draft_meetings], zaI K q_t_draft_steps 48 t_draft_steps]) (wj := fun u => [zo 3 q_t [.ref q_t_characters, .ref q_t_draft, .int t_length, .int u59], zaC K q_t_characters 48 t_characters, zo 2 q_t_draft [.ref q_t_draft_steps, .int t_draft_length, .int t_draft_actions, .int (r64 - (48 : Int32)), .int (0 : Int32), .int t_draft_conditional, .int t_draft_there, .int t_draft_on, .int t_draft_failures, .int t_draft_meetings], zaI K q_t_draft_steps 48 t_draft_steps]) C (c_Tr_isWithin l D K (r64 - (48 : Int32)) (8 : Int32)) ⟨va_cnB 2 C.2.2.2.2.1 (z_gI wk_Tr_isWithin) rfl rfl rfl (C.2.2.2.2.2.1.2.1 _ (List.mem_of_getElem? (i := 5) rfl)) (C.2.2.2.2.1 _ wz_Tr) (by decide +kernel) ⟨Nat.le_of_ble_eq_true rfl, Nat.le_of_ble_eq_true rfl⟩, C.2.2.2.2.1 _ ws_Tr_isWithin, trivial⟩ [] [0, 1, 2, 3] [0, 1, 2, 3] rfl rfl rfl rfl (by decide) (fun _ => rfl) rfl rfl rfl (Nat.le_of_ble_eq_true rfl) d_Te_readHead_64 ⟨Nat.le_of_ble_eq_true rfl, Nat.le_of_ble_eq_true rfl⟩ (fun r68 u69 e70 => ?_)
        have hS71 := hS67 r68 e70
        refine z_if_ne (tgt := 72) C d_Te_readHead_67 (by decide) (fun c72 => ?_) (fun c72 => ?_)
        · have hS73 := hS71.1 c72
          refine z_aload_n C d_Te_readHead_72 rfl 0 rfl ?_
          refine z_dup C d_Te_readHead_73 rfl ?_
          refine z_get C 0 rfl rfl in_Te 3 (by decide) rfl wf_Te_26 rfl d_Te_readHead_74 ?_
          refine z_iconst (v := (1 : Int32)) C d_Te_readHead_77 (by decide) ?_
          refine z_iadd C d_Te_readHead_78 ?_
          refine z_put (ty := .int) (ws' := [zo 3 q_t [.ref q_t_characters, .ref q_t_draft, .int t_length, .int (u59 + (1 : Int32))], zaC K q_t_characters 48 t_characters, zo 2 q_t_draft [.ref q_t_draft_steps, .int t_draft_length, .int t_draft_actions, .int (r64 - (48 : Int32)), .int (0 : Int32), .int t_draft_conditional, .int t_draft_there, .int t_draft_on, .int t_draft_failures, .int t_draft_meetings], zaI K q_t_draft_steps 48 t_draft_steps]) C ty_Te to_Te nm_Te 0 rfl rfl in_Te 3 (by decide) rfl wf_Te_26 rfl rfl rfl rfl (Nat.le_of_ble_eq_true rfl) rfl d_Te_readHead_79 ?_
          refine z_aload_n C d_Te_readHead_82 rfl 0 rfl ?_
          refine z_bipush (v := (47 : Int32)) C d_Te_readHead_83 (by decide) ?_
          refine z_callVi (As := [.int (47 : Int32)]) (b := q_t) (st := []) (wr := [zo 2 q_t_draft [.ref q_t_draft_steps, .int t_draft_length, .int t_draft_actions, .int (r64 - (48 : Int32)), .int (0 : Int32), .int t_draft_conditional, .int t_draft_there, .int t_draft_on, .int t_draft_failures, .int t_draft_meetings], zaI K q_t_draft_steps 48 t_draft_steps]) (wj := fun u => [zo 3 q_t [.ref q_t_characters, .ref q_t_draft, .int t_length, .int u], zaC K q_t_characters 48 t_characters, zo 2 q_t_draft [.ref q_t_draft_steps, .int t_draft_length, .int t_draft_actions, .int (r64 - (48 : Int32)), .int (0 : Int32), .int t_draft_conditional, .int t_draft_there, .int t_draft_on, .int t_draft_failures, .int t_draft_meetings], zaI K q_t_draft_steps 48 t_draft_steps]) C 0 rfl rfl (c_Te_pass l D K q_t q_t_characters q_t_draft t_length (u59 + (1 : Int32)) t_characters (47 : Int32) hS73.1) (cwV 1 C.2.2.2.2.1 (z_gV wl_Te_46 wi_Te_pass wv_Te_pass wz_Te wk_Te_pass) rfl rfl rfl (by decide +kernel) ⟨Nat.le_of_ble_eq_true rfl, Nat.le_of_ble_eq_true rfl⟩) [0, 1] [2, 3] [2, 3, 0, 1] rfl rfl rfl rfl (by decide) (fun _ => rfl) rfl rfl rfl (Nat.le_of_ble_eq_true rfl) d_Te_readHead_85 ⟨Nat.le_of_ble_eq_true rfl, Nat.le_of_ble_eq_true rfl⟩ (fun r74 u75 e76 => ?_)
          have hS77 := hS73.2 r74 u75 e76
          refine z_if_eq (tgt := 128) C d_Te_readHead_88 (by decide) (fun c78 => ?_) (fun c78 => ?_)
          · have hS79 := hS77.1 c78
            refine z_aload_n C d_Te_readHead_128 rfl 0 rfl ?_
            refine z_bipush (v := (123 : Int32)) C d_Te_readHead_129 (by decide) ?_
            refine z_callVi (As := [.int (123 : Int32)]) (b := q_t) (st := []) (wr := [zo 2 q_t_draft [.ref q_t_draft_steps, .int t_draft_length, .int t_draft_actions, .int (r64 - (48 : Int32)), .int (0 : Int32), .int t_draft_conditional, .int t_draft_there, .int t_draft_on, .int t_draft_failures, .int t_draft_meetings], zaI K q_t_draft_steps 48 t_draft_steps]) (wj := fun u => [zo 3 q_t [.ref q_t_characters, .ref q_t_draft, .int t_length, .int u], zaC K q_t_characters 48 t_characters, zo 2 q_t_draft [.ref q_t_draft_steps, .int t_draft_length, .int t_draft_actions, .int (r64 - (48 : Int32)), .int (0 : Int32), .int t_draft_conditional, .int t_draft_there, .int t_draft_on, .int t_draft_failures, .int t_draft_meetings], zaI K q_t_draft_steps 48 t_draft_steps]) C 0 rfl rfl (c_Te_pass l D K q_t q_t_characters q_t_draft t_length u75 t_characters (123 : Int32) hS79.1) (cwV 1 C.2.2.2.2.1 (z_gV wl_Te_46 wi_Te_pass wv_Te_pass wz_Te wk_Te_pass) rfl rfl rfl (by decide +kernel) ⟨Nat.le_of_ble_eq_true rfl, Nat.le_of_ble_eq_true rfl⟩) [0, 1] [2, 3] [2, 3, 0, 1] rfl rfl rfl rfl (by decide) (fun _ => rfl) rfl rfl rfl (Nat.le_of_ble_eq_true rfl) d_Te_readHead_131 ⟨Nat.le_of_ble_eq_true rfl, Nat.le_of_ble_eq_true rfl⟩ (fun r80 u81 e82 => ?_)
            have hS83 := hS79.2 r80 u81 e82
            exact z_zret C hr (zb_n hS83.1) hlk (u81, t_draft_length, r64 - (48 : Int32), (0 : Int32), t_draft_conditional, t_draft_steps) rfl hS83.2 d_Te_readHead_134
          · have hS79 := hS77.2 c78
            refine z_aload_n C d_Te_readHead_91 rfl 0 rfl ?_
            refine z_iconst (v := (0 : Int32)) C d_Te_readHead_92 (by decide) ?_
            refine z_iconst (v := (0 : Int32)) C d_Te_readHead_93 (by decide) ?_
            refine z_callVi (As := [.int (0 : Int32), .int (0 : Int32)]) (b := q_t) (st := []) (wr := []) (wj := fun u => [zo 3 q_t [.ref q_t_characters, .ref q_t_draft, .int t_length, .int u.1], zaC K q_t_characters 48 t_characters, zo 2 q_t_draft [.ref q_t_draft_steps, .int u.2.1, .int t_draft_actions, .int (r64 - (48 : Int32)), .int (0 : Int32), .int t_draft_conditional, .int t_draft_there, .int t_draft_on, .int t_draft_failures, .int t_draft_meetings], zaI K q_t_draft_steps 48 u.2.2]) C 0 rfl rfl (c_Te_readLevel l D K q_t q_t_characters q_t_draft q_t_draft_steps t_length u75 t_characters t_draft_length t_draft_actions (r64 - (48 : Int32)) (0 : Int32) t_draft_conditional t_draft_there t_draft_on t_draft_failures t_draft_meetings t_draft_steps (0 : Int32) (0 : Int32) hS79.1) (cwV 2 C.2.2.2.2.1 (z_gV wl_Te_65 wi_Te_readLevel wv_Te_readLevel wz_Te wk_Te_readLevel) rfl rfl rfl (by decide +kernel) ⟨Nat.le_of_ble_eq_true rfl, Nat.le_of_ble_eq_true rfl⟩) [0, 1, 2, 3] [] [0, 1, 2, 3] rfl rfl rfl rfl (by decide) (fun _ => rfl) rfl rfl rfl (Nat.le_of_ble_eq_true rfl) d_Te_readHead_94 ⟨Nat.le_of_ble_eq_true rfl, Nat.le_of_ble_eq_true rfl⟩ (fun r84 u85 e86 => ?_)
            obtain ⟨m87, m88, m89⟩ := u85
            refine z_weq (ws' := [zo 3 q_t [.ref q_t_characters, .ref q_t_draft, .int t_length, .int m87], zaC K q_t_characters 48 t_characters, zo 2 q_t_draft [.ref q_t_draft_steps, .int m88, .int t_draft_actions, .int (r64 - (48 : Int32)), .int (0 : Int32), .int t_draft_conditional, .int t_draft_there, .int t_draft_on, .int t_draft_failures, .int t_draft_meetings], zaI K q_t_draft_steps 48 m89]) rfl ?_
            have hS90 := hS79.2 r84 m87 m88 m89 e86
            refine z_if_eq (tgt := 109) C d_Te_readHead_97 (by decide) (fun c91 => ?_) (fun c91 => ?_)
            · have hS92 := hS90.1 c91
              refine z_iconst (v := (0 : Int32)) C d_Te_readHead_109 (by decide) ?_
              exact z_zret C hr rfl hlk (m87, m88, r64 - (48 : Int32), (0 : Int32), t_draft_conditional, m89) rfl hS92 d_Te_readHead_110
            · have hS92 := hS90.2 c91
              refine z_aload_n C d_Te_readHead_100 rfl 0 rfl ?_
              refine z_bipush (v := (47 : Int32)) C d_Te_readHead_101 (by decide) ?_
              refine z_callVi (As := [.int (47 : Int32)]) (b := q_t) (st := []) (wr := [zo 2 q_t_draft [.ref q_t_draft_steps, .int m88, .int t_draft_actions, .int (r64 - (48 : Int32)), .int (0 : Int32), .int t_draft_conditional, .int t_draft_there, .int t_draft_on, .int t_draft_failures, .int t_draft_meetings], zaI K q_t_draft_steps 48 m89]) (wj := fun u => [zo 3 q_t [.ref q_t_characters, .ref q_t_draft, .int t_length, .int u], zaC K q_t_characters 48 t_characters, zo 2 q_t_draft [.ref q_t_draft_steps, .int m88, .int t_draft_actions, .int (r64 - (48 : Int32)), .int (0 : Int32), .int t_draft_conditional, .int t_draft_there, .int t_draft_on, .int t_draft_failures, .int t_draft_meetings], zaI K q_t_draft_steps 48 m89]) C 0 rfl rfl (c_Te_pass l D K q_t q_t_characters q_t_draft t_length m87 t_characters (47 : Int32) hS92.1) (cwV 1 C.2.2.2.2.1 (z_gV wl_Te_46 wi_Te_pass wv_Te_pass wz_Te wk_Te_pass) rfl rfl rfl (by decide +kernel) ⟨Nat.le_of_ble_eq_true rfl, Nat.le_of_ble_eq_true rfl⟩) [0, 1] [2, 3] [2, 3, 0, 1] rfl rfl rfl rfl (by decide) (fun _ => rfl) rfl rfl rfl (Nat.le_of_ble_eq_true rfl) d_Te_readHead_103 ⟨Nat.le_of_ble_eq_true rfl, Nat.le_of_ble_eq_true rfl⟩ (fun r93 u94 e95 => ?_)
              have hS96 := hS92.2 r93 u94 e95
              refine z_if_ne (tgt := 111) C d_Te_readHead_106 (by decide) (fun c97 => ?_) (fun c97 => ?_)
              · have hS98 := hS96.1 c97
                refine z_aload_n C d_Te_readHead_111 rfl 0 rfl ?_
                refine z_get C 0 rfl rfl in_Te 1 (by decide) rfl wf_Te_18 rfl d_Te_readHead_112 ?_
                refine z_iconst (v := (1 : Int32)) C d_Te_readHead_115 (by decide) ?_
                refine z_put (ty := .boolean) (ws' := [zo 3 q_t [.ref q_t_characters, .ref q_t_draft, .int t_length, .int u94], zaC K q_t_characters 48 t_characters, zo 2 q_t_draft [.ref q_t_draft_steps, .int m88, .int t_draft_actions, .int (r64 - (48 : Int32)), .int (0 : Int32), .int (1 : Int32), .int t_draft_there, .int t_draft_on, .int t_draft_failures, .int t_draft_meetings], zaI K q_t_draft_steps 48 m89]) C ty_Ru to_Ru nm_Ru 2 rfl rfl in_Ru 5 (by decide) rfl wf_Te_68 rfl rfl rfl rfl (Nat.le_of_ble_eq_true rfl) rfl d_Te_readHead_116 ?_
                refine z_aload_n C d_Te_readHead_119 rfl 0 rfl ?_
                refine z_get C 0 rfl rfl in_Te 1 (by decide) rfl wf_Te_18 rfl d_Te_readHead_120 ?_
                refine z_bipush (v := (47 : Int32)) C d_Te_readHead_123 (by decide) ?_
                refine z_callVv (As := [.int (47 : Int32)]) (b := q_t_draft) (st := []) (wr := [zo 3 q_t [.ref q_t_characters, .ref q_t_draft, .int t_length, .int u94], zaC K q_t_characters 48 t_characters]) (wj := fun u => [zo 3 q_t [.ref q_t_characters, .ref q_t_draft, .int t_length, .int u94], zaC K q_t_characters 48 t_characters, zo 2 q_t_draft [.ref q_t_draft_steps, .int u.1, .int t_draft_actions, .int (r64 - (48 : Int32)), .int (0 : Int32), .int (1 : Int32), .int t_draft_there, .int t_draft_on, .int t_draft_failures, .int t_draft_meetings], zaI K q_t_draft_steps 48 u.2]) C 2 rfl rfl (c_Ru_add l D K q_t_draft q_t_draft_steps m88 t_draft_actions (r64 - (48 : Int32)) (0 : Int32) (1 : Int32) t_draft_there t_draft_on t_draft_failures t_draft_meetings m89 (47 : Int32) hS98.1) (cwV 1 C.2.2.2.2.1 (z_gV wl_Te_71 wi_Ru_add wv_Ru_add wz_Ru wk_Ru_add) rfl rfl rfl (by decide +kernel) ⟨Nat.le_of_ble_eq_true rfl, Nat.le_of_ble_eq_true rfl⟩) [2, 3] [0, 1] [0, 1, 2, 3] rfl rfl rfl rfl (by decide) (fun _ => rfl) rfl rfl rfl (Nat.le_of_ble_eq_true rfl) d_Te_readHead_125 ⟨Nat.le_of_ble_eq_true rfl, Nat.le_of_ble_eq_true rfl⟩ (fun u100 e101 => ?_)
                obtain ⟨m102, m103⟩ := u100
                refine z_weq (ws' := [zo 3 q_t [.ref q_t_characters, .ref q_t_draft, .int t_length, .int u94], zaC K q_t_characters 48 t_characters, zo 2 q_t_draft [.ref q_t_draft_steps, .int m102, .int t_draft_actions, .int (r64 - (48 : Int32)), .int (0 : Int32), .int (1 : Int32), .int t_draft_there, .int t_draft_on, .int t_draft_failures, .int t_draft_meetings], zaI K q_t_draft_steps 48 m103]) rfl ?_
                have hS104 := hS98.2 m102 m103 e101
                refine z_aload_n C d_Te_readHead_128 rfl 0 rfl ?_
                refine z_bipush (v := (123 : Int32)) C d_Te_readHead_129 (by decide) ?_
                refine z_callVi (As := [.int (123 : Int32)]) (b := q_t) (st := []) (wr := [zo 2 q_t_draft [.ref q_t_draft_steps, .int m102, .int t_draft_actions, .int (r64 - (48 : Int32)), .int (0 : Int32), .int (1 : Int32), .int t_draft_there, .int t_draft_on, .int t_draft_failures, .int t_draft_meetings], zaI K q_t_draft_steps 48 m103]) (wj := fun u => [zo 3 q_t [.ref q_t_characters, .ref q_t_draft, .int t_length, .int u], zaC K q_t_characters 48 t_characters, zo 2 q_t_draft [.ref q_t_draft_steps, .int m102, .int t_draft_actions, .int (r64 - (48 : Int32)), .int (0 : Int32), .int (1 : Int32), .int t_draft_there, .int t_draft_on, .int t_draft_failures, .int t_draft_meetings], zaI K q_t_draft_steps 48 m103]) C 0 rfl rfl (c_Te_pass l D K q_t q_t_characters q_t_draft t_length u94 t_characters (123 : Int32) hS104.1) (cwV 1 C.2.2.2.2.1 (z_gV wl_Te_46 wi_Te_pass wv_Te_pass wz_Te wk_Te_pass) rfl rfl rfl (by decide +kernel) ⟨Nat.le_of_ble_eq_true rfl, Nat.le_of_ble_eq_true rfl⟩) [0, 1] [2, 3] [2, 3, 0, 1] rfl rfl rfl rfl (by decide) (fun _ => rfl) rfl rfl rfl (Nat.le_of_ble_eq_true rfl) d_Te_readHead_131 ⟨Nat.le_of_ble_eq_true rfl, Nat.le_of_ble_eq_true rfl⟩ (fun r105 u106 e107 => ?_)
                have hS108 := hS104.2 r105 u106 e107
                exact z_zret C hr (zb_n hS108.1) hlk (u106, m102, r64 - (48 : Int32), (0 : Int32), (1 : Int32), m103) rfl hS108.2 d_Te_readHead_134
              · have hS98 := hS96.2 c97
                refine z_iconst (v := (0 : Int32)) C d_Te_readHead_109 (by decide) ?_
                exact z_zret C hr rfl hlk (u94, m88, r64 - (48 : Int32), (0 : Int32), t_draft_conditional, m89) rfl hS98 d_Te_readHead_110
        · have hS73 := hS71.2 c72
          refine z_iconst (v := (0 : Int32)) C d_Te_readHead_70 (by decide) ?_
          exact z_zret C hr rfl hlk (u59, t_draft_length, r64 - (48 : Int32), (0 : Int32), t_draft_conditional, t_draft_steps) rfl hS73 d_Te_readHead_71
      · have hS63 := hS61.2 c62
        refine z_iconst (v := (0 : Int32)) C d_Te_readHead_39 (by decide) ?_
        exact z_zret C hr rfl hlk (u59, t_draft_length, t_draft_site, (0 : Int32), t_draft_conditional, t_draft_steps) rfl hS63 d_Te_readHead_40
  · have hS6 := hS4.2 c5
    refine z_iconst (v := (1 : Int32)) C d_Te_readHead_13 (by decide) ?_
    refine z_goto (tgt := 18) C d_Te_readHead_14 (by decide) ?_
    refine z_put (ty := .boolean) (ws' := [zo 3 q_t [.ref q_t_characters, .ref q_t_draft, .int t_length, .int t_at], zaC K q_t_characters 48 t_characters, zo 2 q_t_draft [.ref q_t_draft_steps, .int t_draft_length, .int t_draft_actions, .int t_draft_site, .int (1 : Int32), .int t_draft_conditional, .int t_draft_there, .int t_draft_on, .int t_draft_failures, .int t_draft_meetings], zaI K q_t_draft_steps 48 t_draft_steps]) C ty_Ru to_Ru nm_Ru 2 rfl rfl in_Ru 4 (by decide) rfl wf_Te_54 rfl rfl rfl rfl (Nat.le_of_ble_eq_true rfl) rfl d_Te_readHead_18 ?_
    refine z_aload_n C d_Te_readHead_21 rfl 0 rfl ?_
    refine z_bipush (v := (101 : Int32)) C d_Te_readHead_22 (by decide) ?_
    refine z_callVi (As := [.int (101 : Int32)]) (b := q_t) (st := []) (wr := [zo 2 q_t_draft [.ref q_t_draft_steps, .int t_draft_length, .int t_draft_actions, .int t_draft_site, .int (1 : Int32), .int t_draft_conditional, .int t_draft_there, .int t_draft_on, .int t_draft_failures, .int t_draft_meetings], zaI K q_t_draft_steps 48 t_draft_steps]) (wj := fun u => [zo 3 q_t [.ref q_t_characters, .ref q_t_draft, .int t_length, .int u], zaC K q_t_characters 48 t_characters, zo 2 q_t_draft [.ref q_t_draft_steps, .int t_draft_length, .int t_draft_actions, .int t_draft_site, .int (1 : Int32), .int t_draft_conditional, .int t_draft_there, .int t_draft_on, .int t_draft_failures, .int t_draft_meetings], zaI K q_t_draft_steps 48 t_draft_steps]) C 0 rfl rfl (c_Te_pass l D K q_t q_t_characters q_t_draft t_length t_at t_characters (101 : Int32) hS6.1) (cwV 1 C.2.2.2.2.1 (z_gV wl_Te_46 wi_Te_pass wv_Te_pass wz_Te wk_Te_pass) rfl rfl rfl (by decide +kernel) ⟨Nat.le_of_ble_eq_true rfl, Nat.le_of_ble_eq_true rfl⟩) [0, 1] [2, 3] [2, 3, 0, 1] rfl rfl rfl rfl (by decide) (fun _ => rfl) rfl rfl rfl (Nat.le_of_ble_eq_true rfl) d_Te_readHead_24 ⟨Nat.le_of_ble_eq_true rfl, Nat.le_of_ble_eq_true rfl⟩ (fun r109 u110 e111 => ?_)
    have hS112 := hS6.2 r109 u110 e111
    refine z_if_ne (tgt := 41) C d_Te_readHead_27 (by decide) (fun c113 => ?_) (fun c113 => ?_)
    · have hS114 := hS112.1 c113
      refine z_aload_n C d_Te_readHead_41 rfl 0 rfl ?_
      refine z_get C 0 rfl rfl in_Te 1 (by decide) rfl wf_Te_18 rfl d_Te_readHead_42 ?_
      refine z_aload_n C d_Te_readHead_45 rfl 0 rfl ?_
      refine z_callVi (As := []) (b := q_t) (st := [.ref q_t_draft]) (wr := [zo 2 q_t_draft [.ref q_t_draft_steps, .int t_draft_length, .int t_draft_actions, .int t_draft_site, .int (1 : Int32), .int t_draft_conditional, .int t_draft_there, .int t_draft_on, .int t_draft_failures, .int t_draft_meetings], zaI K q_t_draft_steps 48 t_draft_steps]) (wj := fun u => [zo 3 q_t [.ref q_t_characters, .ref q_t_draft, .int t_length, .int u110], zaC K q_t_characters 48 t_characters, zo 2 q_t_draft [.ref q_t_draft_steps, .int t_draft_length, .int t_draft_actions, .int t_draft_site, .int (1 : Int32), .int t_draft_conditional, .int t_draft_there, .int t_draft_on, .int t_draft_failures, .int t_draft_meetings], zaI K q_t_draft_steps 48 t_draft_steps]) C 0 rfl rfl (c_Te_next l D K q_t q_t_characters q_t_draft t_length u110 t_characters hS114.1) (cwV 0 C.2.2.2.2.1 (z_gV wl_Te_50 wi_Te_next wv_Te_next wz_Te wk_Te_next) rfl rfl rfl (by decide +kernel) ⟨Nat.le_of_ble_eq_true rfl, Nat.le_of_ble_eq_true rfl⟩) [0, 1] [2, 3] [2, 3, 0, 1] rfl rfl rfl rfl (by decide) (fun _ => rfl) rfl rfl rfl (Nat.le_of_ble_eq_true rfl) d_Te_readHead_46 ⟨Nat.le_of_ble_eq_true rfl, Nat.le_of_ble_eq_true rfl⟩ (fun r115 u116 e117 => ?_)
      have hS118 := hS114.2 r115 e117
      refine z_bipush (v := (48 : Int32)) C d_Te_readHead_49 (by decide) ?_
      refine z_isub C d_Te_readHead_51 ?_
      refine z_put (ty := .int) (ws' := [zo 3 q_t [.ref q_t_characters, .ref q_t_draft, .int t_length, .int u110], zaC K q_t_characters 48 t_characters, zo 2 q_t_draft [.ref q_t_draft_steps, .int t_draft_length, .int t_draft_actions, .int (r115 - (48 : Int32)), .int (1 : Int32), .int t_draft_conditional, .int t_draft_there, .int t_draft_on, .int t_draft_failures, .int t_draft_meetings], zaI K q_t_draft_steps 48 t_draft_steps]) C ty_Ru to_Ru nm_Ru 2 rfl rfl in_Ru 3 (by decide) rfl wf_Te_58 rfl rfl rfl rfl (Nat.le_of_ble_eq_true rfl) rfl d_Te_readHead_52 ?_
      refine z_aload_n C d_Te_readHead_55 rfl 0 rfl ?_
      refine z_get C 0 rfl rfl in_Te 1 (by decide) rfl wf_Te_18 rfl d_Te_readHead_56 ?_
      refine z_get C 2 rfl rfl in_Ru 3 (by decide) rfl wf_Te_58 rfl d_Te_readHead_59 ?_
      refine z_bipush (v := (8 : Int32)) C d_Te_readHead_62 (by decide) ?_
      refine z_callSNi (As := [.int (r115 - (48 : Int32)), .int (8 : Int32)]) (st := []) (wr := [zo 3 q_t [.ref q_t_characters, .ref q_t_draft, .int t_length, .int u110], zaC K q_t_characters 48 t_characters, zo 2 q_t_draft [.ref q_t_draft_steps, .int t_draft_length, .int t_draft_actions, .int (r115 - (48 : Int32)), .int (1 : Int32), .int t_draft_conditional, .int t_draft_there, .int t_draft_on, .int t_draft_failures, .int t_draft_meetings], zaI K q_t_draft_steps 48 t_draft_steps]) (wj := fun u => [zo 3 q_t [.ref q_t_characters, .ref q_t_draft, .int t_length, .int u110], zaC K q_t_characters 48 t_characters, zo 2 q_t_draft [.ref q_t_draft_steps, .int t_draft_length, .int t_draft_actions, .int (r115 - (48 : Int32)), .int (1 : Int32), .int t_draft_conditional, .int t_draft_there, .int t_draft_on, .int t_draft_failures, .int t_draft_meetings], zaI K q_t_draft_steps 48 t_draft_steps]) C (c_Tr_isWithin l D K (r115 - (48 : Int32)) (8 : Int32)) ⟨va_cnB 2 C.2.2.2.2.1 (z_gI wk_Tr_isWithin) rfl rfl rfl (C.2.2.2.2.2.1.2.1 _ (List.mem_of_getElem? (i := 5) rfl)) (C.2.2.2.2.1 _ wz_Tr) (by decide +kernel) ⟨Nat.le_of_ble_eq_true rfl, Nat.le_of_ble_eq_true rfl⟩, C.2.2.2.2.1 _ ws_Tr_isWithin, trivial⟩ [] [0, 1, 2, 3] [0, 1, 2, 3] rfl rfl rfl rfl (by decide) (fun _ => rfl) rfl rfl rfl (Nat.le_of_ble_eq_true rfl) d_Te_readHead_64 ⟨Nat.le_of_ble_eq_true rfl, Nat.le_of_ble_eq_true rfl⟩ (fun r119 u120 e121 => ?_)
      have hS122 := hS118 r119 e121
      refine z_if_ne (tgt := 72) C d_Te_readHead_67 (by decide) (fun c123 => ?_) (fun c123 => ?_)
      · have hS124 := hS122.1 c123
        refine z_aload_n C d_Te_readHead_72 rfl 0 rfl ?_
        refine z_dup C d_Te_readHead_73 rfl ?_
        refine z_get C 0 rfl rfl in_Te 3 (by decide) rfl wf_Te_26 rfl d_Te_readHead_74 ?_
        refine z_iconst (v := (1 : Int32)) C d_Te_readHead_77 (by decide) ?_
        refine z_iadd C d_Te_readHead_78 ?_
        refine z_put (ty := .int) (ws' := [zo 3 q_t [.ref q_t_characters, .ref q_t_draft, .int t_length, .int (u110 + (1 : Int32))], zaC K q_t_characters 48 t_characters, zo 2 q_t_draft [.ref q_t_draft_steps, .int t_draft_length, .int t_draft_actions, .int (r115 - (48 : Int32)), .int (1 : Int32), .int t_draft_conditional, .int t_draft_there, .int t_draft_on, .int t_draft_failures, .int t_draft_meetings], zaI K q_t_draft_steps 48 t_draft_steps]) C ty_Te to_Te nm_Te 0 rfl rfl in_Te 3 (by decide) rfl wf_Te_26 rfl rfl rfl rfl (Nat.le_of_ble_eq_true rfl) rfl d_Te_readHead_79 ?_
        refine z_aload_n C d_Te_readHead_82 rfl 0 rfl ?_
        refine z_bipush (v := (47 : Int32)) C d_Te_readHead_83 (by decide) ?_
        refine z_callVi (As := [.int (47 : Int32)]) (b := q_t) (st := []) (wr := [zo 2 q_t_draft [.ref q_t_draft_steps, .int t_draft_length, .int t_draft_actions, .int (r115 - (48 : Int32)), .int (1 : Int32), .int t_draft_conditional, .int t_draft_there, .int t_draft_on, .int t_draft_failures, .int t_draft_meetings], zaI K q_t_draft_steps 48 t_draft_steps]) (wj := fun u => [zo 3 q_t [.ref q_t_characters, .ref q_t_draft, .int t_length, .int u], zaC K q_t_characters 48 t_characters, zo 2 q_t_draft [.ref q_t_draft_steps, .int t_draft_length, .int t_draft_actions, .int (r115 - (48 : Int32)), .int (1 : Int32), .int t_draft_conditional, .int t_draft_there, .int t_draft_on, .int t_draft_failures, .int t_draft_meetings], zaI K q_t_draft_steps 48 t_draft_steps]) C 0 rfl rfl (c_Te_pass l D K q_t q_t_characters q_t_draft t_length (u110 + (1 : Int32)) t_characters (47 : Int32) hS124.1) (cwV 1 C.2.2.2.2.1 (z_gV wl_Te_46 wi_Te_pass wv_Te_pass wz_Te wk_Te_pass) rfl rfl rfl (by decide +kernel) ⟨Nat.le_of_ble_eq_true rfl, Nat.le_of_ble_eq_true rfl⟩) [0, 1] [2, 3] [2, 3, 0, 1] rfl rfl rfl rfl (by decide) (fun _ => rfl) rfl rfl rfl (Nat.le_of_ble_eq_true rfl) d_Te_readHead_85 ⟨Nat.le_of_ble_eq_true rfl, Nat.le_of_ble_eq_true rfl⟩ (fun r125 u126 e127 => ?_)
        have hS128 := hS124.2 r125 u126 e127
        refine z_if_eq (tgt := 128) C d_Te_readHead_88 (by decide) (fun c129 => ?_) (fun c129 => ?_)
        · have hS130 := hS128.1 c129
          refine z_aload_n C d_Te_readHead_128 rfl 0 rfl ?_
          refine z_bipush (v := (123 : Int32)) C d_Te_readHead_129 (by decide) ?_
          refine z_callVi (As := [.int (123 : Int32)]) (b := q_t) (st := []) (wr := [zo 2 q_t_draft [.ref q_t_draft_steps, .int t_draft_length, .int t_draft_actions, .int (r115 - (48 : Int32)), .int (1 : Int32), .int t_draft_conditional, .int t_draft_there, .int t_draft_on, .int t_draft_failures, .int t_draft_meetings], zaI K q_t_draft_steps 48 t_draft_steps]) (wj := fun u => [zo 3 q_t [.ref q_t_characters, .ref q_t_draft, .int t_length, .int u], zaC K q_t_characters 48 t_characters, zo 2 q_t_draft [.ref q_t_draft_steps, .int t_draft_length, .int t_draft_actions, .int (r115 - (48 : Int32)), .int (1 : Int32), .int t_draft_conditional, .int t_draft_there, .int t_draft_on, .int t_draft_failures, .int t_draft_meetings], zaI K q_t_draft_steps 48 t_draft_steps]) C 0 rfl rfl (c_Te_pass l D K q_t q_t_characters q_t_draft t_length u126 t_characters (123 : Int32) hS130.1) (cwV 1 C.2.2.2.2.1 (z_gV wl_Te_46 wi_Te_pass wv_Te_pass wz_Te wk_Te_pass) rfl rfl rfl (by decide +kernel) ⟨Nat.le_of_ble_eq_true rfl, Nat.le_of_ble_eq_true rfl⟩) [0, 1] [2, 3] [2, 3, 0, 1] rfl rfl rfl rfl (by decide) (fun _ => rfl) rfl rfl rfl (Nat.le_of_ble_eq_true rfl) d_Te_readHead_131 ⟨Nat.le_of_ble_eq_true rfl, Nat.le_of_ble_eq_true rfl⟩ (fun r131 u132 e133 => ?_)
          have hS134 := hS130.2 r131 u132 e133
          exact z_zret C hr (zb_n hS134.1) hlk (u132, t_draft_length, r115 - (48 : Int32), (1 : Int32), t_draft_conditional, t_draft_steps) rfl hS134.2 d_Te_readHead_134
        · have hS130 := hS128.2 c129
          refine z_aload_n C d_Te_readHead_91 rfl 0 rfl ?_
          refine z_iconst (v := (0 : Int32)) C d_Te_readHead_92 (by decide) ?_
          refine z_iconst (v := (0 : Int32)) C d_Te_readHead_93 (by decide) ?_
          refine z_callVi (As := [.int (0 : Int32), .int (0 : Int32)]) (b := q_t) (st := []) (wr := []) (wj := fun u => [zo 3 q_t [.ref q_t_characters, .ref q_t_draft, .int t_length, .int u.1], zaC K q_t_characters 48 t_characters, zo 2 q_t_draft [.ref q_t_draft_steps, .int u.2.1, .int t_draft_actions, .int (r115 - (48 : Int32)), .int (1 : Int32), .int t_draft_conditional, .int t_draft_there, .int t_draft_on, .int t_draft_failures, .int t_draft_meetings], zaI K q_t_draft_steps 48 u.2.2]) C 0 rfl rfl (c_Te_readLevel l D K q_t q_t_characters q_t_draft q_t_draft_steps t_length u126 t_characters t_draft_length t_draft_actions (r115 - (48 : Int32)) (1 : Int32) t_draft_conditional t_draft_there t_draft_on t_draft_failures t_draft_meetings t_draft_steps (0 : Int32) (0 : Int32) hS130.1) (cwV 2 C.2.2.2.2.1 (z_gV wl_Te_65 wi_Te_readLevel wv_Te_readLevel wz_Te wk_Te_readLevel) rfl rfl rfl (by decide +kernel) ⟨Nat.le_of_ble_eq_true rfl, Nat.le_of_ble_eq_true rfl⟩) [0, 1, 2, 3] [] [0, 1, 2, 3] rfl rfl rfl rfl (by decide) (fun _ => rfl) rfl rfl rfl (Nat.le_of_ble_eq_true rfl) d_Te_readHead_94 ⟨Nat.le_of_ble_eq_true rfl, Nat.le_of_ble_eq_true rfl⟩ (fun r135 u136 e137 => ?_)
          obtain ⟨m138, m139, m140⟩ := u136
          refine z_weq (ws' := [zo 3 q_t [.ref q_t_characters, .ref q_t_draft, .int t_length, .int m138], zaC K q_t_characters 48 t_characters, zo 2 q_t_draft [.ref q_t_draft_steps, .int m139, .int t_draft_actions, .int (r115 - (48 : Int32)), .int (1 : Int32), .int t_draft_conditional, .int t_draft_there, .int t_draft_on, .int t_draft_failures, .int t_draft_meetings], zaI K q_t_draft_steps 48 m140]) rfl ?_
          have hS141 := hS130.2 r135 m138 m139 m140 e137
          refine z_if_eq (tgt := 109) C d_Te_readHead_97 (by decide) (fun c142 => ?_) (fun c142 => ?_)
          · have hS143 := hS141.1 c142
            refine z_iconst (v := (0 : Int32)) C d_Te_readHead_109 (by decide) ?_
            exact z_zret C hr rfl hlk (m138, m139, r115 - (48 : Int32), (1 : Int32), t_draft_conditional, m140) rfl hS143 d_Te_readHead_110
          · have hS143 := hS141.2 c142
            refine z_aload_n C d_Te_readHead_100 rfl 0 rfl ?_
            refine z_bipush (v := (47 : Int32)) C d_Te_readHead_101 (by decide) ?_
            refine z_callVi (As := [.int (47 : Int32)]) (b := q_t) (st := []) (wr := [zo 2 q_t_draft [.ref q_t_draft_steps, .int m139, .int t_draft_actions, .int (r115 - (48 : Int32)), .int (1 : Int32), .int t_draft_conditional, .int t_draft_there, .int t_draft_on, .int t_draft_failures, .int t_draft_meetings], zaI K q_t_draft_steps 48 m140]) (wj := fun u => [zo 3 q_t [.ref q_t_characters, .ref q_t_draft, .int t_length, .int u], zaC K q_t_characters 48 t_characters, zo 2 q_t_draft [.ref q_t_draft_steps, .int m139, .int t_draft_actions, .int (r115 - (48 : Int32)), .int (1 : Int32), .int t_draft_conditional, .int t_draft_there, .int t_draft_on, .int t_draft_failures, .int t_draft_meetings], zaI K q_t_draft_steps 48 m140]) C 0 rfl rfl (c_Te_pass l D K q_t q_t_characters q_t_draft t_length m138 t_characters (47 : Int32) hS143.1) (cwV 1 C.2.2.2.2.1 (z_gV wl_Te_46 wi_Te_pass wv_Te_pass wz_Te wk_Te_pass) rfl rfl rfl (by decide +kernel) ⟨Nat.le_of_ble_eq_true rfl, Nat.le_of_ble_eq_true rfl⟩) [0, 1] [2, 3] [2, 3, 0, 1] rfl rfl rfl rfl (by decide) (fun _ => rfl) rfl rfl rfl (Nat.le_of_ble_eq_true rfl) d_Te_readHead_103 ⟨Nat.le_of_ble_eq_true rfl, Nat.le_of_ble_eq_true rfl⟩ (fun r144 u145 e146 => ?_)
            have hS147 := hS143.2 r144 u145 e146
            refine z_if_ne (tgt := 111) C d_Te_readHead_106 (by decide) (fun c148 => ?_) (fun c148 => ?_)
            · have hS149 := hS147.1 c148
              refine z_aload_n C d_Te_readHead_111 rfl 0 rfl ?_
              refine z_get C 0 rfl rfl in_Te 1 (by decide) rfl wf_Te_18 rfl d_Te_readHead_112 ?_
              refine z_iconst (v := (1 : Int32)) C d_Te_readHead_115 (by decide) ?_
              refine z_put (ty := .boolean) (ws' := [zo 3 q_t [.ref q_t_characters, .ref q_t_draft, .int t_length, .int u145], zaC K q_t_characters 48 t_characters, zo 2 q_t_draft [.ref q_t_draft_steps, .int m139, .int t_draft_actions, .int (r115 - (48 : Int32)), .int (1 : Int32), .int (1 : Int32), .int t_draft_there, .int t_draft_on, .int t_draft_failures, .int t_draft_meetings], zaI K q_t_draft_steps 48 m140]) C ty_Ru to_Ru nm_Ru 2 rfl rfl in_Ru 5 (by decide) rfl wf_Te_68 rfl rfl rfl rfl (Nat.le_of_ble_eq_true rfl) rfl d_Te_readHead_116 ?_
              refine z_aload_n C d_Te_readHead_119 rfl 0 rfl ?_
              refine z_get C 0 rfl rfl in_Te 1 (by decide) rfl wf_Te_18 rfl d_Te_readHead_120 ?_
              refine z_bipush (v := (47 : Int32)) C d_Te_readHead_123 (by decide) ?_
              refine z_callVv (As := [.int (47 : Int32)]) (b := q_t_draft) (st := []) (wr := [zo 3 q_t [.ref q_t_characters, .ref q_t_draft, .int t_length, .int u145], zaC K q_t_characters 48 t_characters]) (wj := fun u => [zo 3 q_t [.ref q_t_characters, .ref q_t_draft, .int t_length, .int u145], zaC K q_t_characters 48 t_characters, zo 2 q_t_draft [.ref q_t_draft_steps, .int u.1, .int t_draft_actions, .int (r115 - (48 : Int32)), .int (1 : Int32), .int (1 : Int32), .int t_draft_there, .int t_draft_on, .int t_draft_failures, .int t_draft_meetings], zaI K q_t_draft_steps 48 u.2]) C 2 rfl rfl (c_Ru_add l D K q_t_draft q_t_draft_steps m139 t_draft_actions (r115 - (48 : Int32)) (1 : Int32) (1 : Int32) t_draft_there t_draft_on t_draft_failures t_draft_meetings m140 (47 : Int32) hS149.1) (cwV 1 C.2.2.2.2.1 (z_gV wl_Te_71 wi_Ru_add wv_Ru_add wz_Ru wk_Ru_add) rfl rfl rfl (by decide +kernel) ⟨Nat.le_of_ble_eq_true rfl, Nat.le_of_ble_eq_true rfl⟩) [2, 3] [0, 1] [0, 1, 2, 3] rfl rfl rfl rfl (by decide) (fun _ => rfl) rfl rfl rfl (Nat.le_of_ble_eq_true rfl) d_Te_readHead_125 ⟨Nat.le_of_ble_eq_true rfl, Nat.le_of_ble_eq_true rfl⟩ (fun u151 e152 => ?_)
              obtain ⟨m153, m154⟩ := u151
              refine z_weq (ws' := [zo 3 q_t [.ref q_t_characters, .ref q_t_draft, .int t_length, .int u145], zaC K q_t_characters 48 t_characters, zo 2 q_t_draft [.ref q_t_draft_steps, .int m153, .int t_draft_actions, .int (r115 - (48 : Int32)), .int (1 : Int32), .int (1 : Int32), .int t_draft_there, .int t_draft_on, .int t_draft_failures, .int t_draft_meetings], zaI K q_t_draft_steps 48 m154]) rfl ?_
              have hS155 := hS149.2 m153 m154 e152
              refine z_aload_n C d_Te_readHead_128 rfl 0 rfl ?_
              refine z_bipush (v := (123 : Int32)) C d_Te_readHead_129 (by decide) ?_
              refine z_callVi (As := [.int (123 : Int32)]) (b := q_t) (st := []) (wr := [zo 2 q_t_draft [.ref q_t_draft_steps, .int m153, .int t_draft_actions, .int (r115 - (48 : Int32)), .int (1 : Int32), .int (1 : Int32), .int t_draft_there, .int t_draft_on, .int t_draft_failures, .int t_draft_meetings], zaI K q_t_draft_steps 48 m154]) (wj := fun u => [zo 3 q_t [.ref q_t_characters, .ref q_t_draft, .int t_length, .int u], zaC K q_t_characters 48 t_characters, zo 2 q_t_draft [.ref q_t_draft_steps, .int m153, .int t_draft_actions, .int (r115 - (48 : Int32)), .int (1 : Int32), .int (1 : Int32), .int t_draft_there, .int t_draft_on, .int t_draft_failures, .int t_draft_meetings], zaI K q_t_draft_steps 48 m154]) C 0 rfl rfl (c_Te_pass l D K q_t q_t_characters q_t_draft t_length u145 t_characters (123 : Int32) hS155.1) (cwV 1 C.2.2.2.2.1 (z_gV wl_Te_46 wi_Te_pass wv_Te_pass wz_Te wk_Te_pass) rfl rfl rfl (by decide +kernel) ⟨Nat.le_of_ble_eq_true rfl, Nat.le_of_ble_eq_true rfl⟩) [0, 1] [2, 3] [2, 3, 0, 1] rfl rfl rfl rfl (by decide) (fun _ => rfl) rfl rfl rfl (Nat.le_of_ble_eq_true rfl) d_Te_readHead_131 ⟨Nat.le_of_ble_eq_true rfl, Nat.le_of_ble_eq_true rfl⟩ (fun r156 u157 e158 => ?_)
              have hS159 := hS155.2 r156 u157 e158
              exact z_zret C hr (zb_n hS159.1) hlk (u157, m153, r115 - (48 : Int32), (1 : Int32), (1 : Int32), m154) rfl hS159.2 d_Te_readHead_134
            · have hS149 := hS147.2 c148
              refine z_iconst (v := (0 : Int32)) C d_Te_readHead_109 (by decide) ?_
              exact z_zret C hr rfl hlk (u145, m139, r115 - (48 : Int32), (1 : Int32), t_draft_conditional, m140) rfl hS149 d_Te_readHead_110
      · have hS124 := hS122.2 c123
        refine z_iconst (v := (0 : Int32)) C d_Te_readHead_70 (by decide) ?_
        exact z_zret C hr rfl hlk (u110, t_draft_length, r115 - (48 : Int32), (1 : Int32), t_draft_conditional, t_draft_steps) rfl hS124 d_Te_readHead_71
    · have hS114 := hS112.2 c113
      refine z_aload_n C d_Te_readHead_30 rfl 0 rfl ?_
      refine z_bipush (v := (120 : Int32)) C d_Te_readHead_31 (by decide) ?_
      refine z_callVi (As := [.int (120 : Int32)]) (b := q_t) (st := []) (wr := [zo 2 q_t_draft [.ref q_t_draft_steps, .int t_draft_length, .int t_draft_actions, .int t_draft_site, .int (1 : Int32), .int t_draft_conditional, .int t_draft_there, .int t_draft_on, .int t_draft_failures, .int t_draft_meetings], zaI K q_t_draft_steps 48 t_draft_steps]) (wj := fun u => [zo 3 q_t [.ref q_t_characters, .ref q_t_draft, .int t_length, .int u], zaC K q_t_characters 48 t_characters, zo 2 q_t_draft [.ref q_t_draft_steps, .int t_draft_length, .int t_draft_actions, .int t_draft_site, .int (1 : Int32), .int t_draft_conditional, .int t_draft_there, .int t_draft_on, .int t_draft_failures, .int t_draft_meetings], zaI K q_t_draft_steps 48 t_draft_steps]) C 0 rfl rfl (c_Te_pass l D K q_t q_t_characters q_t_draft t_length u110 t_characters (120 : Int32) hS114.1) (cwV 1 C.2.2.2.2.1 (z_gV wl_Te_46 wi_Te_pass wv_Te_pass wz_Te wk_Te_pass) rfl rfl rfl (by decide +kernel) ⟨Nat.le_of_ble_eq_true rfl, Nat.le_of_ble_eq_true rfl⟩) [0, 1] [2, 3] [2, 3, 0, 1] rfl rfl rfl rfl (by decide) (fun _ => rfl) rfl rfl rfl (Nat.le_of_ble_eq_true rfl) d_Te_readHead_33 ⟨Nat.le_of_ble_eq_true rfl, Nat.le_of_ble_eq_true rfl⟩ (fun r160 u161 e162 => ?_)
      have hS163 := hS114.2 r160 u161 e162
      refine z_if_ne (tgt := 41) C d_Te_readHead_36 (by decide) (fun c164 => ?_) (fun c164 => ?_)
      · have hS165 := hS163.1 c164
        refine z_aload_n C d_Te_readHead_41 rfl 0 rfl ?_
        refine z_get C 0 rfl rfl in_Te 1 (by decide) rfl wf_Te_18 rfl d_Te_readHead_42 ?_
        refine z_aload_n C d_Te_readHead_45 rfl 0 rfl ?_
        refine z_callVi (As := []) (b := q_t) (st := [.ref q_t_draft]) (wr := [zo 2 q_t_draft [.ref q_t_draft_steps, .int t_draft_length, .int t_draft_actions, .int t_draft_site, .int (1 : Int32), .int t_draft_conditional, .int t_draft_there, .int t_draft_on, .int t_draft_failures, .int t_draft_meetings], zaI K q_t_draft_steps 48 t_draft_steps]) (wj := fun u => [zo 3 q_t [.ref q_t_characters, .ref q_t_draft, .int t_length, .int u161], zaC K q_t_characters 48 t_characters, zo 2 q_t_draft [.ref q_t_draft_steps, .int t_draft_length, .int t_draft_actions, .int t_draft_site, .int (1 : Int32), .int t_draft_conditional, .int t_draft_there, .int t_draft_on, .int t_draft_failures, .int t_draft_meetings], zaI K q_t_draft_steps 48 t_draft_steps]) C 0 rfl rfl (c_Te_next l D K q_t q_t_characters q_t_draft t_length u161 t_characters hS165.1) (cwV 0 C.2.2.2.2.1 (z_gV wl_Te_50 wi_Te_next wv_Te_next wz_Te wk_Te_next) rfl rfl rfl (by decide +kernel) ⟨Nat.le_of_ble_eq_true rfl, Nat.le_of_ble_eq_true rfl⟩) [0, 1] [2, 3] [2, 3, 0, 1] rfl rfl rfl rfl (by decide) (fun _ => rfl) rfl rfl rfl (Nat.le_of_ble_eq_true rfl) d_Te_readHead_46 ⟨Nat.le_of_ble_eq_true rfl, Nat.le_of_ble_eq_true rfl⟩ (fun r166 u167 e168 => ?_)
        have hS169 := hS165.2 r166 e168
        refine z_bipush (v := (48 : Int32)) C d_Te_readHead_49 (by decide) ?_
        refine z_isub C d_Te_readHead_51 ?_
        refine z_put (ty := .int) (ws' := [zo 3 q_t [.ref q_t_characters, .ref q_t_draft, .int t_length, .int u161], zaC K q_t_characters 48 t_characters, zo 2 q_t_draft [.ref q_t_draft_steps, .int t_draft_length, .int t_draft_actions, .int (r166 - (48 : Int32)), .int (1 : Int32), .int t_draft_conditional, .int t_draft_there, .int t_draft_on, .int t_draft_failures, .int t_draft_meetings], zaI K q_t_draft_steps 48 t_draft_steps]) C ty_Ru to_Ru nm_Ru 2 rfl rfl in_Ru 3 (by decide) rfl wf_Te_58 rfl rfl rfl rfl (Nat.le_of_ble_eq_true rfl) rfl d_Te_readHead_52 ?_
        refine z_aload_n C d_Te_readHead_55 rfl 0 rfl ?_
        refine z_get C 0 rfl rfl in_Te 1 (by decide) rfl wf_Te_18 rfl d_Te_readHead_56 ?_
        refine z_get C 2 rfl rfl in_Ru 3 (by decide) rfl wf_Te_58 rfl d_Te_readHead_59 ?_
        refine z_bipush (v := (8 : Int32)) C d_Te_readHead_62 (by decide) ?_
        refine z_callSNi (As := [.int (r166 - (48 : Int32)), .int (8 : Int32)]) (st := []) (wr := [zo 3 q_t [.ref q_t_characters, .ref q_t_draft, .int t_length, .int u161], zaC K q_t_characters 48 t_characters, zo 2 q_t_draft [.ref q_t_draft_steps, .int t_draft_length, .int t_draft_actions, .int (r166 - (48 : Int32)), .int (1 : Int32), .int t_draft_conditional, .int t_draft_there, .int t_draft_on, .int t_draft_failures, .int t_draft_meetings], zaI K q_t_draft_steps 48 t_draft_steps]) (wj := fun u => [zo 3 q_t [.ref q_t_characters, .ref q_t_draft, .int t_length, .int u161], zaC K q_t_characters 48 t_characters, zo 2 q_t_draft [.ref q_t_draft_steps, .int t_draft_length, .int t_draft_actions, .int (r166 - (48 : Int32)), .int (1 : Int32), .int t_draft_conditional, .int t_draft_there, .int t_draft_on, .int t_draft_failures, .int t_draft_meetings], zaI K q_t_draft_steps 48 t_draft_steps]) C (c_Tr_isWithin l D K (r166 - (48 : Int32)) (8 : Int32)) ⟨va_cnB 2 C.2.2.2.2.1 (z_gI wk_Tr_isWithin) rfl rfl rfl (C.2.2.2.2.2.1.2.1 _ (List.mem_of_getElem? (i := 5) rfl)) (C.2.2.2.2.1 _ wz_Tr) (by decide +kernel) ⟨Nat.le_of_ble_eq_true rfl, Nat.le_of_ble_eq_true rfl⟩, C.2.2.2.2.1 _ ws_Tr_isWithin, trivial⟩ [] [0, 1, 2, 3] [0, 1, 2, 3] rfl rfl rfl rfl (by decide) (fun _ => rfl) rfl rfl rfl (Nat.le_of_ble_eq_true rfl) d_Te_readHead_64 ⟨Nat.le_of_ble_eq_true rfl, Nat.le_of_ble_eq_true rfl⟩ (fun r170 u171 e172 => ?_)
        have hS173 := hS169 r170 e172
        refine z_if_ne (tgt := 72) C d_Te_readHead_67 (by decide) (fun c174 => ?_) (fun c174 => ?_)
        · have hS175 := hS173.1 c174
          refine z_aload_n C d_Te_readHead_72 rfl 0 rfl ?_
          refine z_dup C d_Te_readHead_73 rfl ?_
          refine z_get C 0 rfl rfl in_Te 3 (by decide) rfl wf_Te_26 rfl d_Te_readHead_74 ?_
          refine z_iconst (v := (1 : Int32)) C d_Te_readHead_77 (by decide) ?_
          refine z_iadd C d_Te_readHead_78 ?_
          refine z_put (ty := .int) (ws' := [zo 3 q_t [.ref q_t_characters, .ref q_t_draft, .int t_length, .int (u161 + (1 : Int32))], zaC K q_t_characters 48 t_characters, zo 2 q_t_draft [.ref q_t_draft_steps, .int t_draft_length, .int t_draft_actions, .int (r166 - (48 : Int32)), .int (1 : Int32), .int t_draft_conditional, .int t_draft_there, .int t_draft_on, .int t_draft_failures, .int t_draft_meetings], zaI K q_t_draft_steps 48 t_draft_steps]) C ty_Te to_Te nm_Te 0 rfl rfl in_Te 3 (by decide) rfl wf_Te_26 rfl rfl rfl rfl (Nat.le_of_ble_eq_true rfl) rfl d_Te_readHead_79 ?_
          refine z_aload_n C d_Te_readHead_82 rfl 0 rfl ?_
          refine z_bipush (v := (47 : Int32)) C d_Te_readHead_83 (by decide) ?_
          refine z_callVi (As := [.int (47 : Int32)]) (b := q_t) (st := []) (wr := [zo 2 q_t_draft [.ref q_t_draft_steps, .int t_draft_length, .int t_draft_actions, .int (r166 - (48 : Int32)), .int (1 : Int32), .int t_draft_conditional, .int t_draft_there, .int t_draft_on, .int t_draft_failures, .int t_draft_meetings], zaI K q_t_draft_steps 48 t_draft_steps]) (wj := fun u => [zo 3 q_t [.ref q_t_characters, .ref q_t_draft, .int t_length, .int u], zaC K q_t_characters 48 t_characters, zo 2 q_t_draft [.ref q_t_draft_steps, .int t_draft_length, .int t_draft_actions, .int (r166 - (48 : Int32)), .int (1 : Int32), .int t_draft_conditional, .int t_draft_there, .int t_draft_on, .int t_draft_failures, .int t_draft_meetings], zaI K q_t_draft_steps 48 t_draft_steps]) C 0 rfl rfl (c_Te_pass l D K q_t q_t_characters q_t_draft t_length (u161 + (1 : Int32)) t_characters (47 : Int32) hS175.1) (cwV 1 C.2.2.2.2.1 (z_gV wl_Te_46 wi_Te_pass wv_Te_pass wz_Te wk_Te_pass) rfl rfl rfl (by decide +kernel) ⟨Nat.le_of_ble_eq_true rfl, Nat.le_of_ble_eq_true rfl⟩) [0, 1] [2, 3] [2, 3, 0, 1] rfl rfl rfl rfl (by decide) (fun _ => rfl) rfl rfl rfl (Nat.le_of_ble_eq_true rfl) d_Te_readHead_85 ⟨Nat.le_of_ble_eq_true rfl, Nat.le_of_ble_eq_true rfl⟩ (fun r176 u177 e178 => ?_)
          have hS179 := hS175.2 r176 u177 e178
          refine z_if_eq (tgt := 128) C d_Te_readHead_88 (by decide) (fun c180 => ?_) (fun c180 => ?_)
          · have hS181 := hS179.1 c180
            refine z_aload_n C d_Te_readHead_128 rfl 0 rfl ?_
            refine z_bipush (v := (123 : Int32)) C d_Te_readHead_129 (by decide) ?_
            refine z_callVi (As := [.int (123 : Int32)]) (b := q_t) (st := []) (wr := [zo 2 q_t_draft [.ref q_t_draft_steps, .int t_draft_length, .int t_draft_actions, .int (r166 - (48 : Int32)), .int (1 : Int32), .int t_draft_conditional, .int t_draft_there, .int t_draft_on, .int t_draft_failures, .int t_draft_meetings], zaI K q_t_draft_steps 48 t_draft_steps]) (wj := fun u => [zo 3 q_t [.ref q_t_characters, .ref q_t_draft, .int t_length, .int u], zaC K q_t_characters 48 t_characters, zo 2 q_t_draft [.ref q_t_draft_steps, .int t_draft_length, .int t_draft_actions, .int (r166 - (48 : Int32)), .int (1 : Int32), .int t_draft_conditional, .int t_draft_there, .int t_draft_on, .int t_draft_failures, .int t_draft_meetings], zaI K q_t_draft_steps 48 t_draft_steps]) C 0 rfl rfl (c_Te_pass l D K q_t q_t_characters q_t_draft t_length u177 t_characters (123 : Int32) hS181.1) (cwV 1 C.2.2.2.2.1 (z_gV wl_Te_46 wi_Te_pass wv_Te_pass wz_Te wk_Te_pass) rfl rfl rfl (by decide +kernel) ⟨Nat.le_of_ble_eq_true rfl, Nat.le_of_ble_eq_true rfl⟩) [0, 1] [2, 3] [2, 3, 0, 1] rfl rfl rfl rfl (by decide) (fun _ => rfl) rfl rfl rfl (Nat.le_of_ble_eq_true rfl) d_Te_readHead_131 ⟨Nat.le_of_ble_eq_true rfl, Nat.le_of_ble_eq_true rfl⟩ (fun r182 u183 e184 => ?_)
            have hS185 := hS181.2 r182 u183 e184
            exact z_zret C hr (zb_n hS185.1) hlk (u183, t_draft_length, r166 - (48 : Int32), (1 : Int32), t_draft_conditional, t_draft_steps) rfl hS185.2 d_Te_readHead_134
          · have hS181 := hS179.2 c180
            refine z_aload_n C d_Te_readHead_91 rfl 0 rfl ?_
            refine z_iconst (v := (0 : Int32)) C d_Te_readHead_92 (by decide) ?_
            refine z_iconst (v := (0 : Int32)) C d_Te_readHead_93 (by decide) ?_
            refine z_callVi (As := [.int (0 : Int32), .int (0 : Int32)]) (b := q_t) (st := []) (wr := []) (wj := fun u => [zo 3 q_t [.ref q_t_characters, .ref q_t_draft, .int t_length, .int u.1], zaC K q_t_characters 48 t_characters, zo 2 q_t_draft [.ref q_t_draft_steps, .int u.2.1, .int t_draft_actions, .int (r166 - (48 : Int32)), .int (1 : Int32), .int t_draft_conditional, .int t_draft_there, .int t_draft_on, .int t_draft_failures, .int t_draft_meetings], zaI K q_t_draft_steps 48 u.2.2]) C 0 rfl rfl (c_Te_readLevel l D K q_t q_t_characters q_t_draft q_t_draft_steps t_length u177 t_characters t_draft_length t_draft_actions (r166 - (48 : Int32)) (1 : Int32) t_draft_conditional t_draft_there t_draft_on t_draft_failures t_draft_meetings t_draft_steps (0 : Int32) (0 : Int32) hS181.1) (cwV 2 C.2.2.2.2.1 (z_gV wl_Te_65 wi_Te_readLevel wv_Te_readLevel wz_Te wk_Te_readLevel) rfl rfl rfl (by decide +kernel) ⟨Nat.le_of_ble_eq_true rfl, Nat.le_of_ble_eq_true rfl⟩) [0, 1, 2, 3] [] [0, 1, 2, 3] rfl rfl rfl rfl (by decide) (fun _ => rfl) rfl rfl rfl (Nat.le_of_ble_eq_true rfl) d_Te_readHead_94 ⟨Nat.le_of_ble_eq_true rfl, Nat.le_of_ble_eq_true rfl⟩ (fun r186 u187 e188 => ?_)
            obtain ⟨m189, m190, m191⟩ := u187
            refine z_weq (ws' := [zo 3 q_t [.ref q_t_characters, .ref q_t_draft, .int t_length, .int m189], zaC K q_t_characters 48 t_characters, zo 2 q_t_draft [.ref q_t_draft_steps, .int m190, .int t_draft_actions, .int (r166 - (48 : Int32)), .int (1 : Int32), .int t_draft_conditional, .int t_draft_there, .int t_draft_on, .int t_draft_failures, .int t_draft_meetings], zaI K q_t_draft_steps 48 m191]) rfl ?_
            have hS192 := hS181.2 r186 m189 m190 m191 e188
            refine z_if_eq (tgt := 109) C d_Te_readHead_97 (by decide) (fun c193 => ?_) (fun c193 => ?_)
            · have hS194 := hS192.1 c193
              refine z_iconst (v := (0 : Int32)) C d_Te_readHead_109 (by decide) ?_
              exact z_zret C hr rfl hlk (m189, m190, r166 - (48 : Int32), (1 : Int32), t_draft_conditional, m191) rfl hS194 d_Te_readHead_110
            · have hS194 := hS192.2 c193
              refine z_aload_n C d_Te_readHead_100 rfl 0 rfl ?_
              refine z_bipush (v := (47 : Int32)) C d_Te_readHead_101 (by decide) ?_
              refine z_callVi (As := [.int (47 : Int32)]) (b := q_t) (st := []) (wr := [zo 2 q_t_draft [.ref q_t_draft_steps, .int m190, .int t_draft_actions, .int (r166 - (48 : Int32)), .int (1 : Int32), .int t_draft_conditional, .int t_draft_there, .int t_draft_on, .int t_draft_failures, .int t_draft_meetings], zaI K q_t_draft_steps 48 m191]) (wj := fun u => [zo 3 q_t [.ref q_t_characters, .ref q_t_draft, .int t_length, .int u], zaC K q_t_characters 48 t_characters, zo 2 q_t_draft [.ref q_t_draft_steps, .int m190, .int t_draft_actions, .int (r166 - (48 : Int32)), .int (1 : Int32), .int t_draft_conditional, .int t_draft_there, .int t_draft_on, .int t_draft_failures, .int t_draft_meetings], zaI K q_t_draft_steps 48 m191]) C 0 rfl rfl (c_Te_pass l D K q_t q_t_characters q_t_draft t_length m189 t_characters (47 : Int32) hS194.1) (cwV 1 C.2.2.2.2.1 (z_gV wl_Te_46 wi_Te_pass wv_Te_pass wz_Te wk_Te_pass) rfl rfl rfl (by decide +kernel) ⟨Nat.le_of_ble_eq_true rfl, Nat.le_of_ble_eq_true rfl⟩) [0, 1] [2, 3] [2, 3, 0, 1] rfl rfl rfl rfl (by decide) (fun _ => rfl) rfl rfl rfl (Nat.le_of_ble_eq_true rfl) d_Te_readHead_103 ⟨Nat.le_of_ble_eq_true rfl, Nat.le_of_ble_eq_true rfl⟩ (fun r195 u196 e197 => ?_)
              have hS198 := hS194.2 r195 u196 e197
              refine z_if_ne (tgt := 111) C d_Te_readHead_106 (by decide) (fun c199 => ?_) (fun c199 => ?_)
              · have hS200 := hS198.1 c199
                refine z_aload_n C d_Te_readHead_111 rfl 0 rfl ?_
                refine z_get C 0 rfl rfl in_Te 1 (by decide) rfl wf_Te_18 rfl d_Te_readHead_112 ?_
                refine z_iconst (v := (1 : Int32)) C d_Te_readHead_115 (by decide) ?_
                refine z_put (ty := .boolean) (ws' := [zo 3 q_t [.ref q_t_characters, .ref q_t_draft, .int t_length, .int u196], zaC K q_t_characters 48 t_characters, zo 2 q_t_draft [.ref q_t_draft_steps, .int m190, .int t_draft_actions, .int (r166 - (48 : Int32)), .int (1 : Int32), .int (1 : Int32), .int t_draft_there, .int t_draft_on, .int t_draft_failures, .int t_draft_meetings], zaI K q_t_draft_steps 48 m191]) C ty_Ru to_Ru nm_Ru 2 rfl rfl in_Ru 5 (by decide) rfl wf_Te_68 rfl rfl rfl rfl (Nat.le_of_ble_eq_true rfl) rfl d_Te_readHead_116 ?_
                refine z_aload_n C d_Te_readHead_119 rfl 0 rfl ?_
                refine z_get C 0 rfl rfl in_Te 1 (by decide) rfl wf_Te_18 rfl d_Te_readHead_120 ?_
                refine z_bipush (v := (47 : Int32)) C d_Te_readHead_123 (by decide) ?_
                refine z_callVv (As := [.int (47 : Int32)]) (b := q_t_draft) (st := []) (wr := [zo 3 q_t [.ref q_t_characters, .ref q_t_draft, .int t_length, .int u196], zaC K q_t_characters 48 t_characters]) (wj := fun u => [zo 3 q_t [.ref q_t_characters, .ref q_t_draft, .int t_length, .int u196], zaC K q_t_characters 48 t_characters, zo 2 q_t_draft [.ref q_t_draft_steps, .int u.1, .int t_draft_actions, .int (r166 - (48 : Int32)), .int (1 : Int32), .int (1 : Int32), .int t_draft_there, .int t_draft_on, .int t_draft_failures, .int t_draft_meetings], zaI K q_t_draft_steps 48 u.2]) C 2 rfl rfl (c_Ru_add l D K q_t_draft q_t_draft_steps m190 t_draft_actions (r166 - (48 : Int32)) (1 : Int32) (1 : Int32) t_draft_there t_draft_on t_draft_failures t_draft_meetings m191 (47 : Int32) hS200.1) (cwV 1 C.2.2.2.2.1 (z_gV wl_Te_71 wi_Ru_add wv_Ru_add wz_Ru wk_Ru_add) rfl rfl rfl (by decide +kernel) ⟨Nat.le_of_ble_eq_true rfl, Nat.le_of_ble_eq_true rfl⟩) [2, 3] [0, 1] [0, 1, 2, 3] rfl rfl rfl rfl (by decide) (fun _ => rfl) rfl rfl rfl (Nat.le_of_ble_eq_true rfl) d_Te_readHead_125 ⟨Nat.le_of_ble_eq_true rfl, Nat.le_of_ble_eq_true rfl⟩ (fun u202 e203 => ?_)
                obtain ⟨m204, m205⟩ := u202
                refine z_weq (ws' := [zo 3 q_t [.ref q_t_characters, .ref q_t_draft, .int t_length, .int u196], zaC K q_t_characters 48 t_characters, zo 2 q_t_draft [.ref q_t_draft_steps, .int m204, .int t_draft_actions, .int (r166 - (48 : Int32)), .int (1 : Int32), .int (1 : Int32), .int t_draft_there, .int t_draft_on, .int t_draft_failures, .int t_draft_meetings], zaI K q_t_draft_steps 48 m205]) rfl ?_
                have hS206 := hS200.2 m204 m205 e203
                refine z_aload_n C d_Te_readHead_128 rfl 0 rfl ?_
                refine z_bipush (v := (123 : Int32)) C d_Te_readHead_129 (by decide) ?_
                refine z_callVi (As := [.int (123 : Int32)]) (b := q_t) (st := []) (wr := [zo 2 q_t_draft [.ref q_t_draft_steps, .int m204, .int t_draft_actions, .int (r166 - (48 : Int32)), .int (1 : Int32), .int (1 : Int32), .int t_draft_there, .int t_draft_on, .int t_draft_failures, .int t_draft_meetings], zaI K q_t_draft_steps 48 m205]) (wj := fun u => [zo 3 q_t [.ref q_t_characters, .ref q_t_draft, .int t_length, .int u], zaC K q_t_characters 48 t_characters, zo 2 q_t_draft [.ref q_t_draft_steps, .int m204, .int t_draft_actions, .int (r166 - (48 : Int32)), .int (1 : Int32), .int (1 : Int32), .int t_draft_there, .int t_draft_on, .int t_draft_failures, .int t_draft_meetings], zaI K q_t_draft_steps 48 m205]) C 0 rfl rfl (c_Te_pass l D K q_t q_t_characters q_t_draft t_length u196 t_characters (123 : Int32) hS206.1) (cwV 1 C.2.2.2.2.1 (z_gV wl_Te_46 wi_Te_pass wv_Te_pass wz_Te wk_Te_pass) rfl rfl rfl (by decide +kernel) ⟨Nat.le_of_ble_eq_true rfl, Nat.le_of_ble_eq_true rfl⟩) [0, 1] [2, 3] [2, 3, 0, 1] rfl rfl rfl rfl (by decide) (fun _ => rfl) rfl rfl rfl (Nat.le_of_ble_eq_true rfl) d_Te_readHead_131 ⟨Nat.le_of_ble_eq_true rfl, Nat.le_of_ble_eq_true rfl⟩ (fun r207 u208 e209 => ?_)
                have hS210 := hS206.2 r207 u208 e209
                exact z_zret C hr (zb_n hS210.1) hlk (u208, m204, r166 - (48 : Int32), (1 : Int32), (1 : Int32), m205) rfl hS210.2 d_Te_readHead_134
              · have hS200 := hS198.2 c199
                refine z_iconst (v := (0 : Int32)) C d_Te_readHead_109 (by decide) ?_
                exact z_zret C hr rfl hlk (u196, m190, r166 - (48 : Int32), (1 : Int32), t_draft_conditional, m191) rfl hS200 d_Te_readHead_110
        · have hS175 := hS173.2 c174
          refine z_iconst (v := (0 : Int32)) C d_Te_readHead_70 (by decide) ?_
          exact z_zret C hr rfl hlk (u161, t_draft_length, r166 - (48 : Int32), (1 : Int32), t_draft_conditional, t_draft_steps) rfl hS175 d_Te_readHead_71
      · have hS165 := hS163.2 c164
        refine z_iconst (v := (0 : Int32)) C d_Te_readHead_39 (by decide) ?_
        exact z_zret C hr rfl hlk (u161, t_draft_length, t_draft_site, (1 : Int32), t_draft_conditional, t_draft_steps) rfl hS165 d_Te_readHead_40
def s_Te_readHead (t_length : Int32) (t_at : Int32) (t_characters : Nat → Int32) (t_draft_length : Int32) (t_draft_site : Int32) (t_draft_exit : Int32) (t_draft_conditional : Int32) (t_draft_steps : Nat → Int32) : Int32 × Int32 × Int32 × Int32 × Int32 × Int32 × (Nat → Int32) := (zl1 (s_Te_next t_length t_at t_characters) fun r1 => (if r1 = (120 : Int32) then (zl2 (s_Te_pass t_length t_at t_characters (101 : Int32)) (fun r109 u110 => (if r109 = 0 then (zl2 (s_Te_pass t_length u110 t_characters (120 : Int32)) (fun r160 u161 => (if r160 = 0 then ((0 : Int32), u161, t_draft_length, t_draft_site, (1 : Int32), t_draft_conditional, t_draft_steps) else (zl1 (s_Te_next t_length u161 t_characters) fun r166 => (zl1 (s_Tr_isWithin (r166 - (48 : Int32)) (8 : Int32)) fun r170 => (if r170 = 0 then ((0 : Int32), u161, t_draft_length, r166 - (48 : Int32), (1 : Int32), t_draft_conditional, t_draft_steps) else (zl2 (s_Te_pass t_length (u161 + (1 : Int32)) t_characters (47 : Int32)) (fun r176 u177 => (if r176 = 0 then (zl2 (s_Te_pass t_length u177 t_characters (123 : Int32)) (fun r182 u183 => (r182, u183, t_draft_length, r166 - (48 : Int32), (1 : Int32), t_draft_conditional, t_draft_steps))) else (zl2 (s_Te_readLevel t_length u177 t_characters t_draft_length t_draft_steps (0 : Int32) (0 : Int32)) (fun r186 z_r186 => zl2 z_r186 (fun m189 z_m189 => zl2 z_m189 (fun m190 m191 => (if r186 = 0 then ((0 : Int32), m189, m190, r166 - (48 : Int32), (1 : Int32), t_draft_conditional, m191) else (zl2 (s_Te_pass t_length m189 t_characters (47 : Int32)) (fun r195 u196 => (if r195 = 0 then ((0 : Int32), u196, m190, r166 - (48 : Int32), (1 : Int32), t_draft_conditional, m191) else (zl2 (s_Ru_add m190 m191 (47 : Int32)) (fun m204 m205 => (zl2 (s_Te_pass t_length u196 t_characters (123 : Int32)) (fun r207 u208 => (r207, u208, m204, r166 - (48 : Int32), (1 : Int32), (1 : Int32), m205)))))))))))))))))))))) else (zl1 (s_Te_next t_length u110 t_characters) fun r115 => (zl1 (s_Tr_isWithin (r115 - (48 : Int32)) (8 : Int32)) fun r119 => (if r119 = 0 then ((0 : Int32), u110, t_draft_length, r115 - (48 : Int32), (1 : Int32), t_draft_conditional, t_draft_steps) else (zl2 (s_Te_pass t_length (u110 + (1 : Int32)) t_characters (47 : Int32)) (fun r125 u126 => (if r125 = 0 then (zl2 (s_Te_pass t_length u126 t_characters (123 : Int32)) (fun r131 u132 => (r131, u132, t_draft_length, r115 - (48 : Int32), (1 : Int32), t_draft_conditional, t_draft_steps))) else (zl2 (s_Te_readLevel t_length u126 t_characters t_draft_length t_draft_steps (0 : Int32) (0 : Int32)) (fun r135 z_r135 => zl2 z_r135 (fun m138 z_m138 => zl2 z_m138 (fun m139 m140 => (if r135 = 0 then ((0 : Int32), m138, m139, r115 - (48 : Int32), (1 : Int32), t_draft_conditional, m140) else (zl2 (s_Te_pass t_length m138 t_characters (47 : Int32)) (fun r144 u145 => (if r144 = 0 then ((0 : Int32), u145, m139, r115 - (48 : Int32), (1 : Int32), t_draft_conditional, m140) else (zl2 (s_Ru_add m139 m140 (47 : Int32)) (fun m153 m154 => (zl2 (s_Te_pass t_length u145 t_characters (123 : Int32)) (fun r156 u157 => (r156, u157, m153, r115 - (48 : Int32), (1 : Int32), (1 : Int32), m154)))))))))))))))))))))) else (zl2 (s_Te_pass t_length t_at t_characters (101 : Int32)) (fun r7 u8 => (if r7 = 0 then (zl2 (s_Te_pass t_length u8 t_characters (120 : Int32)) (fun r58 u59 => (if r58 = 0 then ((0 : Int32), u59, t_draft_length, t_draft_site, (0 : Int32), t_draft_conditional, t_draft_steps) else (zl1 (s_Te_next t_length u59 t_characters) fun r64 => (zl1 (s_Tr_isWithin (r64 - (48 : Int32)) (8 : Int32)) fun r68 => (if r68 = 0 then ((0 : Int32), u59, t_draft_length, r64 - (48 : Int32), (0 : Int32), t_draft_conditional, t_draft_steps) else (zl2 (s_Te_pass t_length (u59 + (1 : Int32)) t_characters (47 : Int32)) (fun r74 u75 => (if r74 = 0 then (zl2 (s_Te_pass t_length u75 t_characters (123 : Int32)) (fun r80 u81 => (r80, u81, t_draft_length, r64 - (48 : Int32), (0 : Int32), t_draft_conditional, t_draft_steps))) else (zl2 (s_Te_readLevel t_length u75 t_characters t_draft_length t_draft_steps (0 : Int32) (0 : Int32)) (fun r84 z_r84 => zl2 z_r84 (fun m87 z_m87 => zl2 z_m87 (fun m88 m89 => (if r84 = 0 then ((0 : Int32), m87, m88, r64 - (48 : Int32), (0 : Int32), t_draft_conditional, m89) else (zl2 (s_Te_pass t_length m87 t_characters (47 : Int32)) (fun r93 u94 => (if r93 = 0 then ((0 : Int32), u94, m88, r64 - (48 : Int32), (0 : Int32), t_draft_conditional, m89) else (zl2 (s_Ru_add m88 m89 (47 : Int32)) (fun m102 m103 => (zl2 (s_Te_pass t_length u94 t_characters (123 : Int32)) (fun r105 u106 => (r105, u106, m102, r64 - (48 : Int32), (0 : Int32), (1 : Int32), m103)))))))))))))))))))))) else (zl1 (s_Te_next t_length u8 t_characters) fun r13 => (zl1 (s_Tr_isWithin (r13 - (48 : Int32)) (8 : Int32)) fun r17 => (if r17 = 0 then ((0 : Int32), u8, t_draft_length, r13 - (48 : Int32), (0 : Int32), t_draft_conditional, t_draft_steps) else (zl2 (s_Te_pass t_length (u8 + (1 : Int32)) t_characters (47 : Int32)) (fun r23 u24 => (if r23 = 0 then (zl2 (s_Te_pass t_length u24 t_characters (123 : Int32)) (fun r29 u30 => (r29, u30, t_draft_length, r13 - (48 : Int32), (0 : Int32), t_draft_conditional, t_draft_steps))) else (zl2 (s_Te_readLevel t_length u24 t_characters t_draft_length t_draft_steps (0 : Int32) (0 : Int32)) (fun r33 z_r33 => zl2 z_r33 (fun m36 z_m36 => zl2 z_m36 (fun m37 m38 => (if r33 = 0 then ((0 : Int32), m36, m37, r13 - (48 : Int32), (0 : Int32), t_draft_conditional, m38) else (zl2 (s_Te_pass t_length m36 t_characters (47 : Int32)) (fun r42 u43 => (if r42 = 0 then ((0 : Int32), u43, m37, r13 - (48 : Int32), (0 : Int32), t_draft_conditional, m38) else (zl2 (s_Ru_add m37 m38 (47 : Int32)) (fun m51 m52 => (zl2 (s_Te_pass t_length u43 t_characters (123 : Int32)) (fun r54 u55 => (r54, u55, m51, r13 - (48 : Int32), (0 : Int32), (1 : Int32), m52))))))))))))))))))))))))
def p_Te_readHead (t_length : Int32) (t_at : Int32) (t_characters : Nat → Int32) (t_draft_length : Int32) (t_draft_site : Int32) (t_draft_exit : Int32) (t_draft_conditional : Int32) (t_draft_steps : Nat → Int32) : Prop := WP_Te_readHead t_length t_at t_characters t_draft_length t_draft_site t_draft_exit t_draft_conditional t_draft_steps (fun _ _ => True)
set_option maxRecDepth 100000 in
theorem v_Te_readHead (t_length : Int32) (t_at : Int32) (t_characters : Nat → Int32) (t_draft_length : Int32) (t_draft_site : Int32) (t_draft_exit : Int32) (t_draft_conditional : Int32) (t_draft_steps : Nat → Int32) (hp : p_Te_readHead t_length t_at t_characters t_draft_length t_draft_site t_draft_exit t_draft_conditional t_draft_steps) : WP_Te_readHead t_length t_at t_characters t_draft_length t_draft_site t_draft_exit t_draft_conditional t_draft_steps (fun r u => s_Te_readHead t_length t_at t_characters t_draft_length t_draft_site t_draft_exit t_draft_conditional t_draft_steps = (r, u.1, u.2.1, u.2.2.1, u.2.2.2.1, u.2.2.2.2.1, u.2.2.2.2.2)) := by
  unfold p_Te_readHead WP_Te_readHead at hp
  obtain ⟨tgt, f0⟩ : ∃ tgt, s_Te_readHead t_length t_at t_characters t_draft_length t_draft_site t_draft_exit t_draft_conditional t_draft_steps = tgt := ⟨_, rfl⟩
  rw [f0]
  unfold s_Te_readHead at f0
  unfold WP_Te_readHead
  refine ⟨hp.1, ?_⟩
  have g2 := hp.2
  intro r1 e3
  have g1 := g2 r1 e3
  have f1 := Eq.trans (Eq.symm (zl1_eq e3)) f0
  refine ⟨fun c5 => ?_, fun c5 => ?_⟩
  · have f3 := Eq.trans (Eq.symm (if_neg c5)) f1
    have g3 := g1.1 c5
    refine ⟨g3.1, ?_⟩
    have g5 := g3.2
    intro r7 u8 e9
    have g4 := g5 r7 u8 e9
    have f4 := Eq.trans (Eq.symm (zl2_eq e9)) f3
    refine ⟨fun c11 => ?_, fun c11 => ?_⟩
    · have f6 := Eq.trans (Eq.symm (if_neg c11)) f4
      have g6 := g4.1 c11
      refine ⟨g6.1, ?_⟩
      have g8 := g6.2
      intro r13 e15
      have g7 := g8 r13 e15
      have f7 := Eq.trans (Eq.symm (zl1_eq e15)) f6
      intro r17 e19
      have g9 := g7 r17 e19
      have f9 := Eq.trans (Eq.symm (zl1_eq e19)) f7
      refine ⟨fun c21 => ?_, fun c21 => ?_⟩
      · have f10 := Eq.trans (Eq.symm (if_neg c21)) f9
        have g10 := g9.1 c21
        refine ⟨g10.1, ?_⟩
        have g12 := g10.2
        intro r23 u24 e25
        have g11 := g12 r23 u24 e25
        have f11 := Eq.trans (Eq.symm (zl2_eq e25)) f10
        refine ⟨fun c27 => ?_, fun c27 => ?_⟩
        · have f13 := Eq.trans (Eq.symm (if_pos c27)) f11
          have g13 := g11.1 c27
          refine ⟨g13.1, ?_⟩
          have g15 := g13.2
          intro r29 u30 e31
          have g14 := g15 r29 u30 e31
          have f14 := Eq.trans (Eq.symm (zl2_eq e31)) f13
          refine ⟨g14.1, ?_⟩
          have g16 := g14.2
          exact f14.symm
        · have f13 := Eq.trans (Eq.symm (if_neg c27)) f11
          have g13 := g11.2 c27
          refine ⟨g13.1, ?_⟩
          have g18 := g13.2
          intro r33 m36 m37 m38 e35
          have g17 := g18 r33 m36 m37 m38 e35
          have f17 := Eq.trans (Eq.symm (zl2_eq e35)) f13
          have f17 := Eq.trans (Eq.symm (zl2_eq (Eq.refl (m36, m37, m38)))) f17
          have f17 := Eq.trans (Eq.symm (zl2_eq (Eq.refl (m37, m38)))) f17
          refine ⟨fun c40 => ?_, fun c40 => ?_⟩
          · have f19 := Eq.trans (Eq.symm (if_pos c40)) f17
            have g19 := g17.1 c40
            exact f19.symm
          · have f19 := Eq.trans (Eq.symm (if_neg c40)) f17
            have g19 := g17.2 c40
            refine ⟨g19.1, ?_⟩
            have g21 := g19.2
            intro r42 u43 e44
            have g20 := g21 r42 u43 e44
            have f20 := Eq.trans (Eq.symm (zl2_eq e44)) f19
            refine ⟨fun c46 => ?_, fun c46 => ?_⟩
            · have f22 := Eq.trans (Eq.symm (if_neg c46)) f20
              have g22 := g20.1 c46
              refine ⟨g22.1, ?_⟩
              have g24 := g22.2
              intro m51 m52 e50
              have g23 := g24 m51 m52 e50
              have f23 := Eq.trans (Eq.symm (zl2_eq e50)) f22
              refine ⟨g23.1, ?_⟩
              have g26 := g23.2
              intro r54 u55 e56
              have g25 := g26 r54 u55 e56
              have f25 := Eq.trans (Eq.symm (zl2_eq e56)) f23
              refine ⟨g25.1, ?_⟩
              have g27 := g25.2
              exact f25.symm
            · have f22 := Eq.trans (Eq.symm (if_pos c46)) f20
              have g22 := g20.2 c46
              exact f22.symm
      · have f10 := Eq.trans (Eq.symm (if_pos c21)) f9
        have g10 := g9.2 c21
        exact f10.symm
    · have f6 := Eq.trans (Eq.symm (if_pos c11)) f4
      have g6 := g4.2 c11
      refine ⟨g6.1, ?_⟩
      have g29 := g6.2
      intro r58 u59 e60
      have g28 := g29 r58 u59 e60
      have f28 := Eq.trans (Eq.symm (zl2_eq e60)) f6
      refine ⟨fun c62 => ?_, fun c62 => ?_⟩
      · have f30 := Eq.trans (Eq.symm (if_neg c62)) f28
        have g30 := g28.1 c62
        refine ⟨g30.1, ?_⟩
        have g32 := g30.2
        intro r64 e66
        have g31 := g32 r64 e66
        have f31 := Eq.trans (Eq.symm (zl1_eq e66)) f30
        intro r68 e70
        have g33 := g31 r68 e70
        have f33 := Eq.trans (Eq.symm (zl1_eq e70)) f31
        refine ⟨fun c72 => ?_, fun c72 => ?_⟩
        · have f34 := Eq.trans (Eq.symm (if_neg c72)) f33
          have g34 := g33.1 c72
          refine ⟨g34.1, ?_⟩
          have g36 := g34.2
          intro r74 u75 e76
          have g35 := g36 r74 u75 e76
          have f35 := Eq.trans (Eq.symm (zl2_eq e76)) f34
          refine ⟨fun c78 => ?_, fun c78 => ?_⟩
          · have f37 := Eq.trans (Eq.symm (if_pos c78)) f35
            have g37 := g35.1 c78
            refine ⟨g37.1, ?_⟩
            have g39 := g37.2
            intro r80 u81 e82
            have g38 := g39 r80 u81 e82
            have f38 := Eq.trans (Eq.symm (zl2_eq e82)) f37
            refine ⟨g38.1, ?_⟩
            have g40 := g38.2
            exact f38.symm
          · have f37 := Eq.trans (Eq.symm (if_neg c78)) f35
            have g37 := g35.2 c78
            refine ⟨g37.1, ?_⟩
            have g42 := g37.2
            intro r84 m87 m88 m89 e86
            have g41 := g42 r84 m87 m88 m89 e86
            have f41 := Eq.trans (Eq.symm (zl2_eq e86)) f37
            have f41 := Eq.trans (Eq.symm (zl2_eq (Eq.refl (m87, m88, m89)))) f41
            have f41 := Eq.trans (Eq.symm (zl2_eq (Eq.refl (m88, m89)))) f41
            refine ⟨fun c91 => ?_, fun c91 => ?_⟩
            · have f43 := Eq.trans (Eq.symm (if_pos c91)) f41
              have g43 := g41.1 c91
              exact f43.symm
            · have f43 := Eq.trans (Eq.symm (if_neg c91)) f41
              have g43 := g41.2 c91
              refine ⟨g43.1, ?_⟩
              have g45 := g43.2
              intro r93 u94 e95
              have g44 := g45 r93 u94 e95
              have f44 := Eq.trans (Eq.symm (zl2_eq e95)) f43
              refine ⟨fun c97 => ?_, fun c97 => ?_⟩
              · have f46 := Eq.trans (Eq.symm (if_neg c97)) f44
                have g46 := g44.1 c97
                refine ⟨g46.1, ?_⟩
                have g48 := g46.2
                intro m102 m103 e101
                have g47 := g48 m102 m103 e101
                have f47 := Eq.trans (Eq.symm (zl2_eq e101)) f46
                refine ⟨g47.1, ?_⟩
                have g50 := g47.2
                intro r105 u106 e107
                have g49 := g50 r105 u106 e107
                have f49 := Eq.trans (Eq.symm (zl2_eq e107)) f47
                refine ⟨g49.1, ?_⟩
                have g51 := g49.2
                exact f49.symm
              · have f46 := Eq.trans (Eq.symm (if_pos c97)) f44
                have g46 := g44.2 c97
                exact f46.symm
        · have f34 := Eq.trans (Eq.symm (if_pos c72)) f33
          have g34 := g33.2 c72
          exact f34.symm
      · have f30 := Eq.trans (Eq.symm (if_pos c62)) f28
        have g30 := g28.2 c62
        exact f30.symm
  · have f3 := Eq.trans (Eq.symm (if_pos c5)) f1
    have g3 := g1.2 c5
    refine ⟨g3.1, ?_⟩
    have g53 := g3.2
    intro r109 u110 e111
    have g52 := g53 r109 u110 e111
    have f52 := Eq.trans (Eq.symm (zl2_eq e111)) f3
    refine ⟨fun c113 => ?_, fun c113 => ?_⟩
    · have f54 := Eq.trans (Eq.symm (if_neg c113)) f52
      have g54 := g52.1 c113
      refine ⟨g54.1, ?_⟩
      have g56 := g54.2
      intro r115 e117
      have g55 := g56 r115 e117
      have f55 := Eq.trans (Eq.symm (zl1_eq e117)) f54
      intro r119 e121
      have g57 := g55 r119 e121
      have f57 := Eq.trans (Eq.symm (zl1_eq e121)) f55
      refine ⟨fun c123 => ?_, fun c123 => ?_⟩
      · have f58 := Eq.trans (Eq.symm (if_neg c123)) f57
        have g58 := g57.1 c123
        refine ⟨g58.1, ?_⟩
        have g60 := g58.2
        intro r125 u126 e127
        have g59 := g60 r125 u126 e127
        have f59 := Eq.trans (Eq.symm (zl2_eq e127)) f58
        refine ⟨fun c129 => ?_, fun c129 => ?_⟩
        · have f61 := Eq.trans (Eq.symm (if_pos c129)) f59
          have g61 := g59.1 c129
          refine ⟨g61.1, ?_⟩
          have g63 := g61.2
          intro r131 u132 e133
          have g62 := g63 r131 u132 e133
          have f62 := Eq.trans (Eq.symm (zl2_eq e133)) f61
          refine ⟨g62.1, ?_⟩
          have g64 := g62.2
          exact f62.symm
        · have f61 := Eq.trans (Eq.symm (if_neg c129)) f59
          have g61 := g59.2 c129
          refine ⟨g61.1, ?_⟩
          have g66 := g61.2
          intro r135 m138 m139 m140 e137
          have g65 := g66 r135 m138 m139 m140 e137
          have f65 := Eq.trans (Eq.symm (zl2_eq e137)) f61
          have f65 := Eq.trans (Eq.symm (zl2_eq (Eq.refl (m138, m139, m140)))) f65
          have f65 := Eq.trans (Eq.symm (zl2_eq (Eq.refl (m139, m140)))) f65
          refine ⟨fun c142 => ?_, fun c142 => ?_⟩
          · have f67 := Eq.trans (Eq.symm (if_pos c142)) f65
            have g67 := g65.1 c142
            exact f67.symm
          · have f67 := Eq.trans (Eq.symm (if_neg c142)) f65
            have g67 := g65.2 c142
            refine ⟨g67.1, ?_⟩
            have g69 := g67.2
            intro r144 u145 e146
            have g68 := g69 r144 u145 e146
            have f68 := Eq.trans (Eq.symm (zl2_eq e146)) f67
            refine ⟨fun c148 => ?_, fun c148 => ?_⟩
            · have f70 := Eq.trans (Eq.symm (if_neg c148)) f68
              have g70 := g68.1 c148
              refine ⟨g70.1, ?_⟩
              have g72 := g70.2
              intro m153 m154 e152
              have g71 := g72 m153 m154 e152
              have f71 := Eq.trans (Eq.symm (zl2_eq e152)) f70
              refine ⟨g71.1, ?_⟩
              have g74 := g71.2
              intro r156 u157 e158
              have g73 := g74 r156 u157 e158
              have f73 := Eq.trans (Eq.symm (zl2_eq e158)) f71
              refine ⟨g73.1, ?_⟩
              have g75 := g73.2
              exact f73.symm
            · have f70 := Eq.trans (Eq.symm (if_pos c148)) f68
              have g70 := g68.2 c148
              exact f70.symm
      · have f58 := Eq.trans (Eq.symm (if_pos c123)) f57
        have g58 := g57.2 c123
        exact f58.symm
    · have f54 := Eq.trans (Eq.symm (if_pos c113)) f52
      have g54 := g52.2 c113
      refine ⟨g54.1, ?_⟩
      have g77 := g54.2
      intro r160 u161 e162
      have g76 := g77 r160 u161 e162
      have f76 := Eq.trans (Eq.symm (zl2_eq e162)) f54
      refine ⟨fun c164 => ?_, fun c164 => ?_⟩
      · have f78 := Eq.trans (Eq.symm (if_neg c164)) f76
        have g78 := g76.1 c164
        refine ⟨g78.1, ?_⟩
        have g80 := g78.2
        intro r166 e168
        have g79 := g80 r166 e168
        have f79 := Eq.trans (Eq.symm (zl1_eq e168)) f78
        intro r170 e172
        have g81 := g79 r170 e172
        have f81 := Eq.trans (Eq.symm (zl1_eq e172)) f79
        refine ⟨fun c174 => ?_, fun c174 => ?_⟩
        · have f82 := Eq.trans (Eq.symm (if_neg c174)) f81
          have g82 := g81.1 c174
          refine ⟨g82.1, ?_⟩
          have g84 := g82.2
          intro r176 u177 e178
          have g83 := g84 r176 u177 e178
          have f83 := Eq.trans (Eq.symm (zl2_eq e178)) f82
          refine ⟨fun c180 => ?_, fun c180 => ?_⟩
          · have f85 := Eq.trans (Eq.symm (if_pos c180)) f83
            have g85 := g83.1 c180
            refine ⟨g85.1, ?_⟩
            have g87 := g85.2
            intro r182 u183 e184
            have g86 := g87 r182 u183 e184
            have f86 := Eq.trans (Eq.symm (zl2_eq e184)) f85
            refine ⟨g86.1, ?_⟩
            have g88 := g86.2
            exact f86.symm
          · have f85 := Eq.trans (Eq.symm (if_neg c180)) f83
            have g85 := g83.2 c180
            refine ⟨g85.1, ?_⟩
            have g90 := g85.2
            intro r186 m189 m190 m191 e188
            have g89 := g90 r186 m189 m190 m191 e188
            have f89 := Eq.trans (Eq.symm (zl2_eq e188)) f85
            have f89 := Eq.trans (Eq.symm (zl2_eq (Eq.refl (m189, m190, m191)))) f89
            have f89 := Eq.trans (Eq.symm (zl2_eq (Eq.refl (m190, m191)))) f89
            refine ⟨fun c193 => ?_, fun c193 => ?_⟩
            · have f91 := Eq.trans (Eq.symm (if_pos c193)) f89
              have g91 := g89.1 c193
              exact f91.symm
            · have f91 := Eq.trans (Eq.symm (if_neg c193)) f89
              have g91 := g89.2 c193
              refine ⟨g91.1, ?_⟩
              have g93 := g91.2
              intro r195 u196 e197
              have g92 := g93 r195 u196 e197
              have f92 := Eq.trans (Eq.symm (zl2_eq e197)) f91
              refine ⟨fun c199 => ?_, fun c199 => ?_⟩
              · have f94 := Eq.trans (Eq.symm (if_neg c199)) f92
                have g94 := g92.1 c199
                refine ⟨g94.1, ?_⟩
                have g96 := g94.2
                intro m204 m205 e203
                have g95 := g96 m204 m205 e203
                have f95 := Eq.trans (Eq.symm (zl2_eq e203)) f94
                refine ⟨g95.1, ?_⟩
                have g98 := g95.2
                intro r207 u208 e209
                have g97 := g98 r207 u208 e209
                have f97 := Eq.trans (Eq.symm (zl2_eq e209)) f95
                refine ⟨g97.1, ?_⟩
                have g99 := g97.2
                exact f97.symm
              · have f94 := Eq.trans (Eq.symm (if_pos c199)) f92
                have g94 := g92.2 c199
                exact f94.symm
        · have f82 := Eq.trans (Eq.symm (if_pos c174)) f81
          have g82 := g81.2 c174
          exact f82.symm
      · have f78 := Eq.trans (Eq.symm (if_pos c164)) f76
        have g78 := g76.2 c164
        exact f78.symm
theorem c_Te_readHead (l : Launch) (D : va_G) (K : Nat → ClassId) (q_t : Nat) (q_t_characters : Nat) (q_t_draft : Nat) (q_t_draft_steps : Nat) (t_length : Int32) (t_at : Int32) (t_characters : Nat → Int32) (t_draft_length : Int32) (t_draft_actions : Int32) (t_draft_site : Int32) (t_draft_exit : Int32) (t_draft_conditional : Int32) (t_draft_there : Int32) (t_draft_on : Int32) (t_draft_failures : Int32) (t_draft_meetings : Int32) (t_draft_steps : Nat → Int32) (hp : p_Te_readHead t_length t_at t_characters t_draft_length t_draft_site t_draft_exit t_draft_conditional t_draft_steps) : zCi l y_Te_readHead wy_Te_readHead rm_Te_readHead D zcl (zT K) [.ref q_t] (w_Te_readHead K q_t q_t_characters q_t_draft q_t_draft_steps t_length t_characters t_draft_actions t_draft_there t_draft_on t_draft_failures t_draft_meetings (t_at, t_draft_length, t_draft_site, t_draft_exit, t_draft_conditional, t_draft_steps)) (w_Te_readHead K q_t q_t_characters q_t_draft q_t_draft_steps t_length t_characters t_draft_actions t_draft_there t_draft_on t_draft_failures t_draft_meetings) (fun r u => s_Te_readHead t_length t_at t_characters t_draft_length t_draft_site t_draft_exit t_draft_conditional t_draft_steps = (r, u.1, u.2.1, u.2.2.1, u.2.2.2.1, u.2.2.2.2.1, u.2.2.2.2.2)) 0 0 := cw_Te_readHead l D K q_t q_t_characters q_t_draft q_t_draft_steps t_length t_at t_characters t_draft_length t_draft_actions t_draft_site t_draft_exit t_draft_conditional t_draft_there t_draft_on t_draft_failures t_draft_meetings t_draft_steps (v_Te_readHead t_length t_at t_characters t_draft_length t_draft_site t_draft_exit t_draft_conditional t_draft_steps hp)
-- RuleTracer$RuleText.read()Z: reads ['t.length', 't.at', 't.draft.length', 't.draft.actions', 't.draft.site', 't.draft.exit', 't.draft.conditional', 't.draft.there', 't.draft.on', 't.draft.failures', 't.draft.meetings', 't.characters', 't.draft.steps'], changes ['t.at', 't.draft.length', 't.draft.actions', 't.draft.site', 't.draft.exit', 't.draft.conditional', 't.draft.there', 't.draft.on', 't.draft.failures', 't.draft.meetings', 't.draft.steps']
abbrev w_Te_read (K : Nat → ClassId) (q_t : Nat) (q_t_characters : Nat) (q_t_draft : Nat) (q_t_draft_steps : Nat) (t_length : Int32) (t_characters : Nat → Int32) (u : Int32 × Int32 × Int32 × Int32 × Int32 × Int32 × Int32 × Int32 × Int32 × Int32 × (Nat → Int32)) : va_W := [zo 3 q_t [.ref q_t_characters, .ref q_t_draft, .int t_length, .int u.1], zo 2 q_t_draft [.ref q_t_draft_steps, .int u.2.1, .int u.2.2.1, .int u.2.2.2.1, .int u.2.2.2.2.1, .int u.2.2.2.2.2.1, .int u.2.2.2.2.2.2.1, .int u.2.2.2.2.2.2.2.1, .int u.2.2.2.2.2.2.2.2.1, .int u.2.2.2.2.2.2.2.2.2.1], zaC K q_t_characters 48 t_characters, zaI K q_t_draft_steps 48 u.2.2.2.2.2.2.2.2.2.2]
abbrev rm_Te_read : Room := { frames := 37, cells := 0, slots := 0, locals := 1168 }
abbrev wy_Te_read : List Cond := .code y_Te_read b_Te_read 2 (some .boolean) :: zWT
def WP_Te_read_L23 : Nat → Int32 → Int32 → Int32 → Int32 → Int32 → Int32 → Int32 → Int32 → Int32 → Int32 → Int32 → Int32 → (Nat → Int32) → (Nat → Int32) → (Int32 → (Int32 × Int32 × Int32 × Int32 × Int32 × Int32 × Int32 × Int32 × Int32 × Int32 × (Nat → Int32)) → Prop) → Prop
  | 0, _, _, _, _, _, _, _, _, _, _, _, _, _, _, _ => False
  | n + 1, y1, t_length, t_at, t_draft_length, t_draft_actions, t_draft_site, t_draft_exit, t_draft_conditional, t_draft_there, t_draft_on, t_draft_failures, t_draft_meetings, t_characters, t_draft_steps, Q => (((48 : Int32) ≤ y1) → Q (0 : Int32) (t_at, t_draft_length, t_draft_actions, t_draft_site, t_draft_exit, t_draft_conditional, t_draft_there, t_draft_on, t_draft_failures, t_draft_meetings, t_draft_steps)) ∧ ((¬ (48 : Int32) ≤ y1) → p_Te_readAction t_length t_at t_characters t_draft_length t_draft_steps ∧ (∀ (r28 : Int32) (m31 : Int32) (m32 : Int32) (m33 : Nat → Int32), s_Te_readAction t_length t_at t_characters t_draft_length t_draft_steps = (r28, m31, m32, m33) → ((¬ r28 = 0) → p_Te_pass t_length m31 t_characters (125 : Int32) ∧ (∀ (r37 : Int32) (u38 : Int32), s_Te_pass t_length m31 t_characters (125 : Int32) = (r37, u38) → ((r37 = 0) → p_Te_pass t_length u38 t_characters (59 : Int32) ∧ (∀ (r43 : Int32) (u44 : Int32), s_Te_pass t_length u38 t_characters (59 : Int32) = (r43, u44) → ((¬ r43 = 0) → WP_Te_read_L23 n (y1 + (1 : Int32)) t_length u44 m32 (t_draft_actions + (1 : Int32)) t_draft_site t_draft_exit t_draft_conditional t_draft_there t_draft_on t_draft_failures t_draft_meetings t_characters m33 Q) ∧ ((r43 = 0) → Q (0 : Int32) (u44, m32, t_draft_actions + (1 : Int32), t_draft_site, t_draft_exit, t_draft_conditional, t_draft_there, t_draft_on, t_draft_failures, t_draft_meetings, m33)))) ∧ ((¬ r37 = 0) → ((¬ u38 = t_length) → Q (0 : Int32) (u38, m32, t_draft_actions + (1 : Int32), t_draft_site, t_draft_exit, t_draft_conditional, t_draft_there, t_draft_on, t_draft_failures, t_draft_meetings, m33)) ∧ ((u38 = t_length) → Q (1 : Int32) (u38, m32, t_draft_actions + (1 : Int32), t_draft_site, t_draft_exit, t_draft_conditional, t_draft_there, t_draft_on, t_draft_failures, t_draft_meetings, m33))))) ∧ ((r28 = 0) → Q (0 : Int32) (m31, m32, t_draft_actions, t_draft_site, t_draft_exit, t_draft_conditional, t_draft_there, t_draft_on, t_draft_failures, t_draft_meetings, m33))))
def WP_Te_read (t_length : Int32) (t_at : Int32) (t_draft_length : Int32) (t_draft_actions : Int32) (t_draft_site : Int32) (t_draft_exit : Int32) (t_draft_conditional : Int32) (t_draft_there : Int32) (t_draft_on : Int32) (t_draft_failures : Int32) (t_draft_meetings : Int32) (t_characters : Nat → Int32) (t_draft_steps : Nat → Int32) (Q : Int32 → (Int32 × Int32 × Int32 × Int32 × Int32 × Int32 × Int32 × Int32 × Int32 × Int32 × (Nat → Int32)) → Prop) : Prop := (∀ (m4 : Int32) (m5 : Int32) (m6 : Int32) (m7 : Int32) (m8 : Int32) (m9 : Int32) (m10 : Int32) (m11 : Int32) (m12 : Int32), s_Ru_clear t_draft_length t_draft_actions t_draft_site t_draft_exit t_draft_conditional t_draft_there t_draft_on t_draft_failures t_draft_meetings = (m4, m5, m6, m7, m8, m9, m10, m11, m12) → p_Te_readHead t_length (0 : Int32) t_characters m4 m6 m7 m8 t_draft_steps ∧ (∀ (r14 : Int32) (m17 : Int32) (m18 : Int32) (m19 : Int32) (m20 : Int32) (m21 : Int32) (m22 : Nat → Int32), s_Te_readHead t_length (0 : Int32) t_characters m4 m6 m7 m8 t_draft_steps = (r14, m17, m18, m19, m20, m21, m22) → ((¬ r14 = 0) → WP_Te_read_L23 600 (0 : Int32) t_length m17 m18 m5 m19 m20 m21 m9 m10 m11 m12 t_characters m22 Q) ∧ ((r14 = 0) → Q (0 : Int32) (m17, m18, m5, m19, m20, m21, m9, m10, m11, m12, m22))))
set_option maxHeartbeats 4000000 in
set_option maxRecDepth 100000 in
theorem lw_Te_read_L23 {p : Program} {e : Env} {s : State} {m : MethodId} {args : Array Value} {below : List Frame} {meth : Method} {c : Code} {A : Nat → Prop} (l : Launch) (D : va_G) (K : Nat → ClassId) (q_t : Nat) (q_t_characters : Nat) (q_t_draft : Nat) (q_t_draft_steps : Nat) (t_length : Int32) (t_characters : Nat → Int32) {Q : Int32 → (Int32 × Int32 × Int32 × Int32 × Int32 × Int32 × Int32 × Int32 × Int32 × Int32 × (Nat → Int32)) → Prop} (C : zCx p s m args c b_Te_read 2 R_Te zWT D zcl (zT K) A) (hr : meth.sig.returnType = (some .boolean)) (hlk : meth.locks = false) : ∀ (n : Nat) (y1 : Int32) (t_at : Int32) (t_draft_length : Int32) (t_draft_actions : Int32) (t_draft_site : Int32) (t_draft_exit : Int32) (t_draft_conditional : Int32) (t_draft_there : Int32) (t_draft_on : Int32) (t_draft_failures : Int32) (t_draft_meetings : Int32) (t_draft_steps : Nat → Int32), WP_Te_read_L23 n y1 t_length t_at t_draft_length t_draft_actions t_draft_site t_draft_exit t_draft_conditional t_draft_there t_draft_on t_draft_failures t_draft_meetings t_characters t_draft_steps Q → zW p l e (headSpec wy_Te_read rm_Te_read).room s m args below meth c D zcl A 2 0 0 (MQ below (va_Qi Q (zB D zcl (zT K) (w_Te_read K q_t q_t_characters q_t_draft q_t_draft_steps t_length t_characters) A) A) args s 0 0 A) [(0, .ref q_t), (1, .int y1)] [zo 3 q_t [.ref q_t_characters, .ref q_t_draft, .int t_length, .int t_at], zo 2 q_t_draft [.ref q_t_draft_steps, .int t_draft_length, .int t_draft_actions, .int t_draft_site, .int t_draft_exit, .int t_draft_conditional, .int t_draft_there, .int t_draft_on, .int t_draft_failures, .int t_draft_meetings], zaC K q_t_characters 48 t_characters, zaI K q_t_draft_steps 48 t_draft_steps] 23 [] := by
  intro n
  induction n with
  | zero => intros; contradiction
  | succ n ih =>
    intro y1 t_at t_draft_length t_draft_actions t_draft_site t_draft_exit t_draft_conditional t_draft_there t_draft_on t_draft_failures t_draft_meetings t_draft_steps hS0
    refine z_iload_n C d_Te_read_23 rfl 1 rfl ?_
    refine z_bipush (v := (48 : Int32)) C d_Te_read_24 (by decide) ?_
    refine z_icmp_ge (tgt := 94) C d_Te_read_26 (by decide) (fun c26 => ?_) (fun c26 => ?_)
    · have hS27 := hS0.1 c26
      refine z_iconst (v := (0 : Int32)) C d_Te_read_94 (by decide) ?_
      exact z_zret C hr rfl hlk (t_at, t_draft_length, t_draft_actions, t_draft_site, t_draft_exit, t_draft_conditional, t_draft_there, t_draft_on, t_draft_failures, t_draft_meetings, t_draft_steps) rfl hS27 d_Te_read_95
    · have hS27 := hS0.2 c26
      refine z_aload_n C d_Te_read_29 rfl 0 rfl ?_
      refine z_callVi (As := []) (b := q_t) (st := []) (wr := []) (wj := fun u => [zo 3 q_t [.ref q_t_characters, .ref q_t_draft, .int t_length, .int u.1], zo 2 q_t_draft [.ref q_t_draft_steps, .int u.2.1, .int t_draft_actions, .int t_draft_site, .int t_draft_exit, .int t_draft_conditional, .int t_draft_there, .int t_draft_on, .int t_draft_failures, .int t_draft_meetings], zaC K q_t_characters 48 t_characters, zaI K q_t_draft_steps 48 u.2.2]) C 0 rfl rfl (c_Te_readAction l D K q_t q_t_characters q_t_draft q_t_draft_steps t_length t_at t_characters t_draft_length t_draft_actions t_draft_site t_draft_exit t_draft_conditional t_draft_there t_draft_on t_draft_failures t_draft_meetings t_draft_steps hS27.1) (cwV 0 C.2.2.2.2.1 (z_gV wl_Te_40 wi_Te_readAction wv_Te_readAction wz_Te wk_Te_readAction) rfl rfl rfl (by decide +kernel) ⟨Nat.le_of_ble_eq_true rfl, Nat.le_of_ble_eq_true rfl⟩) [0, 2, 1, 3] [] [0, 2, 1, 3] rfl rfl rfl rfl (by decide) (fun _ => rfl) rfl rfl rfl (Nat.le_of_ble_eq_true rfl) d_Te_read_30 ⟨Nat.le_of_ble_eq_true rfl, Nat.le_of_ble_eq_true rfl⟩ (fun r28 u29 e30 => ?_)
      obtain ⟨m31, m32, m33⟩ := u29
      refine z_weq (ws' := [zo 3 q_t [.ref q_t_characters, .ref q_t_draft, .int t_length, .int m31], zo 2 q_t_draft [.ref q_t_draft_steps, .int m32, .int t_draft_actions, .int t_draft_site, .int t_draft_exit, .int t_draft_conditional, .int t_draft_there, .int t_draft_on, .int t_draft_failures, .int t_draft_meetings], zaC K q_t_characters 48 t_characters, zaI K q_t_draft_steps 48 m33]) rfl ?_
      have hS34 := hS27.2 r28 m31 m32 m33 e30
      refine z_if_ne (tgt := 38) C d_Te_read_33 (by decide) (fun c35 => ?_) (fun c35 => ?_)
      · have hS36 := hS34.1 c35
        refine z_aload_n C d_Te_read_38 rfl 0 rfl ?_
        refine z_get C 0 rfl rfl in_Te 1 (by decide) rfl wf_Te_18 rfl d_Te_read_39 ?_
        refine z_dup C d_Te_read_42 rfl ?_
        refine z_get C 1 rfl rfl in_Ru 2 (by decide) rfl wf_Te_43 rfl d_Te_read_43 ?_
        refine z_iconst (v := (1 : Int32)) C d_Te_read_46 (by decide) ?_
        refine z_iadd C d_Te_read_47 ?_
        refine z_put (ty := .int) (ws' := [zo 3 q_t [.ref q_t_characters, .ref q_t_draft, .int t_length, .int m31], zo 2 q_t_draft [.ref q_t_draft_steps, .int m32, .int (t_draft_actions + (1 : Int32)), .int t_draft_site, .int t_draft_exit, .int t_draft_conditional, .int t_draft_there, .int t_draft_on, .int t_draft_failures, .int t_draft_meetings], zaC K q_t_characters 48 t_characters, zaI K q_t_draft_steps 48 m33]) C ty_Ru to_Ru nm_Ru 1 rfl rfl in_Ru 2 (by decide) rfl wf_Te_43 rfl rfl rfl rfl (Nat.le_of_ble_eq_true rfl) rfl d_Te_read_48 ?_
        refine z_aload_n C d_Te_read_51 rfl 0 rfl ?_
        refine z_bipush (v := (125 : Int32)) C d_Te_read_52 (by decide) ?_
        refine z_callVi (As := [.int (125 : Int32)]) (b := q_t) (st := []) (wr := [zo 2 q_t_draft [.ref q_t_draft_steps, .int m32, .int (t_draft_actions + (1 : Int32)), .int t_draft_site, .int t_draft_exit, .int t_draft_conditional, .int t_draft_there, .int t_draft_on, .int t_draft_failures, .int t_draft_meetings], zaI K q_t_draft_steps 48 m33]) (wj := fun u => [zo 3 q_t [.ref q_t_characters, .ref q_t_draft, .int t_length, .int u], zo 2 q_t_draft [.ref q_t_draft_steps, .int m32, .int (t_draft_actions + (1 : Int32)), .int t_draft_site, .int t_draft_exit, .int t_draft_conditional, .int t_draft_there, .int t_draft_on, .int t_draft_failures, .int t_draft_meetings], zaC K q_t_characters 48 t_characters, zaI K q_t_draft_steps 48 m33]) C 0 rfl rfl (c_Te_pass l D K q_t q_t_characters q_t_draft t_length m31 t_characters (125 : Int32) hS36.1) (cwV 1 C.2.2.2.2.1 (z_gV wl_Te_46 wi_Te_pass wv_Te_pass wz_Te wk_Te_pass) rfl rfl rfl (by decide +kernel) ⟨Nat.le_of_ble_eq_true rfl, Nat.le_of_ble_eq_true rfl⟩) [0, 2] [1, 3] [2, 0, 3, 1] rfl rfl rfl rfl (by decide) (fun _ => rfl) rfl rfl rfl (Nat.le_of_ble_eq_true rfl) d_Te_read_54 ⟨Nat.le_of_ble_eq_true rfl, Nat.le_of_ble_eq_true rfl⟩ (fun r37 u38 e39 => ?_)
        have hS40 := hS36.2 r37 u38 e39
        refine z_if_eq (tgt := 77) C d_Te_read_57 (by decide) (fun c41 => ?_) (fun c41 => ?_)
        · have hS42 := hS40.1 c41
          refine z_aload_n C d_Te_read_77 rfl 0 rfl ?_
          refine z_bipush (v := (59 : Int32)) C d_Te_read_78 (by decide) ?_
          refine z_callVi (As := [.int (59 : Int32)]) (b := q_t) (st := []) (wr := [zo 2 q_t_draft [.ref q_t_draft_steps, .int m32, .int (t_draft_actions + (1 : Int32)), .int t_draft_site, .int t_draft_exit, .int t_draft_conditional, .int t_draft_there, .int t_draft_on, .int t_draft_failures, .int t_draft_meetings], zaI K q_t_draft_steps 48 m33]) (wj := fun u => [zo 3 q_t [.ref q_t_characters, .ref q_t_draft, .int t_length, .int u], zo 2 q_t_draft [.ref q_t_draft_steps, .int m32, .int (t_draft_actions + (1 : Int32)), .int t_draft_site, .int t_draft_exit, .int t_draft_conditional, .int t_draft_there, .int t_draft_on, .int t_draft_failures, .int t_draft_meetings], zaC K q_t_characters 48 t_characters, zaI K q_t_draft_steps 48 m33]) C 0 rfl rfl (c_Te_pass l D K q_t q_t_characters q_t_draft t_length u38 t_characters (59 : Int32) hS42.1) (cwV 1 C.2.2.2.2.1 (z_gV wl_Te_46 wi_Te_pass wv_Te_pass wz_Te wk_Te_pass) rfl rfl rfl (by decide +kernel) ⟨Nat.le_of_ble_eq_true rfl, Nat.le_of_ble_eq_true rfl⟩) [0, 2] [1, 3] [2, 0, 3, 1] rfl rfl rfl rfl (by decide) (fun _ => rfl) rfl rfl rfl (Nat.le_of_ble_eq_true rfl) d_Te_read_80 ⟨Nat.le_of_ble_eq_true rfl, Nat.le_of_ble_eq_true rfl⟩ (fun r43 u44 e45 => ?_)
          have hS46 := hS42.2 r43 u44 e45
          refine z_if_ne (tgt := 88) C d_Te_read_83 (by decide) (fun c47 => ?_) (fun c47 => ?_)
          · have hS48 := hS46.1 c47
            refine z_iinc (j := 1) (v := y1 + (1 : Int32)) (lv' := [(1, .int (y1 + (1 : Int32))), (0, .ref q_t)]) C d_Te_read_88 rfl rfl (by decide) rfl ?_
            refine z_goto (tgt := 23) C d_Te_read_91 (by decide) ?_
            refine z_lpick (lv' := [(0, .ref q_t), (1, .int (y1 + (1 : Int32)))]) [1, 0] rfl ?_
            exact ih (y1 + (1 : Int32)) u44 m32 (t_draft_actions + (1 : Int32)) t_draft_site t_draft_exit t_draft_conditional t_draft_there t_draft_on t_draft_failures t_draft_meetings m33 hS48
          · have hS48 := hS46.2 c47
            refine z_iconst (v := (0 : Int32)) C d_Te_read_86 (by decide) ?_
            exact z_zret C hr rfl hlk (u44, m32, t_draft_actions + (1 : Int32), t_draft_site, t_draft_exit, t_draft_conditional, t_draft_there, t_draft_on, t_draft_failures, t_draft_meetings, m33) rfl hS48 d_Te_read_87
        · have hS42 := hS40.2 c41
          refine z_aload_n C d_Te_read_60 rfl 0 rfl ?_
          refine z_get C 0 rfl rfl in_Te 3 (by decide) rfl wf_Te_26 rfl d_Te_read_61 ?_
          refine z_aload_n C d_Te_read_64 rfl 0 rfl ?_
          refine z_get C 0 rfl rfl in_Te 2 (by decide) rfl wf_Te_22 rfl d_Te_read_65 ?_
          refine z_icmp_ne (tgt := 75) C d_Te_read_68 (by decide) (fun c49 => ?_) (fun c49 => ?_)
          · have hS50 := hS42.1 c49
            refine z_iconst (v := (0 : Int32)) C d_Te_read_75 (by decide) ?_
            exact z_zret C hr rfl hlk (u38, m32, t_draft_actions + (1 : Int32), t_draft_site, t_draft_exit, t_draft_conditional, t_draft_there, t_draft_on, t_draft_failures, t_draft_meetings, m33) rfl hS50 d_Te_read_76
          · have hS50 := hS42.2 c49
            refine z_iconst (v := (1 : Int32)) C d_Te_read_71 (by decide) ?_
            refine z_goto (tgt := 76) C d_Te_read_72 (by decide) ?_
            exact z_zret C hr rfl hlk (u38, m32, t_draft_actions + (1 : Int32), t_draft_site, t_draft_exit, t_draft_conditional, t_draft_there, t_draft_on, t_draft_failures, t_draft_meetings, m33) rfl hS50 d_Te_read_76
      · have hS36 := hS34.2 c35
        refine z_iconst (v := (0 : Int32)) C d_Te_read_36 (by decide) ?_
        exact z_zret C hr rfl hlk (m31, m32, t_draft_actions, t_draft_site, t_draft_exit, t_draft_conditional, t_draft_there, t_draft_on, t_draft_failures, t_draft_meetings, m33) rfl hS36 d_Te_read_37
set_option maxHeartbeats 4000000 in
set_option maxRecDepth 100000 in
theorem cw_Te_read (l : Launch) (D : va_G) (K : Nat → ClassId) (q_t : Nat) (q_t_characters : Nat) (q_t_draft : Nat) (q_t_draft_steps : Nat) (t_length : Int32) (t_at : Int32) (t_draft_length : Int32) (t_draft_actions : Int32) (t_draft_site : Int32) (t_draft_exit : Int32) (t_draft_conditional : Int32) (t_draft_there : Int32) (t_draft_on : Int32) (t_draft_failures : Int32) (t_draft_meetings : Int32) (t_characters : Nat → Int32) (t_draft_steps : Nat → Int32) {Q : Int32 → (Int32 × Int32 × Int32 × Int32 × Int32 × Int32 × Int32 × Int32 × Int32 × Int32 × (Nat → Int32)) → Prop} (hS0 : WP_Te_read t_length t_at t_draft_length t_draft_actions t_draft_site t_draft_exit t_draft_conditional t_draft_there t_draft_on t_draft_failures t_draft_meetings t_characters t_draft_steps Q) : zCi l y_Te_read wy_Te_read rm_Te_read D zcl (zT K) [.ref q_t] (w_Te_read K q_t q_t_characters q_t_draft q_t_draft_steps t_length t_characters (t_at, t_draft_length, t_draft_actions, t_draft_site, t_draft_exit, t_draft_conditional, t_draft_there, t_draft_on, t_draft_failures, t_draft_meetings, t_draft_steps)) (w_Te_read K q_t q_t_characters q_t_draft q_t_draft_steps t_length t_characters) Q 0 0 := by
  refine z_meti (cc := b_Te_read) (maxL := 2) (ret := (some .boolean)) (by decide) rfl (Nat.le_of_ble_eq_true rfl) ?_
  intro p e s m args below meth c A C hr hlk hnm
  refine z_lpick (lv' := [(0, .ref q_t)]) [0] rfl ?_
  refine z_weq (ws' := [zo 3 q_t [.ref q_t_characters, .ref q_t_draft, .int t_length, .int t_at], zo 2 q_t_draft [.ref q_t_draft_steps, .int t_draft_length, .int t_draft_actions, .int t_draft_site, .int t_draft_exit, .int t_draft_conditional, .int t_draft_there, .int t_draft_on, .int t_draft_failures, .int t_draft_meetings], zaC K q_t_characters 48 t_characters, zaI K q_t_draft_steps 48 t_draft_steps]) rfl ?_
  refine z_aload_n C d_Te_read_0 rfl 0 rfl ?_
  refine z_get C 0 rfl rfl in_Te 1 (by decide) rfl wf_Te_18 rfl d_Te_read_1 ?_
  refine z_callVv (As := []) (b := q_t_draft) (st := []) (wr := [zo 3 q_t [.ref q_t_characters, .ref q_t_draft, .int t_length, .int t_at], zaC K q_t_characters 48 t_characters, zaI K q_t_draft_steps 48 t_draft_steps]) (wj := fun u => [zo 3 q_t [.ref q_t_characters, .ref q_t_draft, .int t_length, .int t_at], zo 2 q_t_draft [.ref q_t_draft_steps, .int u.1, .int u.2.1, .int u.2.2.1, .int u.2.2.2.1, .int u.2.2.2.2.1, .int u.2.2.2.2.2.1, .int u.2.2.2.2.2.2.1, .int u.2.2.2.2.2.2.2.1, .int u.2.2.2.2.2.2.2.2], zaC K q_t_characters 48 t_characters, zaI K q_t_draft_steps 48 t_draft_steps]) C 1 rfl rfl (c_Ru_clear l D K q_t_draft q_t_draft_steps t_draft_length t_draft_actions t_draft_site t_draft_exit t_draft_conditional t_draft_there t_draft_on t_draft_failures t_draft_meetings) (cwV 0 C.2.2.2.2.1 (z_gV wl_Te_33 wi_Ru_clear wv_Ru_clear wz_Ru wk_Ru_clear) rfl rfl rfl (by decide +kernel) ⟨Nat.le_of_ble_eq_true rfl, Nat.le_of_ble_eq_true rfl⟩) [1] [0, 2, 3] [0, 3, 1, 2] rfl rfl rfl rfl (by decide) (fun _ => rfl) rfl rfl rfl (Nat.le_of_ble_eq_true rfl) d_Te_read_4 ⟨Nat.le_of_ble_eq_true rfl, Nat.le_of_ble_eq_true rfl⟩ (fun u2 e3 => ?_)
  obtain ⟨m4, m5, m6, m7, m8, m9, m10, m11, m12⟩ := u2
  refine z_weq (ws' := [zo 3 q_t [.ref q_t_characters, .ref q_t_draft, .int t_length, .int t_at], zo 2 q_t_draft [.ref q_t_draft_steps, .int m4, .int m5, .int m6, .int m7, .int m8, .int m9, .int m10, .int m11, .int m12], zaC K q_t_characters 48 t_characters, zaI K q_t_draft_steps 48 t_draft_steps]) rfl ?_
  have hS13 := hS0 m4 m5 m6 m7 m8 m9 m10 m11 m12 e3
  refine z_aload_n C d_Te_read_7 rfl 0 rfl ?_
  refine z_iconst (v := (0 : Int32)) C d_Te_read_8 (by decide) ?_
  refine z_put (ty := .int) (ws' := [zo 3 q_t [.ref q_t_characters, .ref q_t_draft, .int t_length, .int (0 : Int32)], zo 2 q_t_draft [.ref q_t_draft_steps, .int m4, .int m5, .int m6, .int m7, .int m8, .int m9, .int m10, .int m11, .int m12], zaC K q_t_characters 48 t_characters, zaI K q_t_draft_steps 48 t_draft_steps]) C ty_Te to_Te nm_Te 0 rfl rfl in_Te 3 (by decide) rfl wf_Te_26 rfl rfl rfl rfl (Nat.le_of_ble_eq_true rfl) rfl d_Te_read_9 ?_
  refine z_aload_n C d_Te_read_12 rfl 0 rfl ?_
  refine z_callVi (As := []) (b := q_t) (st := []) (wr := []) (wj := fun u => [zo 3 q_t [.ref q_t_characters, .ref q_t_draft, .int t_length, .int u.1], zo 2 q_t_draft [.ref q_t_draft_steps, .int u.2.1, .int m5, .int u.2.2.1, .int u.2.2.2.1, .int u.2.2.2.2.1, .int m9, .int m10, .int m11, .int m12], zaC K q_t_characters 48 t_characters, zaI K q_t_draft_steps 48 u.2.2.2.2.2]) C 0 rfl rfl (c_Te_readHead l D K q_t q_t_characters q_t_draft q_t_draft_steps t_length (0 : Int32) t_characters m4 m5 m6 m7 m8 m9 m10 m11 m12 t_draft_steps hS13.1) (cwV 0 C.2.2.2.2.1 (z_gV wl_Te_36 wi_Te_readHead wv_Te_readHead wz_Te wk_Te_readHead) rfl rfl rfl (by decide +kernel) ⟨Nat.le_of_ble_eq_true rfl, Nat.le_of_ble_eq_true rfl⟩) [0, 2, 1, 3] [] [0, 2, 1, 3] rfl rfl rfl rfl (by decide) (fun _ => rfl) rfl rfl rfl (Nat.le_of_ble_eq_true rfl) d_Te_read_13 ⟨Nat.le_of_ble_eq_true rfl, Nat.le_of_ble_eq_true rfl⟩ (fun r14 u15 e16 => ?_)
  obtain ⟨m17, m18, m19, m20, m21, m22⟩ := u15
  refine z_weq (ws' := [zo 3 q_t [.ref q_t_characters, .ref q_t_draft, .int t_length, .int m17], zo 2 q_t_draft [.ref q_t_draft_steps, .int m18, .int m5, .int m19, .int m20, .int m21, .int m9, .int m10, .int m11, .int m12], zaC K q_t_characters 48 t_characters, zaI K q_t_draft_steps 48 m22]) rfl ?_
  have hS23 := hS13.2 r14 m17 m18 m19 m20 m21 m22 e16
  refine z_if_ne (tgt := 21) C d_Te_read_16 (by decide) (fun c24 => ?_) (fun c24 => ?_)
  · have hS25 := hS23.1 c24
    refine z_iconst (v := (0 : Int32)) C d_Te_read_21 (by decide) ?_
    refine z_istore_n (lv' := [(1, .int (0 : Int32)), (0, .ref q_t)]) C d_Te_read_22 rfl (by decide) rfl ?_
    refine z_lpick (lv' := [(0, .ref q_t), (1, .int (0 : Int32))]) [1, 0] rfl ?_
    exact lw_Te_read_L23 l D K q_t q_t_characters q_t_draft q_t_draft_steps t_length t_characters C hr hlk 600 (0 : Int32) m17 m18 m5 m19 m20 m21 m9 m10 m11 m12 m22 hS25
  · have hS25 := hS23.2 c24
    refine z_iconst (v := (0 : Int32)) C d_Te_read_19 (by decide) ?_
    exact z_zret C hr rfl hlk (m17, m18, m5, m19, m20, m21, m9, m10, m11, m12, m22) rfl hS25 d_Te_read_20
def s_Te_read_L23 : Nat → Int32 → Int32 → Int32 → Int32 → Int32 → Int32 → Int32 → Int32 → Int32 → Int32 → Int32 → Int32 → (Nat → Int32) → (Nat → Int32) → Int32 × Int32 × Int32 × Int32 × Int32 × Int32 × Int32 × Int32 × Int32 × Int32 × Int32 × (Nat → Int32)
  | 0, _, _, t_at, t_draft_length, t_draft_actions, t_draft_site, t_draft_exit, t_draft_conditional, t_draft_there, t_draft_on, t_draft_failures, t_draft_meetings, _, t_draft_steps => (0, t_at, t_draft_length, t_draft_actions, t_draft_site, t_draft_exit, t_draft_conditional, t_draft_there, t_draft_on, t_draft_failures, t_draft_meetings, t_draft_steps)
  | n + 1, y1, t_length, t_at, t_draft_length, t_draft_actions, t_draft_site, t_draft_exit, t_draft_conditional, t_draft_there, t_draft_on, t_draft_failures, t_draft_meetings, t_characters, t_draft_steps => (if (48 : Int32) ≤ y1 then ((0 : Int32), t_at, t_draft_length, t_draft_actions, t_draft_site, t_draft_exit, t_draft_conditional, t_draft_there, t_draft_on, t_draft_failures, t_draft_meetings, t_draft_steps) else (zl2 (s_Te_readAction t_length t_at t_characters t_draft_length t_draft_steps) (fun r28 z_r28 => zl2 z_r28 (fun m31 z_m31 => zl2 z_m31 (fun m32 m33 => (if r28 = 0 then ((0 : Int32), m31, m32, t_draft_actions, t_draft_site, t_draft_exit, t_draft_conditional, t_draft_there, t_draft_on, t_draft_failures, t_draft_meetings, m33) else (zl2 (s_Te_pass t_length m31 t_characters (125 : Int32)) (fun r37 u38 => (if r37 = 0 then (zl2 (s_Te_pass t_length u38 t_characters (59 : Int32)) (fun r43 u44 => (if r43 = 0 then ((0 : Int32), u44, m32, t_draft_actions + (1 : Int32), t_draft_site, t_draft_exit, t_draft_conditional, t_draft_there, t_draft_on, t_draft_failures, t_draft_meetings, m33) else s_Te_read_L23 n (y1 + (1 : Int32)) t_length u44 m32 (t_draft_actions + (1 : Int32)) t_draft_site t_draft_exit t_draft_conditional t_draft_there t_draft_on t_draft_failures t_draft_meetings t_characters m33))) else (if u38 = t_length then ((1 : Int32), u38, m32, t_draft_actions + (1 : Int32), t_draft_site, t_draft_exit, t_draft_conditional, t_draft_there, t_draft_on, t_draft_failures, t_draft_meetings, m33) else ((0 : Int32), u38, m32, t_draft_actions + (1 : Int32), t_draft_site, t_draft_exit, t_draft_conditional, t_draft_there, t_draft_on, t_draft_failures, t_draft_meetings, m33)))))))))))
def s_Te_read (t_length : Int32) (t_at : Int32) (t_draft_length : Int32) (t_draft_actions : Int32) (t_draft_site : Int32) (t_draft_exit : Int32) (t_draft_conditional : Int32) (t_draft_there : Int32) (t_draft_on : Int32) (t_draft_failures : Int32) (t_draft_meetings : Int32) (t_characters : Nat → Int32) (t_draft_steps : Nat → Int32) : Int32 × Int32 × Int32 × Int32 × Int32 × Int32 × Int32 × Int32 × Int32 × Int32 × Int32 × (Nat → Int32) := (zl2 (s_Ru_clear t_draft_length t_draft_actions t_draft_site t_draft_exit t_draft_conditional t_draft_there t_draft_on t_draft_failures t_draft_meetings) (fun m4 z_m4 => zl2 z_m4 (fun m5 z_m5 => zl2 z_m5 (fun m6 z_m6 => zl2 z_m6 (fun m7 z_m7 => zl2 z_m7 (fun m8 z_m8 => zl2 z_m8 (fun m9 z_m9 => zl2 z_m9 (fun m10 z_m10 => zl2 z_m10 (fun m11 m12 => (zl2 (s_Te_readHead t_length (0 : Int32) t_characters m4 m6 m7 m8 t_draft_steps) (fun r14 z_r14 => zl2 z_r14 (fun m17 z_m17 => zl2 z_m17 (fun m18 z_m18 => zl2 z_m18 (fun m19 z_m19 => zl2 z_m19 (fun m20 z_m20 => zl2 z_m20 (fun m21 m22 => (if r14 = 0 then ((0 : Int32), m17, m18, m5, m19, m20, m21, m9, m10, m11, m12, m22) else s_Te_read_L23 600 (0 : Int32) t_length m17 m18 m5 m19 m20 m21 m9 m10 m11 m12 t_characters m22)))))))))))))))))
def p_Te_read (t_length : Int32) (t_at : Int32) (t_draft_length : Int32) (t_draft_actions : Int32) (t_draft_site : Int32) (t_draft_exit : Int32) (t_draft_conditional : Int32) (t_draft_there : Int32) (t_draft_on : Int32) (t_draft_failures : Int32) (t_draft_meetings : Int32) (t_characters : Nat → Int32) (t_draft_steps : Nat → Int32) : Prop := WP_Te_read t_length t_at t_draft_length t_draft_actions t_draft_site t_draft_exit t_draft_conditional t_draft_there t_draft_on t_draft_failures t_draft_meetings t_characters t_draft_steps (fun _ _ => True)
set_option maxRecDepth 100000 in
theorem v_Te_read_L23 : ∀ (n : Nat) (y1 : Int32) (t_length : Int32) (t_at : Int32) (t_draft_length : Int32) (t_draft_actions : Int32) (t_draft_site : Int32) (t_draft_exit : Int32) (t_draft_conditional : Int32) (t_draft_there : Int32) (t_draft_on : Int32) (t_draft_failures : Int32) (t_draft_meetings : Int32) (t_characters : Nat → Int32) (t_draft_steps : Nat → Int32) (tgt : Int32 × Int32 × Int32 × Int32 × Int32 × Int32 × Int32 × Int32 × Int32 × Int32 × Int32 × (Nat → Int32)), s_Te_read_L23 n y1 t_length t_at t_draft_length t_draft_actions t_draft_site t_draft_exit t_draft_conditional t_draft_there t_draft_on t_draft_failures t_draft_meetings t_characters t_draft_steps = tgt → WP_Te_read_L23 n y1 t_length t_at t_draft_length t_draft_actions t_draft_site t_draft_exit t_draft_conditional t_draft_there t_draft_on t_draft_failures t_draft_meetings t_characters t_draft_steps (fun _ _ => True) → WP_Te_read_L23 n y1 t_length t_at t_draft_length t_draft_actions t_draft_site t_draft_exit t_draft_conditional t_draft_there t_draft_on t_draft_failures t_draft_meetings t_characters t_draft_steps (fun r u => tgt = (r, u.1, u.2.1, u.2.2.1, u.2.2.2.1, u.2.2.2.2.1, u.2.2.2.2.2.1, u.2.2.2.2.2.2.1, u.2.2.2.2.2.2.2.1, u.2.2.2.2.2.2.2.2.1, u.2.2.2.2.2.2.2.2.2.1, u.2.2.2.2.2.2.2.2.2.2)) := by
  intro n
  induction n with
  | zero => intros; contradiction
  | succ n ih =>
    intro y1 t_length t_at t_draft_length t_draft_actions t_draft_site t_draft_exit t_draft_conditional t_draft_there t_draft_on t_draft_failures t_draft_meetings t_characters t_draft_steps tgt f0 hp
    unfold s_Te_read_L23 at f0
    unfold WP_Te_read_L23 at hp ⊢
    refine ⟨fun c26 => ?_, fun c26 => ?_⟩
    · have f1 := Eq.trans (Eq.symm (if_pos c26)) f0
      have g1 := hp.1 c26
      exact f1.symm
    · have f1 := Eq.trans (Eq.symm (if_neg c26)) f0
      have g1 := hp.2 c26
      refine ⟨g1.1, ?_⟩
      have g3 := g1.2
      intro r28 m31 m32 m33 e30
      have g2 := g3 r28 m31 m32 m33 e30
      have f2 := Eq.trans (Eq.symm (zl2_eq e30)) f1
      have f2 := Eq.trans (Eq.symm (zl2_eq (Eq.refl (m31, m32, m33)))) f2
      have f2 := Eq.trans (Eq.symm (zl2_eq (Eq.refl (m32, m33)))) f2
      refine ⟨fun c35 => ?_, fun c35 => ?_⟩
      · have f4 := Eq.trans (Eq.symm (if_neg c35)) f2
        have g4 := g2.1 c35
        refine ⟨g4.1, ?_⟩
        have g6 := g4.2
        intro r37 u38 e39
        have g5 := g6 r37 u38 e39
        have f5 := Eq.trans (Eq.symm (zl2_eq e39)) f4
        refine ⟨fun c41 => ?_, fun c41 => ?_⟩
        · have f7 := Eq.trans (Eq.symm (if_pos c41)) f5
          have g7 := g5.1 c41
          refine ⟨g7.1, ?_⟩
          have g9 := g7.2
          intro r43 u44 e45
          have g8 := g9 r43 u44 e45
          have f8 := Eq.trans (Eq.symm (zl2_eq e45)) f7
          refine ⟨fun c47 => ?_, fun c47 => ?_⟩
          · have f10 := Eq.trans (Eq.symm (if_neg c47)) f8
            have g10 := g8.1 c47
            exact ih (y1 + (1 : Int32)) t_length u44 m32 (t_draft_actions + (1 : Int32)) t_draft_site t_draft_exit t_draft_conditional t_draft_there t_draft_on t_draft_failures t_draft_meetings t_characters m33 _ f10 g10
          · have f10 := Eq.trans (Eq.symm (if_pos c47)) f8
            have g10 := g8.2 c47
            exact f10.symm
        · have f7 := Eq.trans (Eq.symm (if_neg c41)) f5
          have g7 := g5.2 c41
          refine ⟨fun c49 => ?_, fun c49 => ?_⟩
          · have f11 := Eq.trans (Eq.symm (if_neg c49)) f7
            have g11 := g7.1 c49
            exact f11.symm
          · have f11 := Eq.trans (Eq.symm (if_pos c49)) f7
            have g11 := g7.2 c49
            exact f11.symm
      · have f4 := Eq.trans (Eq.symm (if_pos c35)) f2
        have g4 := g2.2 c35
        exact f4.symm
set_option maxRecDepth 100000 in
theorem v_Te_read (t_length : Int32) (t_at : Int32) (t_draft_length : Int32) (t_draft_actions : Int32) (t_draft_site : Int32) (t_draft_exit : Int32) (t_draft_conditional : Int32) (t_draft_there : Int32) (t_draft_on : Int32) (t_draft_failures : Int32) (t_draft_meetings : Int32) (t_characters : Nat → Int32) (t_draft_steps : Nat → Int32) (hp : p_Te_read t_length t_at t_draft_length t_draft_actions t_draft_site t_draft_exit t_draft_conditional t_draft_there t_draft_on t_draft_failures t_draft_meetings t_characters t_draft_steps) : WP_Te_read t_length t_at t_draft_length t_draft_actions t_draft_site t_draft_exit t_draft_conditional t_draft_there t_draft_on t_draft_failures t_draft_meetings t_characters t_draft_steps (fun r u => s_Te_read t_length t_at t_draft_length t_draft_actions t_draft_site t_draft_exit t_draft_conditional t_draft_there t_draft_on t_draft_failures t_draft_meetings t_characters t_draft_steps = (r, u.1, u.2.1, u.2.2.1, u.2.2.2.1, u.2.2.2.2.1, u.2.2.2.2.2.1, u.2.2.2.2.2.2.1, u.2.2.2.2.2.2.2.1, u.2.2.2.2.2.2.2.2.1, u.2.2.2.2.2.2.2.2.2.1, u.2.2.2.2.2.2.2.2.2.2)) := by
  unfold p_Te_read WP_Te_read at hp
  obtain ⟨tgt, f0⟩ : ∃ tgt, s_Te_read t_length t_at t_draft_length t_draft_actions t_draft_site t_draft_exit t_draft_conditional t_draft_there t_draft_on t_draft_failures t_draft_meetings t_characters t_draft_steps = tgt := ⟨_, rfl⟩
  rw [f0]
  unfold s_Te_read at f0
  unfold WP_Te_read
  intro m4 m5 m6 m7 m8 m9 m10 m11 m12 e3
  have g1 := hp m4 m5 m6 m7 m8 m9 m10 m11 m12 e3
  have f1 := Eq.trans (Eq.symm (zl2_eq e3)) f0
  have f1 := Eq.trans (Eq.symm (zl2_eq (Eq.refl (m5, m6, m7, m8, m9, m10, m11, m12)))) f1
  have f1 := Eq.trans (Eq.symm (zl2_eq (Eq.refl (m6, m7, m8, m9, m10, m11, m12)))) f1
  have f1 := Eq.trans (Eq.symm (zl2_eq (Eq.refl (m7, m8, m9, m10, m11, m12)))) f1
  have f1 := Eq.trans (Eq.symm (zl2_eq (Eq.refl (m8, m9, m10, m11, m12)))) f1
  have f1 := Eq.trans (Eq.symm (zl2_eq (Eq.refl (m9, m10, m11, m12)))) f1
  have f1 := Eq.trans (Eq.symm (zl2_eq (Eq.refl (m10, m11, m12)))) f1
  have f1 := Eq.trans (Eq.symm (zl2_eq (Eq.refl (m11, m12)))) f1
  refine ⟨g1.1, ?_⟩
  have g3 := g1.2
  intro r14 m17 m18 m19 m20 m21 m22 e16
  have g2 := g3 r14 m17 m18 m19 m20 m21 m22 e16
  have f2 := Eq.trans (Eq.symm (zl2_eq e16)) f1
  have f2 := Eq.trans (Eq.symm (zl2_eq (Eq.refl (m17, m18, m19, m20, m21, m22)))) f2
  have f2 := Eq.trans (Eq.symm (zl2_eq (Eq.refl (m18, m19, m20, m21, m22)))) f2
  have f2 := Eq.trans (Eq.symm (zl2_eq (Eq.refl (m19, m20, m21, m22)))) f2
  have f2 := Eq.trans (Eq.symm (zl2_eq (Eq.refl (m20, m21, m22)))) f2
  have f2 := Eq.trans (Eq.symm (zl2_eq (Eq.refl (m21, m22)))) f2
  refine ⟨fun c24 => ?_, fun c24 => ?_⟩
  · have f4 := Eq.trans (Eq.symm (if_neg c24)) f2
    have g4 := g2.1 c24
    exact v_Te_read_L23 600 (0 : Int32) t_length m17 m18 m5 m19 m20 m21 m9 m10 m11 m12 t_characters m22 _ f4 g4
  · have f4 := Eq.trans (Eq.symm (if_pos c24)) f2
    have g4 := g2.2 c24
    exact f4.symm
theorem c_Te_read (l : Launch) (D : va_G) (K : Nat → ClassId) (q_t : Nat) (q_t_characters : Nat) (q_t_draft : Nat) (q_t_draft_steps : Nat) (t_length : Int32) (t_at : Int32) (t_draft_length : Int32) (t_draft_actions : Int32) (t_draft_site : Int32) (t_draft_exit : Int32) (t_draft_conditional : Int32) (t_draft_there : Int32) (t_draft_on : Int32) (t_draft_failures : Int32) (t_draft_meetings : Int32) (t_characters : Nat → Int32) (t_draft_steps : Nat → Int32) (hp : p_Te_read t_length t_at t_draft_length t_draft_actions t_draft_site t_draft_exit t_draft_conditional t_draft_there t_draft_on t_draft_failures t_draft_meetings t_characters t_draft_steps) : zCi l y_Te_read wy_Te_read rm_Te_read D zcl (zT K) [.ref q_t] (w_Te_read K q_t q_t_characters q_t_draft q_t_draft_steps t_length t_characters (t_at, t_draft_length, t_draft_actions, t_draft_site, t_draft_exit, t_draft_conditional, t_draft_there, t_draft_on, t_draft_failures, t_draft_meetings, t_draft_steps)) (w_Te_read K q_t q_t_characters q_t_draft q_t_draft_steps t_length t_characters) (fun r u => s_Te_read t_length t_at t_draft_length t_draft_actions t_draft_site t_draft_exit t_draft_conditional t_draft_there t_draft_on t_draft_failures t_draft_meetings t_characters t_draft_steps = (r, u.1, u.2.1, u.2.2.1, u.2.2.2.1, u.2.2.2.2.1, u.2.2.2.2.2.1, u.2.2.2.2.2.2.1, u.2.2.2.2.2.2.2.1, u.2.2.2.2.2.2.2.2.1, u.2.2.2.2.2.2.2.2.2.1, u.2.2.2.2.2.2.2.2.2.2)) 0 0 := cw_Te_read l D K q_t q_t_characters q_t_draft q_t_draft_steps t_length t_at t_draft_length t_draft_actions t_draft_site t_draft_exit t_draft_conditional t_draft_there t_draft_on t_draft_failures t_draft_meetings t_characters t_draft_steps (v_Te_read t_length t_at t_draft_length t_draft_actions t_draft_site t_draft_exit t_draft_conditional t_draft_there t_draft_on t_draft_failures t_draft_meetings t_characters t_draft_steps hp)
