-- RuleTracer$Gatherer.binOf(D)I: reads [], changes []
abbrev w_Ga_binOf (K : Nat → ClassId)   (u : Unit) : va_W := []
abbrev rm_Ga_binOf : Room := { frames := 0, cells := 0, slots := 0, locals := 0 }
abbrev wy_Ga_binOf : List Cond := .code y_Ga_binOf b_Ga_binOf 5 (some .int) :: zWT
def WP_Ga_binOf_L5 : Nat → UInt64 → UInt64 → Int32 → (Int32 → Unit → Prop) → Prop
  | 0, _, _, _, _ => False
  | n + 1, y0, y2, y4, Q => (((7 : Int32) ≤ y4) → Q (7 : Int32) ()) ∧ ((¬ (7 : Int32) ≤ y4) → ((0 ≤ (Op.cmpValue (FP.dcmp y0 y2) .g)) → vf_n64 (FP.dmul y2 (4611686018427387904 : UInt64)) ∧ WP_Ga_binOf_L5 n y0 (FP.dmul y2 (4611686018427387904 : UInt64)) (y4 + (1 : Int32)) Q) ∧ ((¬ 0 ≤ (Op.cmpValue (FP.dcmp y0 y2) .g)) → Q y4 ()))
def WP_Ga_binOf (x0 : UInt64) (Q : Int32 → Unit → Prop) : Prop := WP_Ga_binOf_L5 600 x0 FP.dconst1 (0 : Int32) Q
set_option maxHeartbeats 4000000 in
set_option maxRecDepth 100000 in
theorem lw_Ga_binOf_L5 {p : Program} {e : Env} {s : State} {m : MethodId} {args : Array Value} {below : List Frame} {meth : Method} {c : Code} {A : Nat → Prop} (l : Launch) (D : va_G) (K : Nat → ClassId)   {Q : Int32 → Unit → Prop} (C : zCx p s m args c b_Ga_binOf 5 R_Ga zWT D zcl (zT K) A) (hr : meth.sig.returnType = (some .int)) (hlk : meth.locks = false) : ∀ (n : Nat) (y0 : UInt64) (y2 : UInt64) (y4 : Int32), WP_Ga_binOf_L5 n y0 y2 y4 Q → zW p l e (headSpec wy_Ga_binOf rm_Ga_binOf).room s m args below meth c D zcl A 5 0 0 (MQ below (va_Qi Q (zB D zcl (zT K) (w_Ga_binOf K) A) A) args s 0 0 A) [(0, .double y0), (2, .double y2), (4, .int y4)] [] 5 [] := by
  intro n
  induction n with
  | zero => intros; contradiction
  | succ n ih =>
    intro y0 y2 y4 hS0
    refine z_iload C d_Ga_binOf_5 2 rfl ?_
    refine z_bipush (v := (7 : Int32)) C d_Ga_binOf_7 (by decide) ?_
    refine z_icmp_ge (tgt := 33) C d_Ga_binOf_9 (by decide) (fun c1 => ?_) (fun c1 => ?_)
    · have hS2 := hS0.1 c1
      refine z_bipush (v := (7 : Int32)) C d_Ga_binOf_33 (by decide) ?_
      exact z_iret C hr hlk () rfl hS2 d_Ga_binOf_35
    · have hS2 := hS0.2 c1
      refine z_dload_n C d_Ga_binOf_12 rfl 0 rfl ?_
      refine z_dload_n C d_Ga_binOf_13 rfl 1 rfl ?_
      refine z_dcmp C d_Ga_binOf_14 ?_
      refine z_if_ge (tgt := 21) C d_Ga_binOf_15 (by decide) (fun c3 => ?_) (fun c3 => ?_)
      · have hS4 := hS2.1 c3
        refine z_dload_n C d_Ga_binOf_21 rfl 1 rfl ?_
        refine z_ldc2d C d_Ga_binOf_22 wd_Ga_43 ?_
        refine z_dmul C d_Ga_binOf_25 hS4.1 ?_
        have hS5 := hS4.2
        refine z_dstore_n (lv' := [(2, .double (FP.dmul y2 (4611686018427387904 : UInt64))), (0, .double y0), (4, .int y4)]) C d_Ga_binOf_26 rfl (by decide) rfl ?_
        refine z_iinc (j := 2) (v := y4 + (1 : Int32)) (lv' := [(4, .int (y4 + (1 : Int32))), (2, .double (FP.dmul y2 (4611686018427387904 : UInt64))), (0, .double y0)]) C d_Ga_binOf_27 rfl rfl (by decide) rfl ?_
        refine z_goto (tgt := 5) C d_Ga_binOf_30 (by decide) ?_
        refine z_lpick (lv' := [(0, .double y0), (2, .double (FP.dmul y2 (4611686018427387904 : UInt64))), (4, .int (y4 + (1 : Int32)))]) [2, 1, 0] rfl ?_
        exact ih y0 (FP.dmul y2 (4611686018427387904 : UInt64)) (y4 + (1 : Int32)) hS5
      · have hS4 := hS2.2 c3
        refine z_iload C d_Ga_binOf_18 2 rfl ?_
        exact z_iret C hr hlk () rfl hS4 d_Ga_binOf_20
set_option maxHeartbeats 4000000 in
set_option maxRecDepth 100000 in
theorem cw_Ga_binOf (l : Launch) (D : va_G) (K : Nat → ClassId)  (x0 : UInt64) {Q : Int32 → Unit → Prop} (hS0 : WP_Ga_binOf x0 Q) : zCi l y_Ga_binOf wy_Ga_binOf rm_Ga_binOf D zcl (zT K) [.double x0] (w_Ga_binOf K ()) (w_Ga_binOf K) Q 0 0 := by
  refine z_meti (cc := b_Ga_binOf) (maxL := 5) (ret := (some .int)) (by decide) rfl (Nat.le_of_ble_eq_true rfl) ?_
  intro p e s m args below meth c A C hr hlk hnm
  refine z_lpick (lv' := [(0, .double x0)]) [0] rfl ?_
  refine z_weq (ws' := []) rfl ?_
  refine z_dconst1 C d_Ga_binOf_0 ?_
  refine z_dstore_n (lv' := [(2, .double FP.dconst1), (0, .double x0)]) C d_Ga_binOf_1 rfl (by decide) rfl ?_
  refine z_iconst (v := (0 : Int32)) C d_Ga_binOf_2 (by decide) ?_
  refine z_istore (lv' := [(4, .int (0 : Int32)), (2, .double FP.dconst1), (0, .double x0)]) C d_Ga_binOf_3 (by decide) rfl ?_
  refine z_lpick (lv' := [(0, .double x0), (2, .double FP.dconst1), (4, .int (0 : Int32))]) [2, 1, 0] rfl ?_
  exact lw_Ga_binOf_L5 l D K C hr hlk 600 x0 FP.dconst1 (0 : Int32) hS0
def s_Ga_binOf_L5 : Nat → UInt64 → UInt64 → Int32 → Int32
  | 0, _, _, _ => 0
  | n + 1, y0, y2, y4 => (if (7 : Int32) ≤ y4 then (7 : Int32) else (if 0 ≤ (Op.cmpValue (FP.dcmp y0 y2) .g) then s_Ga_binOf_L5 n y0 (FP.dmul y2 (4611686018427387904 : UInt64)) (y4 + (1 : Int32)) else y4))
def s_Ga_binOf (x0 : UInt64) : Int32 := s_Ga_binOf_L5 600 x0 FP.dconst1 (0 : Int32)
def p_Ga_binOf (x0 : UInt64) : Prop := WP_Ga_binOf x0 (fun _ _ => True)
set_option maxRecDepth 100000 in
theorem v_Ga_binOf_L5 : ∀ (n : Nat) (y0 : UInt64) (y2 : UInt64) (y4 : Int32) (tgt : Int32), s_Ga_binOf_L5 n y0 y2 y4 = tgt → WP_Ga_binOf_L5 n y0 y2 y4 (fun _ _ => True) → WP_Ga_binOf_L5 n y0 y2 y4 (fun r u => tgt = r) := by
  intro n
  induction n with
  | zero => intros; contradiction
  | succ n ih =>
    intro y0 y2 y4 tgt f0 hp
    unfold s_Ga_binOf_L5 at f0
    unfold WP_Ga_binOf_L5 at hp ⊢
    refine ⟨fun c1 => ?_, fun c1 => ?_⟩
    · have f1 := Eq.trans (Eq.symm (if_pos c1)) f0
      have g1 := hp.1 c1
      exact f1.symm
    · have f1 := Eq.trans (Eq.symm (if_neg c1)) f0
      have g1 := hp.2 c1
      refine ⟨fun c3 => ?_, fun c3 => ?_⟩
      · have f2 := Eq.trans (Eq.symm (if_pos c3)) f1
        have g2 := g1.1 c3
        refine ⟨g2.1, ?_⟩
        have g3 := g2.2
        exact ih y0 (FP.dmul y2 (4611686018427387904 : UInt64)) (y4 + (1 : Int32)) _ f2 g3
      · have f2 := Eq.trans (Eq.symm (if_neg c3)) f1
        have g2 := g1.2 c3
        exact f2.symm
set_option maxRecDepth 100000 in
theorem v_Ga_binOf (x0 : UInt64) (hp : p_Ga_binOf x0) : WP_Ga_binOf x0 (fun r u => s_Ga_binOf x0 = r) := by
  unfold p_Ga_binOf WP_Ga_binOf at hp
  obtain ⟨tgt, f0⟩ : ∃ tgt, s_Ga_binOf x0 = tgt := ⟨_, rfl⟩
  rw [f0]
  unfold s_Ga_binOf at f0
  unfold WP_Ga_binOf
  exact v_Ga_binOf_L5 600 x0 FP.dconst1 (0 : Int32) _ f0 hp
theorem c_Ga_binOf (l : Launch) (D : va_G) (K : Nat → ClassId)  (x0 : UInt64) (hp : p_Ga_binOf x0) : zCi l y_Ga_binOf wy_Ga_binOf rm_Ga_binOf D zcl (zT K) [.double x0] (w_Ga_binOf K ()) (w_Ga_binOf K) (fun r u => s_Ga_binOf x0 = r) 0 0 := cw_Ga_binOf l D K x0 (v_Ga_binOf x0 hp)
-- RuleTracer$Gatherer.rowOf(I)I: reads ['t.size', 't.keys'], changes []
abbrev w_Ga_rowOf (K : Nat → ClassId) (q_t : Nat) (q_t_keys : Nat) (q_t_least : Nat) (q_t_greatest : Nat) (q_t_sums : Nat) (q_t_values : Nat) (q_t_bins : Nat) (t_size : Int32) (t_keys : Nat → Int32) (u : Unit) : va_W := [zo 0 q_t [.ref q_t_keys, .ref q_t_least, .ref q_t_greatest, .ref q_t_sums, .ref q_t_values, .ref q_t_bins, .int t_size], zaI K q_t_keys 4 t_keys]
abbrev rm_Ga_rowOf : Room := { frames := 0, cells := 0, slots := 0, locals := 0 }
abbrev wy_Ga_rowOf : List Cond := .code y_Ga_rowOf b_Ga_rowOf 3 (some .int) :: zWT
def WP_Ga_rowOf_L2 : Nat → Int32 → Int32 → Int32 → (Nat → Int32) → (Int32 → Unit → Prop) → Prop
  | 0, _, _, _, _, _ => False
  | n + 1, y1, y2, t_size, t_keys, Q => ((t_size ≤ y2) → Q (-1 : Int32) ()) ∧ ((¬ t_size ≤ y2) → (((4 : Int32) ≤ y2) → Q (-1 : Int32) ()) ∧ ((¬ (4 : Int32) ≤ y2) → vp_in y2 4 ∧ ((¬ (t_keys y2.toNatClampNeg) = y1) → WP_Ga_rowOf_L2 n y1 (y2 + (1 : Int32)) t_size t_keys Q) ∧ (((t_keys y2.toNatClampNeg) = y1) → Q y2 ())))
def WP_Ga_rowOf (t_size : Int32) (t_keys : Nat → Int32) (x1 : Int32) (Q : Int32 → Unit → Prop) : Prop := WP_Ga_rowOf_L2 600 x1 (0 : Int32) t_size t_keys Q
set_option maxHeartbeats 4000000 in
set_option maxRecDepth 100000 in
theorem lw_Ga_rowOf_L2 {p : Program} {e : Env} {s : State} {m : MethodId} {args : Array Value} {below : List Frame} {meth : Method} {c : Code} {A : Nat → Prop} (l : Launch) (D : va_G) (K : Nat → ClassId) (q_t : Nat) (q_t_keys : Nat) (q_t_least : Nat) (q_t_greatest : Nat) (q_t_sums : Nat) (q_t_values : Nat) (q_t_bins : Nat) (t_size : Int32) (t_keys : Nat → Int32) {Q : Int32 → Unit → Prop} (C : zCx p s m args c b_Ga_rowOf 3 R_Ga zWT D zcl (zT K) A) (hr : meth.sig.returnType = (some .int)) (hlk : meth.locks = false) : ∀ (n : Nat) (y1 : Int32) (y2 : Int32), WP_Ga_rowOf_L2 n y1 y2 t_size t_keys Q → zW p l e (headSpec wy_Ga_rowOf rm_Ga_rowOf).room s m args below meth c D zcl A 3 0 0 (MQ below (va_Qi Q (zB D zcl (zT K) (w_Ga_rowOf K q_t q_t_keys q_t_least q_t_greatest q_t_sums q_t_values q_t_bins t_size t_keys) A) A) args s 0 0 A) [(0, .ref q_t), (1, .int y1), (2, .int y2)] [zo 0 q_t [.ref q_t_keys, .ref q_t_least, .ref q_t_greatest, .ref q_t_sums, .ref q_t_values, .ref q_t_bins, .int t_size], zaI K q_t_keys 4 t_keys] 2 [] := by
  intro n
  induction n with
  | zero => intros; contradiction
  | succ n ih =>
    intro y1 y2 hS0
    refine z_iload_n C d_Ga_rowOf_2 rfl 2 rfl ?_
    refine z_aload_n C d_Ga_rowOf_3 rfl 0 rfl ?_
    refine z_get C 0 rfl rfl in_Ga 6 (by decide) rfl wf_Ga_31 rfl d_Ga_rowOf_4 ?_
    refine z_icmp_ge (tgt := 33) C d_Ga_rowOf_7 (by decide) (fun c1 => ?_) (fun c1 => ?_)
    · have hS2 := hS0.1 c1
      refine z_iconst (v := (-1 : Int32)) C d_Ga_rowOf_33 (by decide) ?_
      exact z_iret C hr hlk () rfl hS2 d_Ga_rowOf_34
    · have hS2 := hS0.2 c1
      refine z_iload_n C d_Ga_rowOf_10 rfl 2 rfl ?_
      refine z_iconst (v := (4 : Int32)) C d_Ga_rowOf_11 (by decide) ?_
      refine z_icmp_ge (tgt := 33) C d_Ga_rowOf_12 (by decide) (fun c3 => ?_) (fun c3 => ?_)
      · have hS4 := hS2.1 c3
        refine z_iconst (v := (-1 : Int32)) C d_Ga_rowOf_33 (by decide) ?_
        exact z_iret C hr hlk () rfl hS4 d_Ga_rowOf_34
      · have hS4 := hS2.2 c3
        refine z_aload_n C d_Ga_rowOf_15 rfl 0 rfl ?_
        refine z_get C 0 rfl rfl in_Ga 0 (by decide) rfl wf_Ga_9 rfl d_Ga_rowOf_16 ?_
        refine z_iload_n C d_Ga_rowOf_19 rfl 2 rfl ?_
        refine z_iald C 1 0 rfl rfl hS4.1 d_Ga_rowOf_20 ?_
        have hS5 := hS4.2
        refine z_iload_n C d_Ga_rowOf_21 rfl 1 rfl ?_
        refine z_icmp_ne (tgt := 27) C d_Ga_rowOf_22 (by decide) (fun c6 => ?_) (fun c6 => ?_)
        · have hS7 := hS5.1 c6
          refine z_iinc (j := 2) (v := y2 + (1 : Int32)) (lv' := [(2, .int (y2 + (1 : Int32))), (0, .ref q_t), (1, .int y1)]) C d_Ga_rowOf_27 rfl rfl (by decide) rfl ?_
          refine z_goto (tgt := 2) C d_Ga_rowOf_30 (by decide) ?_
          refine z_lpick (lv' := [(0, .ref q_t), (1, .int y1), (2, .int (y2 + (1 : Int32)))]) [1, 2, 0] rfl ?_
          exact ih y1 (y2 + (1 : Int32)) hS7
        · have hS7 := hS5.2 c6
          refine z_iload_n C d_Ga_rowOf_25 rfl 2 rfl ?_
          exact z_iret C hr hlk () rfl hS7 d_Ga_rowOf_26
set_option maxHeartbeats 4000000 in
set_option maxRecDepth 100000 in
theorem cw_Ga_rowOf (l : Launch) (D : va_G) (K : Nat → ClassId) (q_t : Nat) (q_t_keys : Nat) (q_t_least : Nat) (q_t_greatest : Nat) (q_t_sums : Nat) (q_t_values : Nat) (q_t_bins : Nat) (t_size : Int32) (t_keys : Nat → Int32) (x1 : Int32) {Q : Int32 → Unit → Prop} (hS0 : WP_Ga_rowOf t_size t_keys x1 Q) : zCi l y_Ga_rowOf wy_Ga_rowOf rm_Ga_rowOf D zcl (zT K) [.ref q_t, .int x1] (w_Ga_rowOf K q_t q_t_keys q_t_least q_t_greatest q_t_sums q_t_values q_t_bins t_size t_keys ()) (w_Ga_rowOf K q_t q_t_keys q_t_least q_t_greatest q_t_sums q_t_values q_t_bins t_size t_keys) Q 0 0 := by
  refine z_meti (cc := b_Ga_rowOf) (maxL := 3) (ret := (some .int)) (by decide) rfl (Nat.le_of_ble_eq_true rfl) ?_
  intro p e s m args below meth c A C hr hlk hnm
  refine z_lpick (lv' := [(0, .ref q_t), (1, .int x1)]) [0, 1] rfl ?_
  refine z_weq (ws' := [zo 0 q_t [.ref q_t_keys, .ref q_t_least, .ref q_t_greatest, .ref q_t_sums, .ref q_t_values, .ref q_t_bins, .int t_size], zaI K q_t_keys 4 t_keys]) rfl ?_
  refine z_iconst (v := (0 : Int32)) C d_Ga_rowOf_0 (by decide) ?_
  refine z_istore_n (lv' := [(2, .int (0 : Int32)), (0, .ref q_t), (1, .int x1)]) C d_Ga_rowOf_1 rfl (by decide) rfl ?_
  refine z_lpick (lv' := [(0, .ref q_t), (1, .int x1), (2, .int (0 : Int32))]) [1, 2, 0] rfl ?_
  exact lw_Ga_rowOf_L2 l D K q_t q_t_keys q_t_least q_t_greatest q_t_sums q_t_values q_t_bins t_size t_keys C hr hlk 600 x1 (0 : Int32) hS0
def s_Ga_rowOf_L2 : Nat → Int32 → Int32 → Int32 → (Nat → Int32) → Int32
  | 0, _, _, _, _ => 0
  | n + 1, y1, y2, t_size, t_keys => (if t_size ≤ y2 then (-1 : Int32) else (if (4 : Int32) ≤ y2 then (-1 : Int32) else (if (t_keys y2.toNatClampNeg) = y1 then y2 else s_Ga_rowOf_L2 n y1 (y2 + (1 : Int32)) t_size t_keys)))
def s_Ga_rowOf (t_size : Int32) (t_keys : Nat → Int32) (x1 : Int32) : Int32 := s_Ga_rowOf_L2 600 x1 (0 : Int32) t_size t_keys
def p_Ga_rowOf (t_size : Int32) (t_keys : Nat → Int32) (x1 : Int32) : Prop := WP_Ga_rowOf t_size t_keys x1 (fun _ _ => True)
set_option maxRecDepth 100000 in
theorem v_Ga_rowOf_L2 : ∀ (n : Nat) (y1 : Int32) (y2 : Int32) (t_size : Int32) (t_keys : Nat → Int32) (tgt : Int32), s_Ga_rowOf_L2 n y1 y2 t_size t_keys = tgt → WP_Ga_rowOf_L2 n y1 y2 t_size t_keys (fun _ _ => True) → WP_Ga_rowOf_L2 n y1 y2 t_size t_keys (fun r u => tgt = r) := by
  intro n
  induction n with
  | zero => intros; contradiction
  | succ n ih =>
    intro y1 y2 t_size t_keys tgt f0 hp
    unfold s_Ga_rowOf_L2 at f0
    unfold WP_Ga_rowOf_L2 at hp ⊢
    refine ⟨fun c1 => ?_, fun c1 => ?_⟩
    · have f1 := Eq.trans (Eq.symm (if_pos c1)) f0
      have g1 := hp.1 c1
      exact f1.symm
    · have f1 := Eq.trans (Eq.symm (if_neg c1)) f0
      have g1 := hp.2 c1
      refine ⟨fun c3 => ?_, fun c3 => ?_⟩
      · have f2 := Eq.trans (Eq.symm (if_pos c3)) f1
        have g2 := g1.1 c3
        exact f2.symm
      · have f2 := Eq.trans (Eq.symm (if_neg c3)) f1
        have g2 := g1.2 c3
        refine ⟨g2.1, ?_⟩
        have g3 := g2.2
        refine ⟨fun c6 => ?_, fun c6 => ?_⟩
        · have f4 := Eq.trans (Eq.symm (if_neg c6)) f2
          have g4 := g3.1 c6
          exact ih y1 (y2 + (1 : Int32)) t_size t_keys _ f4 g4
        · have f4 := Eq.trans (Eq.symm (if_pos c6)) f2
          have g4 := g3.2 c6
          exact f4.symm
set_option maxRecDepth 100000 in
theorem v_Ga_rowOf (t_size : Int32) (t_keys : Nat → Int32) (x1 : Int32) (hp : p_Ga_rowOf t_size t_keys x1) : WP_Ga_rowOf t_size t_keys x1 (fun r u => s_Ga_rowOf t_size t_keys x1 = r) := by
  unfold p_Ga_rowOf WP_Ga_rowOf at hp
  obtain ⟨tgt, f0⟩ : ∃ tgt, s_Ga_rowOf t_size t_keys x1 = tgt := ⟨_, rfl⟩
  rw [f0]
  unfold s_Ga_rowOf at f0
  unfold WP_Ga_rowOf
  exact v_Ga_rowOf_L2 600 x1 (0 : Int32) t_size t_keys _ f0 hp
theorem c_Ga_rowOf (l : Launch) (D : va_G) (K : Nat → ClassId) (q_t : Nat) (q_t_keys : Nat) (q_t_least : Nat) (q_t_greatest : Nat) (q_t_sums : Nat) (q_t_values : Nat) (q_t_bins : Nat) (t_size : Int32) (t_keys : Nat → Int32) (x1 : Int32) (hp : p_Ga_rowOf t_size t_keys x1) : zCi l y_Ga_rowOf wy_Ga_rowOf rm_Ga_rowOf D zcl (zT K) [.ref q_t, .int x1] (w_Ga_rowOf K q_t q_t_keys q_t_least q_t_greatest q_t_sums q_t_values q_t_bins t_size t_keys ()) (w_Ga_rowOf K q_t q_t_keys q_t_least q_t_greatest q_t_sums q_t_values q_t_bins t_size t_keys) (fun r u => s_Ga_rowOf t_size t_keys x1 = r) 0 0 := cw_Ga_rowOf l D K q_t q_t_keys q_t_least q_t_greatest q_t_sums q_t_values q_t_bins t_size t_keys x1 (v_Ga_rowOf t_size t_keys x1 hp)
-- RuleTracer$Gatherer.rowFor(I)I: reads ['t.size', 't.keys'], changes ['t.size', 't.keys']
abbrev w_Ga_rowFor (K : Nat → ClassId) (q_t : Nat) (q_t_keys : Nat) (q_t_least : Nat) (q_t_greatest : Nat) (q_t_sums : Nat) (q_t_values : Nat) (q_t_bins : Nat)  (u : Int32 × (Nat → Int32)) : va_W := [zo 0 q_t [.ref q_t_keys, .ref q_t_least, .ref q_t_greatest, .ref q_t_sums, .ref q_t_values, .ref q_t_bins, .int u.1], zaI K q_t_keys 4 u.2]
abbrev rm_Ga_rowFor : Room := { frames := 1, cells := 0, slots := 0, locals := 22 }
abbrev wy_Ga_rowFor : List Cond := .code y_Ga_rowFor b_Ga_rowFor 3 (some .int) :: zWT
def WP_Ga_rowFor (t_size : Int32) (t_keys : Nat → Int32) (x1 : Int32) (Q : Int32 → (Int32 × (Nat → Int32)) → Prop) : Prop := p_Ga_rowOf t_size t_keys x1 ∧ (∀ (r1 : Int32), s_Ga_rowOf t_size t_keys x1 = r1 → ((0 ≤ r1) → Q r1 (t_size, t_keys)) ∧ ((¬ 0 ≤ r1) → ((t_size < (4 : Int32)) → vp_in t_size 4 ∧ Q ((t_size + (1 : Int32)) - (1 : Int32)) (t_size + (1 : Int32), upd t_keys t_size.toNatClampNeg x1)) ∧ ((¬ t_size < (4 : Int32)) → Q r1 (t_size, t_keys))))
set_option maxHeartbeats 4000000 in
set_option maxRecDepth 100000 in
theorem cw_Ga_rowFor (l : Launch) (D : va_G) (K : Nat → ClassId) (q_t : Nat) (q_t_keys : Nat) (q_t_least : Nat) (q_t_greatest : Nat) (q_t_sums : Nat) (q_t_values : Nat) (q_t_bins : Nat) (t_size : Int32) (t_keys : Nat → Int32) (x1 : Int32) {Q : Int32 → (Int32 × (Nat → Int32)) → Prop} (hS0 : WP_Ga_rowFor t_size t_keys x1 Q) : zCi l y_Ga_rowFor wy_Ga_rowFor rm_Ga_rowFor D zcl (zT K) [.ref q_t, .int x1] (w_Ga_rowFor K q_t q_t_keys q_t_least q_t_greatest q_t_sums q_t_values q_t_bins (t_size, t_keys)) (w_Ga_rowFor K q_t q_t_keys q_t_least q_t_greatest q_t_sums q_t_values q_t_bins) Q 0 0 := by
  refine z_meti (cc := b_Ga_rowFor) (maxL := 3) (ret := (some .int)) (by decide) rfl (Nat.le_of_ble_eq_true rfl) ?_
  intro p e s m args below meth c A C hr hlk hnm
  refine z_lpick (lv' := [(0, .ref q_t), (1, .int x1)]) [0, 1] rfl ?_
  refine z_weq (ws' := [zo 0 q_t [.ref q_t_keys, .ref q_t_least, .ref q_t_greatest, .ref q_t_sums, .ref q_t_values, .ref q_t_bins, .int t_size], zaI K q_t_keys 4 t_keys]) rfl ?_
  refine z_aload_n C d_Ga_rowFor_0 rfl 0 rfl ?_
  refine z_iload_n C d_Ga_rowFor_1 rfl 1 rfl ?_
  refine z_callVi (As := [.int x1]) (b := q_t) (st := []) (wr := []) (wj := fun u => [zo 0 q_t [.ref q_t_keys, .ref q_t_least, .ref q_t_greatest, .ref q_t_sums, .ref q_t_values, .ref q_t_bins, .int t_size], zaI K q_t_keys 4 t_keys]) C 0 rfl rfl (c_Ga_rowOf l D K q_t q_t_keys q_t_least q_t_greatest q_t_sums q_t_values q_t_bins t_size t_keys x1 hS0.1) (cwV 1 C.2.2.2.2.1 (z_gV wl_Ga_35 wi_Ga_rowOf wv_Ga_rowOf wz_Ga wk_Ga_rowOf) rfl rfl rfl (by decide +kernel) ⟨Nat.le_of_ble_eq_true rfl, Nat.le_of_ble_eq_true rfl⟩) [0, 1] [] [0, 1] rfl rfl rfl rfl (by decide) (fun _ => rfl) rfl rfl rfl (Nat.le_of_ble_eq_true rfl) d_Ga_rowFor_2 ⟨Nat.le_of_ble_eq_true rfl, Nat.le_of_ble_eq_true rfl⟩ (fun r1 u2 e3 => ?_)
  have hS4 := hS0.2 r1 e3
  refine z_istore_n (lv' := [(2, .int r1), (0, .ref q_t), (1, .int x1)]) C d_Ga_rowFor_5 rfl (by decide) rfl ?_
  refine z_iload_n C d_Ga_rowFor_6 rfl 0 rfl ?_
  refine z_if_ge (tgt := 18) C d_Ga_rowFor_7 (by decide) (fun c5 => ?_) (fun c5 => ?_)
  · have hS6 := hS4.1 c5
    refine z_iload_n C d_Ga_rowFor_18 rfl 0 rfl ?_
    exact z_iret C hr hlk (t_size, t_keys) rfl hS6 d_Ga_rowFor_19
  · have hS6 := hS4.2 c5
    refine z_aload_n C d_Ga_rowFor_10 rfl 1 rfl ?_
    refine z_get C 0 rfl rfl in_Ga 6 (by decide) rfl wf_Ga_31 rfl d_Ga_rowFor_11 ?_
    refine z_iconst (v := (4 : Int32)) C d_Ga_rowFor_14 (by decide) ?_
    refine z_icmp_lt (tgt := 20) C d_Ga_rowFor_15 (by decide) (fun c7 => ?_) (fun c7 => ?_)
    · have hS8 := hS6.1 c7
      refine z_aload_n C d_Ga_rowFor_20 rfl 1 rfl ?_
      refine z_get C 0 rfl rfl in_Ga 0 (by decide) rfl wf_Ga_9 rfl d_Ga_rowFor_21 ?_
      refine z_aload_n C d_Ga_rowFor_24 rfl 1 rfl ?_
      refine z_get C 0 rfl rfl in_Ga 6 (by decide) rfl wf_Ga_31 rfl d_Ga_rowFor_25 ?_
      refine z_iload_n C d_Ga_rowFor_28 rfl 2 rfl ?_
      refine z_iast (ws' := [zo 0 q_t [.ref q_t_keys, .ref q_t_least, .ref q_t_greatest, .ref q_t_sums, .ref q_t_values, .ref q_t_bins, .int t_size], zaI K q_t_keys 4 (upd t_keys t_size.toNatClampNeg x1)]) C 1 0 rfl rfl hS8.1 rfl d_Ga_rowFor_29 ?_
      have hS9 := hS8.2
      refine z_aload_n C d_Ga_rowFor_30 rfl 1 rfl ?_
      refine z_dup C d_Ga_rowFor_31 rfl ?_
      refine z_get C 0 rfl rfl in_Ga 6 (by decide) rfl wf_Ga_31 rfl d_Ga_rowFor_32 ?_
      refine z_iconst (v := (1 : Int32)) C d_Ga_rowFor_35 (by decide) ?_
      refine z_iadd C d_Ga_rowFor_36 ?_
      refine z_put (ty := .int) (ws' := [zo 0 q_t [.ref q_t_keys, .ref q_t_least, .ref q_t_greatest, .ref q_t_sums, .ref q_t_values, .ref q_t_bins, .int (t_size + (1 : Int32))], zaI K q_t_keys 4 (upd t_keys t_size.toNatClampNeg x1)]) C ty_Ga to_Ga nm_Ga 0 rfl rfl in_Ga 6 (by decide) rfl wf_Ga_31 rfl rfl rfl rfl (Nat.le_of_ble_eq_true rfl) rfl d_Ga_rowFor_37 ?_
      refine z_aload_n C d_Ga_rowFor_40 rfl 1 rfl ?_
      refine z_get C 0 rfl rfl in_Ga 6 (by decide) rfl wf_Ga_31 rfl d_Ga_rowFor_41 ?_
      refine z_iconst (v := (1 : Int32)) C d_Ga_rowFor_44 (by decide) ?_
      refine z_isub C d_Ga_rowFor_45 ?_
      exact z_iret C hr hlk (t_size + (1 : Int32), upd t_keys t_size.toNatClampNeg x1) rfl hS9 d_Ga_rowFor_46
    · have hS8 := hS6.2 c7
      refine z_iload_n C d_Ga_rowFor_18 rfl 0 rfl ?_
      exact z_iret C hr hlk (t_size, t_keys) rfl hS8 d_Ga_rowFor_19
def s_Ga_rowFor (t_size : Int32) (t_keys : Nat → Int32) (x1 : Int32) : Int32 × Int32 × (Nat → Int32) := (zl1 (s_Ga_rowOf t_size t_keys x1) fun r1 => (if 0 ≤ r1 then (r1, t_size, t_keys) else (if t_size < (4 : Int32) then ((t_size + (1 : Int32)) - (1 : Int32), t_size + (1 : Int32), upd t_keys t_size.toNatClampNeg x1) else (r1, t_size, t_keys))))
def p_Ga_rowFor (t_size : Int32) (t_keys : Nat → Int32) (x1 : Int32) : Prop := WP_Ga_rowFor t_size t_keys x1 (fun _ _ => True)
set_option maxRecDepth 100000 in
theorem v_Ga_rowFor (t_size : Int32) (t_keys : Nat → Int32) (x1 : Int32) (hp : p_Ga_rowFor t_size t_keys x1) : WP_Ga_rowFor t_size t_keys x1 (fun r u => s_Ga_rowFor t_size t_keys x1 = (r, u.1, u.2)) := by
  unfold p_Ga_rowFor WP_Ga_rowFor at hp
  obtain ⟨tgt, f0⟩ : ∃ tgt, s_Ga_rowFor t_size t_keys x1 = tgt := ⟨_, rfl⟩
  rw [f0]
  unfold s_Ga_rowFor at f0
  unfold WP_Ga_rowFor
  refine ⟨hp.1, ?_⟩
  have g2 := hp.2
  intro r1 e3
  have g1 := g2 r1 e3
  have f1 := Eq.trans (Eq.symm (zl1_eq e3)) f0
  refine ⟨fun c5 => ?_, fun c5 => ?_⟩
  · have f3 := Eq.trans (Eq.symm (if_pos c5)) f1
    have g3 := g1.1 c5
    exact f3.symm
  · have f3 := Eq.trans (Eq.symm (if_neg c5)) f1
    have g3 := g1.2 c5
    refine ⟨fun c7 => ?_, fun c7 => ?_⟩
    · have f4 := Eq.trans (Eq.symm (if_pos c7)) f3
      have g4 := g3.1 c7
      refine ⟨g4.1, ?_⟩
      have g5 := g4.2
      exact f4.symm
    · have f4 := Eq.trans (Eq.symm (if_neg c7)) f3
      have g4 := g3.2 c7
      exact f4.symm
theorem c_Ga_rowFor (l : Launch) (D : va_G) (K : Nat → ClassId) (q_t : Nat) (q_t_keys : Nat) (q_t_least : Nat) (q_t_greatest : Nat) (q_t_sums : Nat) (q_t_values : Nat) (q_t_bins : Nat) (t_size : Int32) (t_keys : Nat → Int32) (x1 : Int32) (hp : p_Ga_rowFor t_size t_keys x1) : zCi l y_Ga_rowFor wy_Ga_rowFor rm_Ga_rowFor D zcl (zT K) [.ref q_t, .int x1] (w_Ga_rowFor K q_t q_t_keys q_t_least q_t_greatest q_t_sums q_t_values q_t_bins (t_size, t_keys)) (w_Ga_rowFor K q_t q_t_keys q_t_least q_t_greatest q_t_sums q_t_values q_t_bins) (fun r u => s_Ga_rowFor t_size t_keys x1 = (r, u.1, u.2)) 0 0 := cw_Ga_rowFor l D K q_t q_t_keys q_t_least q_t_greatest q_t_sums q_t_values q_t_bins t_size t_keys x1 (v_Ga_rowFor t_size t_keys x1 hp)
-- RuleTracer$Gatherer.add(ID)V: reads ['t.values', 't.sums', 't.bins', 't.least', 't.greatest'], changes ['t.values', 't.sums', 't.bins', 't.least', 't.greatest']
abbrev w_Ga_add (K : Nat → ClassId) (q_t : Nat) (q_t_keys : Nat) (q_t_least : Nat) (q_t_greatest : Nat) (q_t_sums : Nat) (q_t_values : Nat) (q_t_bins : Nat) (t_size : Int32) (u : (Nat → Int32) × (Nat → UInt64) × (Nat → Int32) × (Nat → UInt64) × (Nat → UInt64)) : va_W := [zo 0 q_t [.ref q_t_keys, .ref q_t_least, .ref q_t_greatest, .ref q_t_sums, .ref q_t_values, .ref q_t_bins, .int t_size], zaI K q_t_values 4 u.1, zaD K q_t_sums 4 u.2.1, zaI K q_t_bins 32 u.2.2.1, zaD K q_t_least 4 u.2.2.2.1, zaD K q_t_greatest 4 u.2.2.2.2]
abbrev rm_Ga_add : Room := { frames := 1, cells := 0, slots := 0, locals := 24 }
abbrev wy_Ga_add : List Cond := .code y_Ga_add b_Ga_add 5 none :: zWT
def WP_Ga_add (t_values : Nat → Int32) (t_sums : Nat → UInt64) (t_bins : Nat → Int32) (t_least : Nat → UInt64) (t_greatest : Nat → UInt64) (x1 : Int32) (x2 : UInt64) (Q : ((Nat → Int32) × (Nat → UInt64) × (Nat → Int32) × (Nat → UInt64) × (Nat → UInt64)) → Prop) : Prop := vp_in x1 4 ∧ ((¬ (t_values x1.toNatClampNeg) = 0) → vp_in x1 4 ∧ vp_in x1 4 ∧ vp_in x1 4 ∧ vf_n64 (FP.dadd (t_sums x1.toNatClampNeg) x2) ∧ vp_in x1 4 ∧ p_Ga_binOf x2 ∧ (∀ (r9 : Int32), s_Ga_binOf x2 = r9 → vp_in ((x1 * (8 : Int32)) + r9) 32 ∧ vp_in ((x1 * (8 : Int32)) + r9) 32 ∧ vp_in x1 4 ∧ ((0 ≤ (Op.cmpValue (FP.dcmp x2 (t_least x1.toNatClampNeg)) .g)) → vp_in x1 4 ∧ vp_in x1 4 ∧ vp_in x1 4 ∧ (((Op.cmpValue (FP.dcmp x2 (t_greatest x1.toNatClampNeg)) .l) ≤ 0) → vp_in x1 4 ∧ vp_in x1 4 ∧ Q (upd t_values x1.toNatClampNeg ((t_values x1.toNatClampNeg) + (1 : Int32)), vf_upd t_sums x1.toNatClampNeg (FP.dadd (t_sums x1.toNatClampNeg) x2), upd t_bins ((x1 * (8 : Int32)) + r9).toNatClampNeg ((t_bins ((x1 * (8 : Int32)) + r9).toNatClampNeg) + (1 : Int32)), vf_upd t_least x1.toNatClampNeg (t_least x1.toNatClampNeg), vf_upd t_greatest x1.toNatClampNeg (t_greatest x1.toNatClampNeg))) ∧ ((¬ (Op.cmpValue (FP.dcmp x2 (t_greatest x1.toNatClampNeg)) .l) ≤ 0) → vp_in x1 4 ∧ Q (upd t_values x1.toNatClampNeg ((t_values x1.toNatClampNeg) + (1 : Int32)), vf_upd t_sums x1.toNatClampNeg (FP.dadd (t_sums x1.toNatClampNeg) x2), upd t_bins ((x1 * (8 : Int32)) + r9).toNatClampNeg ((t_bins ((x1 * (8 : Int32)) + r9).toNatClampNeg) + (1 : Int32)), vf_upd t_least x1.toNatClampNeg (t_least x1.toNatClampNeg), vf_upd t_greatest x1.toNatClampNeg x2))) ∧ ((¬ 0 ≤ (Op.cmpValue (FP.dcmp x2 (t_least x1.toNatClampNeg)) .g)) → vp_in x1 4 ∧ vp_in x1 4 ∧ (((Op.cmpValue (FP.dcmp x2 (t_greatest x1.toNatClampNeg)) .l) ≤ 0) → vp_in x1 4 ∧ vp_in x1 4 ∧ Q (upd t_values x1.toNatClampNeg ((t_values x1.toNatClampNeg) + (1 : Int32)), vf_upd t_sums x1.toNatClampNeg (FP.dadd (t_sums x1.toNatClampNeg) x2), upd t_bins ((x1 * (8 : Int32)) + r9).toNatClampNeg ((t_bins ((x1 * (8 : Int32)) + r9).toNatClampNeg) + (1 : Int32)), vf_upd t_least x1.toNatClampNeg x2, vf_upd t_greatest x1.toNatClampNeg (t_greatest x1.toNatClampNeg))) ∧ ((¬ (Op.cmpValue (FP.dcmp x2 (t_greatest x1.toNatClampNeg)) .l) ≤ 0) → vp_in x1 4 ∧ Q (upd t_values x1.toNatClampNeg ((t_values x1.toNatClampNeg) + (1 : Int32)), vf_upd t_sums x1.toNatClampNeg (FP.dadd (t_sums x1.toNatClampNeg) x2), upd t_bins ((x1 * (8 : Int32)) + r9).toNatClampNeg ((t_bins ((x1 * (8 : Int32)) + r9).toNatClampNeg) + (1 : Int32)), vf_upd t_least x1.toNatClampNeg x2, vf_upd t_greatest x1.toNatClampNeg x2))))) ∧ (((t_values x1.toNatClampNeg) = 0) → vp_in x1 4 ∧ vp_in x1 4 ∧ vp_in x1 4 ∧ vf_n64 (FP.dadd (t_sums x1.toNatClampNeg) x2) ∧ vp_in x1 4 ∧ p_Ga_binOf x2 ∧ (∀ (r41 : Int32), s_Ga_binOf x2 = r41 → vp_in ((x1 * (8 : Int32)) + r41) 32 ∧ vp_in ((x1 * (8 : Int32)) + r41) 32 ∧ vp_in x1 4 ∧ vp_in x1 4 ∧ Q (upd t_values x1.toNatClampNeg ((t_values x1.toNatClampNeg) + (1 : Int32)), vf_upd t_sums x1.toNatClampNeg (FP.dadd (t_sums x1.toNatClampNeg) x2), upd t_bins ((x1 * (8 : Int32)) + r41).toNatClampNeg ((t_bins ((x1 * (8 : Int32)) + r41).toNatClampNeg) + (1 : Int32)), vf_upd t_least x1.toNatClampNeg x2, vf_upd t_greatest x1.toNatClampNeg x2)))
set_option maxHeartbeats 4000000 in
set_option maxRecDepth 100000 in
theorem cw_Ga_add (l : Launch) (D : va_G) (K : Nat → ClassId) (q_t : Nat) (q_t_keys : Nat) (q_t_least : Nat) (q_t_greatest : Nat) (q_t_sums : Nat) (q_t_values : Nat) (q_t_bins : Nat) (t_size : Int32) (t_values : Nat → Int32) (t_sums : Nat → UInt64) (t_bins : Nat → Int32) (t_least : Nat → UInt64) (t_greatest : Nat → UInt64) (x1 : Int32) (x2 : UInt64) {Q : ((Nat → Int32) × (Nat → UInt64) × (Nat → Int32) × (Nat → UInt64) × (Nat → UInt64)) → Prop} (hS0 : WP_Ga_add t_values t_sums t_bins t_least t_greatest x1 x2 Q) : zCv l y_Ga_add wy_Ga_add rm_Ga_add D zcl (zT K) [.ref q_t, .int x1, .double x2] (w_Ga_add K q_t q_t_keys q_t_least q_t_greatest q_t_sums q_t_values q_t_bins t_size (t_values, t_sums, t_bins, t_least, t_greatest)) (w_Ga_add K q_t q_t_keys q_t_least q_t_greatest q_t_sums q_t_values q_t_bins t_size) Q 0 0 := by
  refine z_metv (cc := b_Ga_add) (maxL := 5) (ret := none) (by decide) rfl (Nat.le_of_ble_eq_true rfl) ?_
  intro p e s m args below meth c A C hr hlk hnm
  refine z_lpick (lv' := [(0, .ref q_t), (1, .int x1), (2, .double x2)]) [0, 1, 2] rfl ?_
  refine z_weq (ws' := [zo 0 q_t [.ref q_t_keys, .ref q_t_least, .ref q_t_greatest, .ref q_t_sums, .ref q_t_values, .ref q_t_bins, .int t_size], zaI K q_t_values 4 t_values, zaD K q_t_sums 4 t_sums, zaI K q_t_bins 32 t_bins, zaD K q_t_least 4 t_least, zaD K q_t_greatest 4 t_greatest]) rfl ?_
  refine z_aload_n C d_Ga_add_0 rfl 0 rfl ?_
  refine z_get C 0 rfl rfl in_Ga 4 (by decide) rfl wf_Ga_25 rfl d_Ga_add_1 ?_
  refine z_iload_n C d_Ga_add_4 rfl 1 rfl ?_
  refine z_iald C 1 0 rfl rfl hS0.1 d_Ga_add_5 ?_
  have hS1 := hS0.2
  refine z_if_ne (tgt := 13) C d_Ga_add_6 (by decide) (fun c2 => ?_) (fun c2 => ?_)
  · have hS3 := hS1.1 c2
    refine z_iconst (v := (0 : Int32)) C d_Ga_add_13 (by decide) ?_
    refine z_istore (lv' := [(4, .int (0 : Int32)), (0, .ref q_t), (1, .int x1), (2, .double x2)]) C d_Ga_add_14 (by decide) rfl ?_
    refine z_aload_n C d_Ga_add_16 rfl 1 rfl ?_
    refine z_get C 0 rfl rfl in_Ga 4 (by decide) rfl wf_Ga_25 rfl d_Ga_add_17 ?_
    refine z_iload_n C d_Ga_add_20 rfl 2 rfl ?_
    refine z_dup2_11 C d_Ga_add_21 rfl rfl ?_
    refine z_iald C 1 0 rfl rfl hS3.1 d_Ga_add_22 ?_
    have hS4 := hS3.2
    refine z_iconst (v := (1 : Int32)) C d_Ga_add_23 (by decide) ?_
    refine z_iadd C d_Ga_add_24 ?_
    refine z_iast (ws' := [zo 0 q_t [.ref q_t_keys, .ref q_t_least, .ref q_t_greatest, .ref q_t_sums, .ref q_t_values, .ref q_t_bins, .int t_size], zaI K q_t_values 4 (upd t_values x1.toNatClampNeg ((t_values x1.toNatClampNeg) + (1 : Int32))), zaD K q_t_sums 4 t_sums, zaI K q_t_bins 32 t_bins, zaD K q_t_least 4 t_least, zaD K q_t_greatest 4 t_greatest]) C 1 0 rfl rfl hS4.1 rfl d_Ga_add_25 ?_
    have hS5 := hS4.2
    refine z_aload_n C d_Ga_add_26 rfl 1 rfl ?_
    refine z_get C 0 rfl rfl in_Ga 3 (by decide) rfl wf_Ga_22 rfl d_Ga_add_27 ?_
    refine z_iload_n C d_Ga_add_30 rfl 2 rfl ?_
    refine z_dup2_11 C d_Ga_add_31 rfl rfl ?_
    refine z_dald C 2 1 rfl rfl hS5.1 d_Ga_add_32 ?_
    have hS6 := hS5.2
    refine z_dload_n C d_Ga_add_33 rfl 3 rfl ?_
    refine z_dadd C d_Ga_add_34 hS6.1 ?_
    have hS7 := hS6.2
    refine z_dast (ws' := [zo 0 q_t [.ref q_t_keys, .ref q_t_least, .ref q_t_greatest, .ref q_t_sums, .ref q_t_values, .ref q_t_bins, .int t_size], zaI K q_t_values 4 (upd t_values x1.toNatClampNeg ((t_values x1.toNatClampNeg) + (1 : Int32))), zaD K q_t_sums 4 (vf_upd t_sums x1.toNatClampNeg (FP.dadd (t_sums x1.toNatClampNeg) x2)), zaI K q_t_bins 32 t_bins, zaD K q_t_least 4 t_least, zaD K q_t_greatest 4 t_greatest]) C 2 1 rfl rfl hS7.1 rfl d_Ga_add_35 ?_
    have hS8 := hS7.2
    refine z_aload_n C d_Ga_add_36 rfl 1 rfl ?_
    refine z_get C 0 rfl rfl in_Ga 5 (by decide) rfl wf_Ga_28 rfl d_Ga_add_37 ?_
    refine z_iload_n C d_Ga_add_40 rfl 2 rfl ?_
    refine z_bipush (v := (8 : Int32)) C d_Ga_add_41 (by decide) ?_
    refine z_imul C d_Ga_add_43 ?_
    refine z_dload_n C d_Ga_add_44 rfl 3 rfl ?_
    refine z_callSi (As := [.double x2]) (st := [.int (x1 * (8 : Int32)), .ref q_t_bins]) (wr := [zo 0 q_t [.ref q_t_keys, .ref q_t_least, .ref q_t_greatest, .ref q_t_sums, .ref q_t_values, .ref q_t_bins, .int t_size], zaI K q_t_values 4 (upd t_values x1.toNatClampNeg ((t_values x1.toNatClampNeg) + (1 : Int32))), zaD K q_t_sums 4 (vf_upd t_sums x1.toNatClampNeg (FP.dadd (t_sums x1.toNatClampNeg) x2)), zaI K q_t_bins 32 t_bins, zaD K q_t_least 4 t_least, zaD K q_t_greatest 4 t_greatest]) (wj := fun u => [zo 0 q_t [.ref q_t_keys, .ref q_t_least, .ref q_t_greatest, .ref q_t_sums, .ref q_t_values, .ref q_t_bins, .int t_size], zaI K q_t_values 4 (upd t_values x1.toNatClampNeg ((t_values x1.toNatClampNeg) + (1 : Int32))), zaD K q_t_sums 4 (vf_upd t_sums x1.toNatClampNeg (FP.dadd (t_sums x1.toNatClampNeg) x2)), zaI K q_t_bins 32 t_bins, zaD K q_t_least 4 t_least, zaD K q_t_greatest 4 t_greatest]) C (c_Ga_binOf l D K x2 hS8.1) (cwS 1 C.2.2.2.2.1 (z_gS wl_Ga_39 ws_Ga_binOf wz_Ga wk_Ga_binOf) rfl rfl rfl (by decide +kernel) ⟨Nat.le_of_ble_eq_true rfl, Nat.le_of_ble_eq_true rfl⟩) [] [0, 1, 2, 3, 4, 5] [0, 1, 2, 3, 4, 5] rfl rfl rfl rfl (by decide) (fun _ => rfl) rfl rfl rfl (Nat.le_of_ble_eq_true rfl) d_Ga_add_45 ⟨Nat.le_of_ble_eq_true rfl, Nat.le_of_ble_eq_true rfl⟩ (fun r9 u10 e11 => ?_)
    have hS12 := hS8.2 r9 e11
    refine z_iadd C d_Ga_add_48 ?_
    refine z_dup2_11 C d_Ga_add_49 rfl rfl ?_
    refine z_iald C 3 0 rfl rfl hS12.1 d_Ga_add_50 ?_
    have hS13 := hS12.2
    refine z_iconst (v := (1 : Int32)) C d_Ga_add_51 (by decide) ?_
    refine z_iadd C d_Ga_add_52 ?_
    refine z_iast (ws' := [zo 0 q_t [.ref q_t_keys, .ref q_t_least, .ref q_t_greatest, .ref q_t_sums, .ref q_t_values, .ref q_t_bins, .int t_size], zaI K q_t_values 4 (upd t_values x1.toNatClampNeg ((t_values x1.toNatClampNeg) + (1 : Int32))), zaD K q_t_sums 4 (vf_upd t_sums x1.toNatClampNeg (FP.dadd (t_sums x1.toNatClampNeg) x2)), zaI K q_t_bins 32 (upd t_bins ((x1 * (8 : Int32)) + r9).toNatClampNeg ((t_bins ((x1 * (8 : Int32)) + r9).toNatClampNeg) + (1 : Int32))), zaD K q_t_least 4 t_least, zaD K q_t_greatest 4 t_greatest]) C 3 0 rfl rfl hS13.1 rfl d_Ga_add_53 ?_
    have hS14 := hS13.2
    refine z_aload_n C d_Ga_add_54 rfl 1 rfl ?_
    refine z_get C 0 rfl rfl in_Ga 1 (by decide) rfl wf_Ga_15 rfl d_Ga_add_55 ?_
    refine z_iload_n C d_Ga_add_58 rfl 2 rfl ?_
    refine z_iload C d_Ga_add_59 0 rfl ?_
    refine z_if_ne (tgt := 75) C d_Ga_add_61 (by decide) (fun c15 => absurd c15 (by decide)) (fun c15 => ?_)
    refine z_dload_n C d_Ga_add_64 rfl 3 rfl ?_
    refine z_aload_n C d_Ga_add_65 rfl 1 rfl ?_
    refine z_get C 0 rfl rfl in_Ga 1 (by decide) rfl wf_Ga_15 rfl d_Ga_add_66 ?_
    refine z_iload_n C d_Ga_add_69 rfl 2 rfl ?_
    refine z_dald C 4 1 rfl rfl hS14.1 d_Ga_add_70 ?_
    have hS16 := hS14.2
    refine z_dcmp C d_Ga_add_71 ?_
    refine z_if_ge (tgt := 79) C d_Ga_add_72 (by decide) (fun c17 => ?_) (fun c17 => ?_)
    · have hS18 := hS16.1 c17
      refine z_aload_n C d_Ga_add_79 rfl 1 rfl ?_
      refine z_get C 0 rfl rfl in_Ga 1 (by decide) rfl wf_Ga_15 rfl d_Ga_add_80 ?_
      refine z_iload_n C d_Ga_add_83 rfl 2 rfl ?_
      refine z_dald C 4 1 rfl rfl hS18.1 d_Ga_add_84 ?_
      have hS19 := hS18.2
      refine z_dast (ws' := [zo 0 q_t [.ref q_t_keys, .ref q_t_least, .ref q_t_greatest, .ref q_t_sums, .ref q_t_values, .ref q_t_bins, .int t_size], zaI K q_t_values 4 (upd t_values x1.toNatClampNeg ((t_values x1.toNatClampNeg) + (1 : Int32))), zaD K q_t_sums 4 (vf_upd t_sums x1.toNatClampNeg (FP.dadd (t_sums x1.toNatClampNeg) x2)), zaI K q_t_bins 32 (upd t_bins ((x1 * (8 : Int32)) + r9).toNatClampNeg ((t_bins ((x1 * (8 : Int32)) + r9).toNatClampNeg) + (1 : Int32))), zaD K q_t_least 4 (vf_upd t_least x1.toNatClampNeg (t_least x1.toNatClampNeg)), zaD K q_t_greatest 4 t_greatest]) C 4 1 rfl rfl hS19.1 rfl d_Ga_add_85 ?_
      have hS20 := hS19.2
      refine z_aload_n C d_Ga_add_86 rfl 1 rfl ?_
      refine z_get C 0 rfl rfl in_Ga 2 (by decide) rfl wf_Ga_19 rfl d_Ga_add_87 ?_
      refine z_iload_n C d_Ga_add_90 rfl 2 rfl ?_
      refine z_iload C d_Ga_add_91 0 rfl ?_
      refine z_if_ne (tgt := 107) C d_Ga_add_93 (by decide) (fun c21 => absurd c21 (by decide)) (fun c21 => ?_)
      refine z_dload_n C d_Ga_add_96 rfl 3 rfl ?_
      refine z_aload_n C d_Ga_add_97 rfl 1 rfl ?_
      refine z_get C 0 rfl rfl in_Ga 2 (by decide) rfl wf_Ga_19 rfl d_Ga_add_98 ?_
      refine z_iload_n C d_Ga_add_101 rfl 2 rfl ?_
      refine z_dald C 5 1 rfl rfl hS20.1 d_Ga_add_102 ?_
      have hS22 := hS20.2
      refine z_dcmp C d_Ga_add_103 ?_
      refine z_if_le (tgt := 111) C d_Ga_add_104 (by decide) (fun c23 => ?_) (fun c23 => ?_)
      · have hS24 := hS22.1 c23
        refine z_aload_n C d_Ga_add_111 rfl 1 rfl ?_
        refine z_get C 0 rfl rfl in_Ga 2 (by decide) rfl wf_Ga_19 rfl d_Ga_add_112 ?_
        refine z_iload_n C d_Ga_add_115 rfl 2 rfl ?_
        refine z_dald C 5 1 rfl rfl hS24.1 d_Ga_add_116 ?_
        have hS25 := hS24.2
        refine z_dast (ws' := [zo 0 q_t [.ref q_t_keys, .ref q_t_least, .ref q_t_greatest, .ref q_t_sums, .ref q_t_values, .ref q_t_bins, .int t_size], zaI K q_t_values 4 (upd t_values x1.toNatClampNeg ((t_values x1.toNatClampNeg) + (1 : Int32))), zaD K q_t_sums 4 (vf_upd t_sums x1.toNatClampNeg (FP.dadd (t_sums x1.toNatClampNeg) x2)), zaI K q_t_bins 32 (upd t_bins ((x1 * (8 : Int32)) + r9).toNatClampNeg ((t_bins ((x1 * (8 : Int32)) + r9).toNatClampNeg) + (1 : Int32))), zaD K q_t_least 4 (vf_upd t_least x1.toNatClampNeg (t_least x1.toNatClampNeg)), zaD K q_t_greatest 4 (vf_upd t_greatest x1.toNatClampNeg (t_greatest x1.toNatClampNeg))]) C 5 1 rfl rfl hS25.1 rfl d_Ga_add_117 ?_
        have hS26 := hS25.2
        exact z_vret C hr hlk (upd t_values x1.toNatClampNeg ((t_values x1.toNatClampNeg) + (1 : Int32)), vf_upd t_sums x1.toNatClampNeg (FP.dadd (t_sums x1.toNatClampNeg) x2), upd t_bins ((x1 * (8 : Int32)) + r9).toNatClampNeg ((t_bins ((x1 * (8 : Int32)) + r9).toNatClampNeg) + (1 : Int32)), vf_upd t_least x1.toNatClampNeg (t_least x1.toNatClampNeg), vf_upd t_greatest x1.toNatClampNeg (t_greatest x1.toNatClampNeg)) rfl hS26 d_Ga_add_118
      · have hS24 := hS22.2 c23
        refine z_dload_n C d_Ga_add_107 rfl 3 rfl ?_
        refine z_goto (tgt := 117) C d_Ga_add_108 (by decide) ?_
        refine z_dast (ws' := [zo 0 q_t [.ref q_t_keys, .ref q_t_least, .ref q_t_greatest, .ref q_t_sums, .ref q_t_values, .ref q_t_bins, .int t_size], zaI K q_t_values 4 (upd t_values x1.toNatClampNeg ((t_values x1.toNatClampNeg) + (1 : Int32))), zaD K q_t_sums 4 (vf_upd t_sums x1.toNatClampNeg (FP.dadd (t_sums x1.toNatClampNeg) x2)), zaI K q_t_bins 32 (upd t_bins ((x1 * (8 : Int32)) + r9).toNatClampNeg ((t_bins ((x1 * (8 : Int32)) + r9).toNatClampNeg) + (1 : Int32))), zaD K q_t_least 4 (vf_upd t_least x1.toNatClampNeg (t_least x1.toNatClampNeg)), zaD K q_t_greatest 4 (vf_upd t_greatest x1.toNatClampNeg x2)]) C 5 1 rfl rfl hS24.1 rfl d_Ga_add_117 ?_
        have hS27 := hS24.2
        exact z_vret C hr hlk (upd t_values x1.toNatClampNeg ((t_values x1.toNatClampNeg) + (1 : Int32)), vf_upd t_sums x1.toNatClampNeg (FP.dadd (t_sums x1.toNatClampNeg) x2), upd t_bins ((x1 * (8 : Int32)) + r9).toNatClampNeg ((t_bins ((x1 * (8 : Int32)) + r9).toNatClampNeg) + (1 : Int32)), vf_upd t_least x1.toNatClampNeg (t_least x1.toNatClampNeg), vf_upd t_greatest x1.toNatClampNeg x2) rfl hS27 d_Ga_add_118
    · have hS18 := hS16.2 c17
      refine z_dload_n C d_Ga_add_75 rfl 3 rfl ?_
      refine z_goto (tgt := 85) C d_Ga_add_76 (by decide) ?_
      refine z_dast (ws' := [zo 0 q_t [.ref q_t_keys, .ref q_t_least, .ref q_t_greatest, .ref q_t_sums, .ref q_t_values, .ref q_t_bins, .int t_size], zaI K q_t_values 4 (upd t_values x1.toNatClampNeg ((t_values x1.toNatClampNeg) + (1 : Int32))), zaD K q_t_sums 4 (vf_upd t_sums x1.toNatClampNeg (FP.dadd (t_sums x1.toNatClampNeg) x2)), zaI K q_t_bins 32 (upd t_bins ((x1 * (8 : Int32)) + r9).toNatClampNeg ((t_bins ((x1 * (8 : Int32)) + r9).toNatClampNeg) + (1 : Int32))), zaD K q_t_least 4 (vf_upd t_least x1.toNatClampNeg x2), zaD K q_t_greatest 4 t_greatest]) C 4 1 rfl rfl hS18.1 rfl d_Ga_add_85 ?_
      have hS28 := hS18.2
      refine z_aload_n C d_Ga_add_86 rfl 1 rfl ?_
      refine z_get C 0 rfl rfl in_Ga 2 (by decide) rfl wf_Ga_19 rfl d_Ga_add_87 ?_
      refine z_iload_n C d_Ga_add_90 rfl 2 rfl ?_
      refine z_iload C d_Ga_add_91 0 rfl ?_
      refine z_if_ne (tgt := 107) C d_Ga_add_93 (by decide) (fun c29 => absurd c29 (by decide)) (fun c29 => ?_)
      refine z_dload_n C d_Ga_add_96 rfl 3 rfl ?_
      refine z_aload_n C d_Ga_add_97 rfl 1 rfl ?_
      refine z_get C 0 rfl rfl in_Ga 2 (by decide) rfl wf_Ga_19 rfl d_Ga_add_98 ?_
      refine z_iload_n C d_Ga_add_101 rfl 2 rfl ?_
      refine z_dald C 5 1 rfl rfl hS28.1 d_Ga_add_102 ?_
      have hS30 := hS28.2
      refine z_dcmp C d_Ga_add_103 ?_
      refine z_if_le (tgt := 111) C d_Ga_add_104 (by decide) (fun c31 => ?_) (fun c31 => ?_)
      · have hS32 := hS30.1 c31
        refine z_aload_n C d_Ga_add_111 rfl 1 rfl ?_
        refine z_get C 0 rfl rfl in_Ga 2 (by decide) rfl wf_Ga_19 rfl d_Ga_add_112 ?_
        refine z_iload_n C d_Ga_add_115 rfl 2 rfl ?_
        refine z_dald C 5 1 rfl rfl hS32.1 d_Ga_add_116 ?_
        have hS33 := hS32.2
        refine z_dast (ws' := [zo 0 q_t [.ref q_t_keys, .ref q_t_least, .ref q_t_greatest, .ref q_t_sums, .ref q_t_values, .ref q_t_bins, .int t_size], zaI K q_t_values 4 (upd t_values x1.toNatClampNeg ((t_values x1.toNatClampNeg) + (1 : Int32))), zaD K q_t_sums 4 (vf_upd t_sums x1.toNatClampNeg (FP.dadd (t_sums x1.toNatClampNeg) x2)), zaI K q_t_bins 32 (upd t_bins ((x1 * (8 : Int32)) + r9).toNatClampNeg ((t_bins ((x1 * (8 : Int32)) + r9).toNatClampNeg) + (1 : Int32))), zaD K q_t_least 4 (vf_upd t_least x1.toNatClampNeg x2), zaD K q_t_greatest 4 (vf_upd t_greatest x1.toNatClampNeg (t_greatest x1.toNatClampNeg))]) C 5 1 rfl rfl hS33.1 rfl d_Ga_add_117 ?_
        have hS34 := hS33.2
        exact z_vret C hr hlk (upd t_values x1.toNatClampNeg ((t_values x1.toNatClampNeg) + (1 : Int32)), vf_upd t_sums x1.toNatClampNeg (FP.dadd (t_sums x1.toNatClampNeg) x2), upd t_bins ((x1 * (8 : Int32)) + r9).toNatClampNeg ((t_bins ((x1 * (8 : Int32)) + r9).toNatClampNeg) + (1 : Int32)), vf_upd t_least x1.toNatClampNeg x2, vf_upd t_greatest x1.toNatClampNeg (t_greatest x1.toNatClampNeg)) rfl hS34 d_Ga_add_118
      · have hS32 := hS30.2 c31
        refine z_dload_n C d_Ga_add_107 rfl 3 rfl ?_
        refine z_goto (tgt := 117) C d_Ga_add_108 (by decide) ?_
        refine z_dast (ws' := [zo 0 q_t [.ref q_t_keys, .ref q_t_least, .ref q_t_greatest, .ref q_t_sums, .ref q_t_values, .ref q_t_bins, .int t_size], zaI K q_t_values 4 (upd t_values x1.toNatClampNeg ((t_values x1.toNatClampNeg) + (1 : Int32))), zaD K q_t_sums 4 (vf_upd t_sums x1.toNatClampNeg (FP.dadd (t_sums x1.toNatClampNeg) x2)), zaI K q_t_bins 32 (upd t_bins ((x1 * (8 : Int32)) + r9).toNatClampNeg ((t_bins ((x1 * (8 : Int32)) + r9).toNatClampNeg) + (1 : Int32))), zaD K q_t_least 4 (vf_upd t_least x1.toNatClampNeg x2), zaD K q_t_greatest 4 (vf_upd t_greatest x1.toNatClampNeg x2)]) C 5 1 rfl rfl hS32.1 rfl d_Ga_add_117 ?_
        have hS35 := hS32.2
        exact z_vret C hr hlk (upd t_values x1.toNatClampNeg ((t_values x1.toNatClampNeg) + (1 : Int32)), vf_upd t_sums x1.toNatClampNeg (FP.dadd (t_sums x1.toNatClampNeg) x2), upd t_bins ((x1 * (8 : Int32)) + r9).toNatClampNeg ((t_bins ((x1 * (8 : Int32)) + r9).toNatClampNeg) + (1 : Int32)), vf_upd t_least x1.toNatClampNeg x2, vf_upd t_greatest x1.toNatClampNeg x2) rfl hS35 d_Ga_add_118
  · have hS3 := hS1.2 c2
    refine z_iconst (v := (1 : Int32)) C d_Ga_add_9 (by decide) ?_
    refine z_goto (tgt := 14) C d_Ga_add_10 (by decide) ?_
    refine z_istore (lv' := [(4, .int (1 : Int32)), (0, .ref q_t), (1, .int x1), (2, .double x2)]) C d_Ga_add_14 (by decide) rfl ?_
    refine z_aload_n C d_Ga_add_16 rfl 1 rfl ?_
    refine z_get C 0 rfl rfl in_Ga 4 (by decide) rfl wf_Ga_25 rfl d_Ga_add_17 ?_
    refine z_iload_n C d_Ga_add_20 rfl 2 rfl ?_
    refine z_dup2_11 C d_Ga_add_21 rfl rfl ?_
    refine z_iald C 1 0 rfl rfl hS3.1 d_Ga_add_22 ?_
    have hS36 := hS3.2
    refine z_iconst (v := (1 : Int32)) C d_Ga_add_23 (by decide) ?_
    refine z_iadd C d_Ga_add_24 ?_
    refine z_iast (ws' := [zo 0 q_t [.ref q_t_keys, .ref q_t_least, .ref q_t_greatest, .ref q_t_sums, .ref q_t_values, .ref q_t_bins, .int t_size], zaI K q_t_values 4 (upd t_values x1.toNatClampNeg ((t_values x1.toNatClampNeg) + (1 : Int32))), zaD K q_t_sums 4 t_sums, zaI K q_t_bins 32 t_bins, zaD K q_t_least 4 t_least, zaD K q_t_greatest 4 t_greatest]) C 1 0 rfl rfl hS36.1 rfl d_Ga_add_25 ?_
    have hS37 := hS36.2
    refine z_aload_n C d_Ga_add_26 rfl 1 rfl ?_
    refine z_get C 0 rfl rfl in_Ga 3 (by decide) rfl wf_Ga_22 rfl d_Ga_add_27 ?_
    refine z_iload_n C d_Ga_add_30 rfl 2 rfl ?_
    refine z_dup2_11 C d_Ga_add_31 rfl rfl ?_
    refine z_dald C 2 1 rfl rfl hS37.1 d_Ga_add_32 ?_
    have hS38 := hS37.2
    refine z_dload_n C d_Ga_add_33 rfl 3 rfl ?_
    refine z_dadd C d_Ga_add_34 hS38.1 ?_
    have hS39 := hS38.2
    refine z_dast (ws' := [zo 0 q_t [.ref q_t_keys, .ref q_t_least, .ref q_t_greatest, .ref q_t_sums, .ref q_t_values, .ref q_t_bins, .int t_size], zaI K q_t_values 4 (upd t_values x1.toNatClampNeg ((t_values x1.toNatClampNeg) + (1 : Int32))), zaD K q_t_sums 4 (vf_upd t_sums x1.toNatClampNeg (FP.dadd (t_sums x1.toNatClampNeg) x2)), zaI K q_t_bins 32 t_bins, zaD K q_t_least 4 t_least, zaD K q_t_greatest 4 t_greatest]) C 2 1 rfl rfl hS39.1 rfl d_Ga_add_35 ?_
    have hS40 := hS39.2
    refine z_aload_n C d_Ga_add_36 rfl 1 rfl ?_
    refine z_get C 0 rfl rfl in_Ga 5 (by decide) rfl wf_Ga_28 rfl d_Ga_add_37 ?_
    refine z_iload_n C d_Ga_add_40 rfl 2 rfl ?_
    refine z_bipush (v := (8 : Int32)) C d_Ga_add_41 (by decide) ?_
    refine z_imul C d_Ga_add_43 ?_
    refine z_dload_n C d_Ga_add_44 rfl 3 rfl ?_
    refine z_callSi (As := [.double x2]) (st := [.int (x1 * (8 : Int32)), .ref q_t_bins]) (wr := [zo 0 q_t [.ref q_t_keys, .ref q_t_least, .ref q_t_greatest, .ref q_t_sums, .ref q_t_values, .ref q_t_bins, .int t_size], zaI K q_t_values 4 (upd t_values x1.toNatClampNeg ((t_values x1.toNatClampNeg) + (1 : Int32))), zaD K q_t_sums 4 (vf_upd t_sums x1.toNatClampNeg (FP.dadd (t_sums x1.toNatClampNeg) x2)), zaI K q_t_bins 32 t_bins, zaD K q_t_least 4 t_least, zaD K q_t_greatest 4 t_greatest]) (wj := fun u => [zo 0 q_t [.ref q_t_keys, .ref q_t_least, .ref q_t_greatest, .ref q_t_sums, .ref q_t_values, .ref q_t_bins, .int t_size], zaI K q_t_values 4 (upd t_values x1.toNatClampNeg ((t_values x1.toNatClampNeg) + (1 : Int32))), zaD K q_t_sums 4 (vf_upd t_sums x1.toNatClampNeg (FP.dadd (t_sums x1.toNatClampNeg) x2)), zaI K q_t_bins 32 t_bins, zaD K q_t_least 4 t_least, zaD K q_t_greatest 4 t_greatest]) C (c_Ga_binOf l D K x2 hS40.1) (cwS 1 C.2.2.2.2.1 (z_gS wl_Ga_39 ws_Ga_binOf wz_Ga wk_Ga_binOf) rfl rfl rfl (by decide +kernel) ⟨Nat.le_of_ble_eq_true rfl, Nat.le_of_ble_eq_true rfl⟩) [] [0, 1, 2, 3, 4, 5] [0, 1, 2, 3, 4, 5] rfl rfl rfl rfl (by decide) (fun _ => rfl) rfl rfl rfl (Nat.le_of_ble_eq_true rfl) d_Ga_add_45 ⟨Nat.le_of_ble_eq_true rfl, Nat.le_of_ble_eq_true rfl⟩ (fun r41 u42 e43 => ?_)
    have hS44 := hS40.2 r41 e43
    refine z_iadd C d_Ga_add_48 ?_
    refine z_dup2_11 C d_Ga_add_49 rfl rfl ?_
    refine z_iald C 3 0 rfl rfl hS44.1 d_Ga_add_50 ?_
    have hS45 := hS44.2
    refine z_iconst (v := (1 : Int32)) C d_Ga_add_51 (by decide) ?_
    refine z_iadd C d_Ga_add_52 ?_
    refine z_iast (ws' := [zo 0 q_t [.ref q_t_keys, .ref q_t_least, .ref q_t_greatest, .ref q_t_sums, .ref q_t_values, .ref q_t_bins, .int t_size], zaI K q_t_values 4 (upd t_values x1.toNatClampNeg ((t_values x1.toNatClampNeg) + (1 : Int32))), zaD K q_t_sums 4 (vf_upd t_sums x1.toNatClampNeg (FP.dadd (t_sums x1.toNatClampNeg) x2)), zaI K q_t_bins 32 (upd t_bins ((x1 * (8 : Int32)) + r41).toNatClampNeg ((t_bins ((x1 * (8 : Int32)) + r41).toNatClampNeg) + (1 : Int32))), zaD K q_t_least 4 t_least, zaD K q_t_greatest 4 t_greatest]) C 3 0 rfl rfl hS45.1 rfl d_Ga_add_53 ?_
    have hS46 := hS45.2
    refine z_aload_n C d_Ga_add_54 rfl 1 rfl ?_
    refine z_get C 0 rfl rfl in_Ga 1 (by decide) rfl wf_Ga_15 rfl d_Ga_add_55 ?_
    refine z_iload_n C d_Ga_add_58 rfl 2 rfl ?_
    refine z_iload C d_Ga_add_59 0 rfl ?_
    refine z_if_ne (tgt := 75) C d_Ga_add_61 (by decide) (fun c47 => ?_) (fun c47 => absurd c47 (by decide))
    refine z_dload_n C d_Ga_add_75 rfl 3 rfl ?_
    refine z_goto (tgt := 85) C d_Ga_add_76 (by decide) ?_
    refine z_dast (ws' := [zo 0 q_t [.ref q_t_keys, .ref q_t_least, .ref q_t_greatest, .ref q_t_sums, .ref q_t_values, .ref q_t_bins, .int t_size], zaI K q_t_values 4 (upd t_values x1.toNatClampNeg ((t_values x1.toNatClampNeg) + (1 : Int32))), zaD K q_t_sums 4 (vf_upd t_sums x1.toNatClampNeg (FP.dadd (t_sums x1.toNatClampNeg) x2)), zaI K q_t_bins 32 (upd t_bins ((x1 * (8 : Int32)) + r41).toNatClampNeg ((t_bins ((x1 * (8 : Int32)) + r41).toNatClampNeg) + (1 : Int32))), zaD K q_t_least 4 (vf_upd t_least x1.toNatClampNeg x2), zaD K q_t_greatest 4 t_greatest]) C 4 1 rfl rfl hS46.1 rfl d_Ga_add_85 ?_
    have hS48 := hS46.2
    refine z_aload_n C d_Ga_add_86 rfl 1 rfl ?_
    refine z_get C 0 rfl rfl in_Ga 2 (by decide) rfl wf_Ga_19 rfl d_Ga_add_87 ?_
    refine z_iload_n C d_Ga_add_90 rfl 2 rfl ?_
    refine z_iload C d_Ga_add_91 0 rfl ?_
    refine z_if_ne (tgt := 107) C d_Ga_add_93 (by decide) (fun c49 => ?_) (fun c49 => absurd c49 (by decide))
    refine z_dload_n C d_Ga_add_107 rfl 3 rfl ?_
    refine z_goto (tgt := 117) C d_Ga_add_108 (by decide) ?_
    refine z_dast (ws' := [zo 0 q_t [.ref q_t_keys, .ref q_t_least, .ref q_t_greatest, .ref q_t_sums, .ref q_t_values, .ref q_t_bins, .int t_size], zaI K q_t_values 4 (upd t_values x1.toNatClampNeg ((t_values x1.toNatClampNeg) + (1 : Int32))), zaD K q_t_sums 4 (vf_upd t_sums x1.toNatClampNeg (FP.dadd (t_sums x1.toNatClampNeg) x2)), zaI K q_t_bins 32 (upd t_bins ((x1 * (8 : Int32)) + r41).toNatClampNeg ((t_bins ((x1 * (8 : Int32)) + r41).toNatClampNeg) + (1 : Int32))), zaD K q_t_least 4 (vf_upd t_least x1.toNatClampNeg x2), zaD K q_t_greatest 4 (vf_upd t_greatest x1.toNatClampNeg x2)]) C 5 1 rfl rfl hS48.1 rfl d_Ga_add_117 ?_
    have hS50 := hS48.2
    exact z_vret C hr hlk (upd t_values x1.toNatClampNeg ((t_values x1.toNatClampNeg) + (1 : Int32)), vf_upd t_sums x1.toNatClampNeg (FP.dadd (t_sums x1.toNatClampNeg) x2), upd t_bins ((x1 * (8 : Int32)) + r41).toNatClampNeg ((t_bins ((x1 * (8 : Int32)) + r41).toNatClampNeg) + (1 : Int32)), vf_upd t_least x1.toNatClampNeg x2, vf_upd t_greatest x1.toNatClampNeg x2) rfl hS50 d_Ga_add_118
def s_Ga_add (t_values : Nat → Int32) (t_sums : Nat → UInt64) (t_bins : Nat → Int32) (t_least : Nat → UInt64) (t_greatest : Nat → UInt64) (x1 : Int32) (x2 : UInt64) : (Nat → Int32) × (Nat → UInt64) × (Nat → Int32) × (Nat → UInt64) × (Nat → UInt64) := (if (t_values x1.toNatClampNeg) = 0 then (zl1 (s_Ga_binOf x2) fun r41 => (upd t_values x1.toNatClampNeg ((t_values x1.toNatClampNeg) + (1 : Int32)), vf_upd t_sums x1.toNatClampNeg (FP.dadd (t_sums x1.toNatClampNeg) x2), upd t_bins ((x1 * (8 : Int32)) + r41).toNatClampNeg ((t_bins ((x1 * (8 : Int32)) + r41).toNatClampNeg) + (1 : Int32)), vf_upd t_least x1.toNatClampNeg x2, vf_upd t_greatest x1.toNatClampNeg x2)) else (zl1 (s_Ga_binOf x2) fun r9 => (if 0 ≤ (Op.cmpValue (FP.dcmp x2 (t_least x1.toNatClampNeg)) .g) then (if (Op.cmpValue (FP.dcmp x2 (t_greatest x1.toNatClampNeg)) .l) ≤ 0 then (upd t_values x1.toNatClampNeg ((t_values x1.toNatClampNeg) + (1 : Int32)), vf_upd t_sums x1.toNatClampNeg (FP.dadd (t_sums x1.toNatClampNeg) x2), upd t_bins ((x1 * (8 : Int32)) + r9).toNatClampNeg ((t_bins ((x1 * (8 : Int32)) + r9).toNatClampNeg) + (1 : Int32)), vf_upd t_least x1.toNatClampNeg (t_least x1.toNatClampNeg), vf_upd t_greatest x1.toNatClampNeg (t_greatest x1.toNatClampNeg)) else (upd t_values x1.toNatClampNeg ((t_values x1.toNatClampNeg) + (1 : Int32)), vf_upd t_sums x1.toNatClampNeg (FP.dadd (t_sums x1.toNatClampNeg) x2), upd t_bins ((x1 * (8 : Int32)) + r9).toNatClampNeg ((t_bins ((x1 * (8 : Int32)) + r9).toNatClampNeg) + (1 : Int32)), vf_upd t_least x1.toNatClampNeg (t_least x1.toNatClampNeg), vf_upd t_greatest x1.toNatClampNeg x2)) else (if (Op.cmpValue (FP.dcmp x2 (t_greatest x1.toNatClampNeg)) .l) ≤ 0 then (upd t_values x1.toNatClampNeg ((t_values x1.toNatClampNeg) + (1 : Int32)), vf_upd t_sums x1.toNatClampNeg (FP.dadd (t_sums x1.toNatClampNeg) x2), upd t_bins ((x1 * (8 : Int32)) + r9).toNatClampNeg ((t_bins ((x1 * (8 : Int32)) + r9).toNatClampNeg) + (1 : Int32)), vf_upd t_least x1.toNatClampNeg x2, vf_upd t_greatest x1.toNatClampNeg (t_greatest x1.toNatClampNeg)) else (upd t_values x1.toNatClampNeg ((t_values x1.toNatClampNeg) + (1 : Int32)), vf_upd t_sums x1.toNatClampNeg (FP.dadd (t_sums x1.toNatClampNeg) x2), upd t_bins ((x1 * (8 : Int32)) + r9).toNatClampNeg ((t_bins ((x1 * (8 : Int32)) + r9).toNatClampNeg) + (1 : Int32)), vf_upd t_least x1.toNatClampNeg x2, vf_upd t_greatest x1.toNatClampNeg x2)))))
def p_Ga_add (t_values : Nat → Int32) (t_sums : Nat → UInt64) (t_bins : Nat → Int32) (t_least : Nat → UInt64) (t_greatest : Nat → UInt64) (x1 : Int32) (x2 : UInt64) : Prop := WP_Ga_add t_values t_sums t_bins t_least t_greatest x1 x2 (fun _ => True)
set_option maxRecDepth 100000 in
theorem v_Ga_add (t_values : Nat → Int32) (t_sums : Nat → UInt64) (t_bins : Nat → Int32) (t_least : Nat → UInt64) (t_greatest : Nat → UInt64) (x1 : Int32) (x2 : UInt64) (hp : p_Ga_add t_values t_sums t_bins t_least t_greatest x1 x2) : WP_Ga_add t_values t_sums t_bins t_least t_greatest x1 x2 (fun u => s_Ga_add t_values t_sums t_bins t_least t_greatest x1 x2 = u) := by
  unfold p_Ga_add WP_Ga_add at hp
  obtain ⟨tgt, f0⟩ : ∃ tgt, s_Ga_add t_values t_sums t_bins t_least t_greatest x1 x2 = tgt := ⟨_, rfl⟩
  rw [f0]
  unfold s_Ga_add at f0
  unfold WP_Ga_add
  refine ⟨hp.1, ?_⟩
  have g1 := hp.2
  refine ⟨fun c2 => ?_, fun c2 => ?_⟩
  · have f2 := Eq.trans (Eq.symm (if_neg c2)) f0
    have g2 := g1.1 c2
    refine ⟨g2.1, ?_⟩
    have g3 := g2.2
    refine ⟨g3.1, ?_⟩
    have g4 := g3.2
    refine ⟨g4.1, ?_⟩
    have g5 := g4.2
    refine ⟨g5.1, ?_⟩
    have g6 := g5.2
    refine ⟨g6.1, ?_⟩
    have g7 := g6.2
    refine ⟨g7.1, ?_⟩
    have g9 := g7.2
    intro r9 e11
    have g8 := g9 r9 e11
    have f8 := Eq.trans (Eq.symm (zl1_eq e11)) f2
    refine ⟨g8.1, ?_⟩
    have g10 := g8.2
    refine ⟨g10.1, ?_⟩
    have g11 := g10.2
    refine ⟨g11.1, ?_⟩
    have g12 := g11.2
    refine ⟨fun c17 => ?_, fun c17 => ?_⟩
    · have f13 := Eq.trans (Eq.symm (if_pos c17)) f8
      have g13 := g12.1 c17
      refine ⟨g13.1, ?_⟩
      have g14 := g13.2
      refine ⟨g14.1, ?_⟩
      have g15 := g14.2
      refine ⟨g15.1, ?_⟩
      have g16 := g15.2
      refine ⟨fun c23 => ?_, fun c23 => ?_⟩
      · have f17 := Eq.trans (Eq.symm (if_pos c23)) f13
        have g17 := g16.1 c23
        refine ⟨g17.1, ?_⟩
        have g18 := g17.2
        refine ⟨g18.1, ?_⟩
        have g19 := g18.2
        exact f17.symm
      · have f17 := Eq.trans (Eq.symm (if_neg c23)) f13
        have g17 := g16.2 c23
        refine ⟨g17.1, ?_⟩
        have g20 := g17.2
        exact f17.symm
    · have f13 := Eq.trans (Eq.symm (if_neg c17)) f8
      have g13 := g12.2 c17
      refine ⟨g13.1, ?_⟩
      have g21 := g13.2
      refine ⟨g21.1, ?_⟩
      have g22 := g21.2
      refine ⟨fun c31 => ?_, fun c31 => ?_⟩
      · have f23 := Eq.trans (Eq.symm (if_pos c31)) f13
        have g23 := g22.1 c31
        refine ⟨g23.1, ?_⟩
        have g24 := g23.2
        refine ⟨g24.1, ?_⟩
        have g25 := g24.2
        exact f23.symm
      · have f23 := Eq.trans (Eq.symm (if_neg c31)) f13
        have g23 := g22.2 c31
        refine ⟨g23.1, ?_⟩
        have g26 := g23.2
        exact f23.symm
  · have f2 := Eq.trans (Eq.symm (if_pos c2)) f0
    have g2 := g1.2 c2
    refine ⟨g2.1, ?_⟩
    have g27 := g2.2
    refine ⟨g27.1, ?_⟩
    have g28 := g27.2
    refine ⟨g28.1, ?_⟩
    have g29 := g28.2
    refine ⟨g29.1, ?_⟩
    have g30 := g29.2
    refine ⟨g30.1, ?_⟩
    have g31 := g30.2
    refine ⟨g31.1, ?_⟩
    have g33 := g31.2
    intro r41 e43
    have g32 := g33 r41 e43
    have f32 := Eq.trans (Eq.symm (zl1_eq e43)) f2
    refine ⟨g32.1, ?_⟩
    have g34 := g32.2
    refine ⟨g34.1, ?_⟩
    have g35 := g34.2
    refine ⟨g35.1, ?_⟩
    have g36 := g35.2
    refine ⟨g36.1, ?_⟩
    have g37 := g36.2
    exact f32.symm
theorem c_Ga_add (l : Launch) (D : va_G) (K : Nat → ClassId) (q_t : Nat) (q_t_keys : Nat) (q_t_least : Nat) (q_t_greatest : Nat) (q_t_sums : Nat) (q_t_values : Nat) (q_t_bins : Nat) (t_size : Int32) (t_values : Nat → Int32) (t_sums : Nat → UInt64) (t_bins : Nat → Int32) (t_least : Nat → UInt64) (t_greatest : Nat → UInt64) (x1 : Int32) (x2 : UInt64) (hp : p_Ga_add t_values t_sums t_bins t_least t_greatest x1 x2) : zCv l y_Ga_add wy_Ga_add rm_Ga_add D zcl (zT K) [.ref q_t, .int x1, .double x2] (w_Ga_add K q_t q_t_keys q_t_least q_t_greatest q_t_sums q_t_values q_t_bins t_size (t_values, t_sums, t_bins, t_least, t_greatest)) (w_Ga_add K q_t q_t_keys q_t_least q_t_greatest q_t_sums q_t_values q_t_bins t_size) (fun u => s_Ga_add t_values t_sums t_bins t_least t_greatest x1 x2 = u) 0 0 := cw_Ga_add l D K q_t q_t_keys q_t_least q_t_greatest q_t_sums q_t_values q_t_bins t_size t_values t_sums t_bins t_least t_greatest x1 x2 (v_Ga_add t_values t_sums t_bins t_least t_greatest x1 x2 hp)
-- RuleTracer$Gatherer.figure(II)D: reads ['t.values', 't.sums', 't.greatest', 't.least'], changes []
abbrev w_Ga_figure (K : Nat → ClassId) (q_t : Nat) (q_t_keys : Nat) (q_t_least : Nat) (q_t_greatest : Nat) (q_t_sums : Nat) (q_t_values : Nat) (q_t_bins : Nat) (t_size : Int32) (t_values : Nat → Int32) (t_sums : Nat → UInt64) (t_greatest : Nat → UInt64) (t_least : Nat → UInt64) (u : Unit) : va_W := [zo 0 q_t [.ref q_t_keys, .ref q_t_least, .ref q_t_greatest, .ref q_t_sums, .ref q_t_values, .ref q_t_bins, .int t_size], zaI K q_t_values 4 t_values, zaD K q_t_sums 4 t_sums, zaD K q_t_greatest 4 t_greatest, zaD K q_t_least 4 t_least]
abbrev rm_Ga_figure : Room := { frames := 0, cells := 0, slots := 0, locals := 0 }
abbrev wy_Ga_figure : List Cond := .code y_Ga_figure b_Ga_figure 3 (some .double) :: zWT
def WP_Ga_figure (t_values : Nat → Int32) (t_sums : Nat → UInt64) (t_greatest : Nat → UInt64) (t_least : Nat → UInt64) (x1 : Int32) (x2 : Int32) (Q : UInt64 → Unit → Prop) : Prop := ((x2 = (0 : Int32)) → vp_in x1 4 ∧ Q (t_sums x1.toNatClampNeg) ()) ∧ ((¬ x2 = (0 : Int32)) → ((x2 = (1 : Int32)) → vp_in x1 4 ∧ Q (t_least x1.toNatClampNeg) ()) ∧ ((¬ x2 = (1 : Int32)) → ((x2 = (2 : Int32)) → vp_in x1 4 ∧ Q (t_greatest x1.toNatClampNeg) ()) ∧ ((¬ x2 = (2 : Int32)) → vp_in x1 4 ∧ ((¬ (t_values x1.toNatClampNeg) = 0) → vp_in x1 4 ∧ vp_in x1 4 ∧ vf_n64 (FP.ddiv (t_sums x1.toNatClampNeg) (FP.i2d (t_values x1.toNatClampNeg))) ∧ Q (FP.ddiv (t_sums x1.toNatClampNeg) (FP.i2d (t_values x1.toNatClampNeg))) ()) ∧ (((t_values x1.toNatClampNeg) = 0) → Q FP.dconst0 ()))))
set_option maxHeartbeats 4000000 in
set_option maxRecDepth 100000 in
theorem cw_Ga_figure (l : Launch) (D : va_G) (K : Nat → ClassId) (q_t : Nat) (q_t_keys : Nat) (q_t_least : Nat) (q_t_greatest : Nat) (q_t_sums : Nat) (q_t_values : Nat) (q_t_bins : Nat) (t_size : Int32) (t_values : Nat → Int32) (t_sums : Nat → UInt64) (t_greatest : Nat → UInt64) (t_least : Nat → UInt64) (x1 : Int32) (x2 : Int32) {Q : UInt64 → Unit → Prop} (hS0 : WP_Ga_figure t_values t_sums t_greatest t_least x1 x2 Q) : zCd l y_Ga_figure wy_Ga_figure rm_Ga_figure D zcl (zT K) [.ref q_t, .int x1, .int x2] (w_Ga_figure K q_t q_t_keys q_t_least q_t_greatest q_t_sums q_t_values q_t_bins t_size t_values t_sums t_greatest t_least ()) (w_Ga_figure K q_t q_t_keys q_t_least q_t_greatest q_t_sums q_t_values q_t_bins t_size t_values t_sums t_greatest t_least) Q 0 0 := by
  refine z_metd (cc := b_Ga_figure) (maxL := 3) (ret := (some .double)) (by decide) rfl (Nat.le_of_ble_eq_true rfl) ?_
  intro p e s m args below meth c A C hr hlk hnm
  refine z_lpick (lv' := [(0, .ref q_t), (1, .int x1), (2, .int x2)]) [0, 1, 2] rfl ?_
  refine z_weq (ws' := [zo 0 q_t [.ref q_t_keys, .ref q_t_least, .ref q_t_greatest, .ref q_t_sums, .ref q_t_values, .ref q_t_bins, .int t_size], zaI K q_t_values 4 t_values, zaD K q_t_sums 4 t_sums, zaD K q_t_greatest 4 t_greatest, zaD K q_t_least 4 t_least]) rfl ?_
  refine z_iload_n C d_Ga_figure_0 rfl 2 rfl ?_
  by_cases c1_0 : x2 = (0 : Int32)
  · refine z_tableIn (tgt := 28) C d_Ga_figure_1 (by rw [c1_0]; decide) (by rw [c1_0]; decide) (by rw [c1_0]; rfl) (by decide) ?_
    have hS2 := hS0.1 c1_0
    refine z_aload_n C d_Ga_figure_28 rfl 0 rfl ?_
    refine z_get C 0 rfl rfl in_Ga 3 (by decide) rfl wf_Ga_22 rfl d_Ga_figure_29 ?_
    refine z_iload_n C d_Ga_figure_32 rfl 1 rfl ?_
    refine z_dald C 2 1 rfl rfl hS2.1 d_Ga_figure_33 ?_
    have hS3 := hS2.2
    exact z_dret C hr hlk () rfl hS3 d_Ga_figure_34
  have hS4 := hS0.2 c1_0
  by_cases c1_1 : x2 = (1 : Int32)
  · refine z_tableIn (tgt := 35) C d_Ga_figure_1 (by rw [c1_1]; decide) (by rw [c1_1]; decide) (by rw [c1_1]; rfl) (by decide) ?_
    have hS5 := hS4.1 c1_1
    refine z_aload_n C d_Ga_figure_35 rfl 0 rfl ?_
    refine z_get C 0 rfl rfl in_Ga 1 (by decide) rfl wf_Ga_15 rfl d_Ga_figure_36 ?_
    refine z_iload_n C d_Ga_figure_39 rfl 1 rfl ?_
    refine z_dald C 4 1 rfl rfl hS5.1 d_Ga_figure_40 ?_
    have hS6 := hS5.2
    exact z_dret C hr hlk () rfl hS6 d_Ga_figure_41
  have hS7 := hS4.2 c1_1
  by_cases c1_2 : x2 = (2 : Int32)
  · refine z_tableIn (tgt := 42) C d_Ga_figure_1 (by rw [c1_2]; decide) (by rw [c1_2]; decide) (by rw [c1_2]; rfl) (by decide) ?_
    have hS8 := hS7.1 c1_2
    refine z_aload_n C d_Ga_figure_42 rfl 0 rfl ?_
    refine z_get C 0 rfl rfl in_Ga 2 (by decide) rfl wf_Ga_19 rfl d_Ga_figure_43 ?_
    refine z_iload_n C d_Ga_figure_46 rfl 1 rfl ?_
    refine z_dald C 3 1 rfl rfl hS8.1 d_Ga_figure_47 ?_
    have hS9 := hS8.2
    exact z_dret C hr hlk () rfl hS9 d_Ga_figure_48
  have hS10 := hS7.2 c1_2
  refine z_tableOut (tgt := 49) C d_Ga_figure_1 (zto_0_2 c1_0 c1_1 c1_2) (by decide) ?_
  refine z_aload_n C d_Ga_figure_49 rfl 0 rfl ?_
  refine z_get C 0 rfl rfl in_Ga 4 (by decide) rfl wf_Ga_25 rfl d_Ga_figure_50 ?_
  refine z_iload_n C d_Ga_figure_53 rfl 1 rfl ?_
  refine z_iald C 1 0 rfl rfl hS10.1 d_Ga_figure_54 ?_
  have hS11 := hS10.2
  refine z_if_ne (tgt := 62) C d_Ga_figure_55 (by decide) (fun c12 => ?_) (fun c12 => ?_)
  · have hS13 := hS11.1 c12
    refine z_aload_n C d_Ga_figure_62 rfl 0 rfl ?_
    refine z_get C 0 rfl rfl in_Ga 3 (by decide) rfl wf_Ga_22 rfl d_Ga_figure_63 ?_
    refine z_iload_n C d_Ga_figure_66 rfl 1 rfl ?_
    refine z_dald C 2 1 rfl rfl hS13.1 d_Ga_figure_67 ?_
    have hS14 := hS13.2
    refine z_aload_n C d_Ga_figure_68 rfl 0 rfl ?_
    refine z_get C 0 rfl rfl in_Ga 4 (by decide) rfl wf_Ga_25 rfl d_Ga_figure_69 ?_
    refine z_iload_n C d_Ga_figure_72 rfl 1 rfl ?_
    refine z_iald C 1 0 rfl rfl hS14.1 d_Ga_figure_73 ?_
    have hS15 := hS14.2
    refine z_i2d C d_Ga_figure_74 ?_
    refine z_ddiv C d_Ga_figure_75 hS15.1 ?_
    have hS16 := hS15.2
    exact z_dret C hr hlk () rfl hS16 d_Ga_figure_76
  · have hS13 := hS11.2 c12
    refine z_dconst0 C d_Ga_figure_58 ?_
    refine z_goto (tgt := 76) C d_Ga_figure_59 (by decide) ?_
    exact z_dret C hr hlk () rfl hS13 d_Ga_figure_76
def s_Ga_figure (t_values : Nat → Int32) (t_sums : Nat → UInt64) (t_greatest : Nat → UInt64) (t_least : Nat → UInt64) (x1 : Int32) (x2 : Int32) : UInt64 := (if x2 = (0 : Int32) then t_sums x1.toNatClampNeg else (if x2 = (1 : Int32) then t_least x1.toNatClampNeg else (if x2 = (2 : Int32) then t_greatest x1.toNatClampNeg else (if (t_values x1.toNatClampNeg) = 0 then FP.dconst0 else FP.ddiv (t_sums x1.toNatClampNeg) (FP.i2d (t_values x1.toNatClampNeg))))))
def p_Ga_figure (t_values : Nat → Int32) (t_sums : Nat → UInt64) (t_greatest : Nat → UInt64) (t_least : Nat → UInt64) (x1 : Int32) (x2 : Int32) : Prop := WP_Ga_figure t_values t_sums t_greatest t_least x1 x2 (fun _ _ => True)
set_option maxRecDepth 100000 in
theorem v_Ga_figure (t_values : Nat → Int32) (t_sums : Nat → UInt64) (t_greatest : Nat → UInt64) (t_least : Nat → UInt64) (x1 : Int32) (x2 : Int32) (hp : p_Ga_figure t_values t_sums t_greatest t_least x1 x2) : WP_Ga_figure t_values t_sums t_greatest t_least x1 x2 (fun r u => s_Ga_figure t_values t_sums t_greatest t_least x1 x2 = r) := by
  unfold p_Ga_figure WP_Ga_figure at hp
  obtain ⟨tgt, f0⟩ : ∃ tgt, s_Ga_figure t_values t_sums t_greatest t_least x1 x2 = tgt := ⟨_, rfl⟩
  rw [f0]
  unfold s_Ga_figure at f0
  unfold WP_Ga_figure
  refine ⟨fun c1_0 => ?_, fun c1_0 => ?_⟩
  · have f1 := Eq.trans (Eq.symm (if_pos c1_0)) f0
    have g1 := hp.1 c1_0
    refine ⟨g1.1, ?_⟩
    have g2 := g1.2
    exact f1.symm
  · have f1 := Eq.trans (Eq.symm (if_neg c1_0)) f0
    have g1 := hp.2 c1_0
    refine ⟨fun c1_1 => ?_, fun c1_1 => ?_⟩
    · have f3 := Eq.trans (Eq.symm (if_pos c1_1)) f1
      have g3 := g1.1 c1_1
      refine ⟨g3.1, ?_⟩
      have g4 := g3.2
      exact f3.symm
    · have f3 := Eq.trans (Eq.symm (if_neg c1_1)) f1
      have g3 := g1.2 c1_1
      refine ⟨fun c1_2 => ?_, fun c1_2 => ?_⟩
      · have f5 := Eq.trans (Eq.symm (if_pos c1_2)) f3
        have g5 := g3.1 c1_2
        refine ⟨g5.1, ?_⟩
        have g6 := g5.2
        exact f5.symm
      · have f5 := Eq.trans (Eq.symm (if_neg c1_2)) f3
        have g5 := g3.2 c1_2
        refine ⟨g5.1, ?_⟩
        have g7 := g5.2
        refine ⟨fun c12 => ?_, fun c12 => ?_⟩
        · have f8 := Eq.trans (Eq.symm (if_neg c12)) f5
          have g8 := g7.1 c12
          refine ⟨g8.1, ?_⟩
          have g9 := g8.2
          refine ⟨g9.1, ?_⟩
          have g10 := g9.2
          refine ⟨g10.1, ?_⟩
          have g11 := g10.2
          exact f8.symm
        · have f8 := Eq.trans (Eq.symm (if_pos c12)) f5
          have g8 := g7.2 c12
          exact f8.symm
theorem c_Ga_figure (l : Launch) (D : va_G) (K : Nat → ClassId) (q_t : Nat) (q_t_keys : Nat) (q_t_least : Nat) (q_t_greatest : Nat) (q_t_sums : Nat) (q_t_values : Nat) (q_t_bins : Nat) (t_size : Int32) (t_values : Nat → Int32) (t_sums : Nat → UInt64) (t_greatest : Nat → UInt64) (t_least : Nat → UInt64) (x1 : Int32) (x2 : Int32) (hp : p_Ga_figure t_values t_sums t_greatest t_least x1 x2) : zCd l y_Ga_figure wy_Ga_figure rm_Ga_figure D zcl (zT K) [.ref q_t, .int x1, .int x2] (w_Ga_figure K q_t q_t_keys q_t_least q_t_greatest q_t_sums q_t_values q_t_bins t_size t_values t_sums t_greatest t_least ()) (w_Ga_figure K q_t q_t_keys q_t_least q_t_greatest q_t_sums q_t_values q_t_bins t_size t_values t_sums t_greatest t_least) (fun r u => s_Ga_figure t_values t_sums t_greatest t_least x1 x2 = r) 0 0 := cw_Ga_figure l D K q_t q_t_keys q_t_least q_t_greatest q_t_sums q_t_values q_t_bins t_size t_values t_sums t_greatest t_least x1 x2 (v_Ga_figure t_values t_sums t_greatest t_least x1 x2 hp)
