-- RuleTracer$RuleText.byteAt(JI)I: reads [], changes []
abbrev w_Te_byteAt (K : Nat → ClassId)   (u : Unit) : va_W := []
abbrev rm_Te_byteAt : Room := { frames := 0, cells := 0, slots := 0, locals := 0 }
abbrev wy_Te_byteAt : List Cond := .code y_Te_byteAt b_Te_byteAt 3 (some .int) :: zWT
def WP_Te_byteAt (x0 : Int64) (x2 : Int32) (Q : Int32 → Unit → Prop) : Prop := Q ((((x0.toUInt64 >>> (x2.toInt64.toUInt64 &&& Int64.toUInt64 63)).toInt64).toInt32) &&& (255 : Int32)) ()
set_option maxHeartbeats 4000000 in
set_option maxRecDepth 100000 in
theorem cw_Te_byteAt (l : Launch) (D : va_G) (K : Nat → ClassId)  (x0 : Int64) (x2 : Int32) {Q : Int32 → Unit → Prop} (hS0 : WP_Te_byteAt x0 x2 Q) : zCi l y_Te_byteAt wy_Te_byteAt rm_Te_byteAt D zcl (zT K) [.long x0, .int x2] (w_Te_byteAt K ()) (w_Te_byteAt K) Q 0 0 := by
  refine z_meti (cc := b_Te_byteAt) (maxL := 3) (ret := (some .int)) (by decide) rfl (Nat.le_of_ble_eq_true rfl) ?_
  intro p e s m args below meth c A C hr hlk hnm
  refine z_lpick (lv' := [(0, .long x0), (2, .int x2)]) [0, 1] rfl ?_
  refine z_weq (ws' := []) rfl ?_
  refine z_lload_n C d_Te_byteAt_0 rfl 0 rfl ?_
  refine z_iload_n C d_Te_byteAt_1 rfl 1 rfl ?_
  refine z_lushr C d_Te_byteAt_2 ?_
  refine z_l2i C d_Te_byteAt_3 ?_
  refine z_sipush (v := (255 : Int32)) C d_Te_byteAt_4 (by decide) ?_
  refine z_iand C d_Te_byteAt_7 ?_
  exact z_iret C hr hlk () rfl hS0 d_Te_byteAt_8
def s_Te_byteAt (x0 : Int64) (x2 : Int32) : Int32 := (((x0.toUInt64 >>> (x2.toInt64.toUInt64 &&& Int64.toUInt64 63)).toInt64).toInt32) &&& (255 : Int32)
set_option maxRecDepth 100000 in
theorem v_Te_byteAt (x0 : Int64) (x2 : Int32) : WP_Te_byteAt x0 x2 (fun r u => s_Te_byteAt x0 x2 = r) := by
  obtain ⟨tgt, f0⟩ : ∃ tgt, s_Te_byteAt x0 x2 = tgt := ⟨_, rfl⟩
  rw [f0]
  unfold s_Te_byteAt at f0
  unfold WP_Te_byteAt
  exact f0.symm
theorem c_Te_byteAt (l : Launch) (D : va_G) (K : Nat → ClassId)  (x0 : Int64) (x2 : Int32) : zCi l y_Te_byteAt wy_Te_byteAt rm_Te_byteAt D zcl (zT K) [.long x0, .int x2] (w_Te_byteAt K ()) (w_Te_byteAt K) (fun r u => s_Te_byteAt x0 x2 = r) 0 0 := cw_Te_byteAt l D K x0 x2 (v_Te_byteAt x0 x2)
-- RuleTracer$RuleText.levelOf(C)I: reads [], changes []
abbrev w_Te_levelOf (K : Nat → ClassId)   (u : Unit) : va_W := []
abbrev rm_Te_levelOf : Room := { frames := 0, cells := 0, slots := 0, locals := 0 }
abbrev wy_Te_levelOf : List Cond := .code y_Te_levelOf b_Te_levelOf 1 (some .int) :: zWT
def WP_Te_levelOf (x0 : Int32) (Q : Int32 → Unit → Prop) : Prop := ((x0 = (42 : Int32)) → Q (2 : Int32) ()) ∧ ((¬ x0 = (42 : Int32)) → ((x0 = (43 : Int32)) → Q (1 : Int32) ()) ∧ ((¬ x0 = (43 : Int32)) → ((x0 = (44 : Int32)) → Q (-1 : Int32) ()) ∧ ((¬ x0 = (44 : Int32)) → ((x0 = (45 : Int32)) → Q (1 : Int32) ()) ∧ ((¬ x0 = (45 : Int32)) → ((x0 = (46 : Int32)) → Q (-1 : Int32) ()) ∧ ((¬ x0 = (46 : Int32)) → ((x0 = (47 : Int32)) → Q (-1 : Int32) ()) ∧ ((¬ x0 = (47 : Int32)) → ((x0 = (48 : Int32)) → Q (-1 : Int32) ()) ∧ ((¬ x0 = (48 : Int32)) → ((x0 = (49 : Int32)) → Q (-1 : Int32) ()) ∧ ((¬ x0 = (49 : Int32)) → ((x0 = (50 : Int32)) → Q (-1 : Int32) ()) ∧ ((¬ x0 = (50 : Int32)) → ((x0 = (51 : Int32)) → Q (-1 : Int32) ()) ∧ ((¬ x0 = (51 : Int32)) → ((x0 = (52 : Int32)) → Q (-1 : Int32) ()) ∧ ((¬ x0 = (52 : Int32)) → ((x0 = (53 : Int32)) → Q (-1 : Int32) ()) ∧ ((¬ x0 = (53 : Int32)) → ((x0 = (54 : Int32)) → Q (-1 : Int32) ()) ∧ ((¬ x0 = (54 : Int32)) → ((x0 = (55 : Int32)) → Q (-1 : Int32) ()) ∧ ((¬ x0 = (55 : Int32)) → ((x0 = (56 : Int32)) → Q (-1 : Int32) ()) ∧ ((¬ x0 = (56 : Int32)) → ((x0 = (57 : Int32)) → Q (-1 : Int32) ()) ∧ ((¬ x0 = (57 : Int32)) → ((x0 = (58 : Int32)) → Q (2 : Int32) ()) ∧ ((¬ x0 = (58 : Int32)) → ((x0 = (59 : Int32)) → Q (-1 : Int32) ()) ∧ ((¬ x0 = (59 : Int32)) → ((x0 = (60 : Int32)) → Q (0 : Int32) ()) ∧ ((¬ x0 = (60 : Int32)) → ((x0 = (61 : Int32)) → Q (0 : Int32) ()) ∧ ((¬ x0 = (61 : Int32)) → ((x0 = (62 : Int32)) → Q (0 : Int32) ()) ∧ ((¬ x0 = (62 : Int32)) → Q (-1 : Int32) ())))))))))))))))))))))
set_option maxHeartbeats 4000000 in
set_option maxRecDepth 100000 in
theorem cw_Te_levelOf (l : Launch) (D : va_G) (K : Nat → ClassId)  (x0 : Int32) {Q : Int32 → Unit → Prop} (hS0 : WP_Te_levelOf x0 Q) : zCi l y_Te_levelOf wy_Te_levelOf rm_Te_levelOf D zcl (zT K) [.int x0] (w_Te_levelOf K ()) (w_Te_levelOf K) Q 0 0 := by
  refine z_meti (cc := b_Te_levelOf) (maxL := 1) (ret := (some .int)) (by decide) rfl (Nat.le_of_ble_eq_true rfl) ?_
  intro p e s m args below meth c A C hr hlk hnm
  refine z_lpick (lv' := [(0, .int x0)]) [0] rfl ?_
  refine z_weq (ws' := []) rfl ?_
  refine z_iload_n C d_Te_levelOf_0 rfl 0 rfl ?_
  by_cases c1_0 : x0 = (42 : Int32)
  · refine z_tableIn (tgt := 104) C d_Te_levelOf_1 (by rw [c1_0]; decide) (by rw [c1_0]; decide) (by rw [c1_0]; rfl) (by decide) ?_
    have hS2 := hS0.1 c1_0
    refine z_iconst (v := (2 : Int32)) C d_Te_levelOf_104 (by decide) ?_
    exact z_iret C hr hlk () rfl hS2 d_Te_levelOf_105
  have hS3 := hS0.2 c1_0
  by_cases c1_1 : x0 = (43 : Int32)
  · refine z_tableIn (tgt := 102) C d_Te_levelOf_1 (by rw [c1_1]; decide) (by rw [c1_1]; decide) (by rw [c1_1]; rfl) (by decide) ?_
    have hS4 := hS3.1 c1_1
    refine z_iconst (v := (1 : Int32)) C d_Te_levelOf_102 (by decide) ?_
    exact z_iret C hr hlk () rfl hS4 d_Te_levelOf_103
  have hS5 := hS3.2 c1_1
  by_cases c1_2 : x0 = (44 : Int32)
  · refine z_tableIn (tgt := 106) C d_Te_levelOf_1 (by rw [c1_2]; decide) (by rw [c1_2]; decide) (by rw [c1_2]; rfl) (by decide) ?_
    have hS6 := hS5.1 c1_2
    refine z_iconst (v := (-1 : Int32)) C d_Te_levelOf_106 (by decide) ?_
    exact z_iret C hr hlk () rfl hS6 d_Te_levelOf_107
  have hS7 := hS5.2 c1_2
  by_cases c1_3 : x0 = (45 : Int32)
  · refine z_tableIn (tgt := 102) C d_Te_levelOf_1 (by rw [c1_3]; decide) (by rw [c1_3]; decide) (by rw [c1_3]; rfl) (by decide) ?_
    have hS8 := hS7.1 c1_3
    refine z_iconst (v := (1 : Int32)) C d_Te_levelOf_102 (by decide) ?_
    exact z_iret C hr hlk () rfl hS8 d_Te_levelOf_103
  have hS9 := hS7.2 c1_3
  by_cases c1_4 : x0 = (46 : Int32)
  · refine z_tableIn (tgt := 106) C d_Te_levelOf_1 (by rw [c1_4]; decide) (by rw [c1_4]; decide) (by rw [c1_4]; rfl) (by decide) ?_
    have hS10 := hS9.1 c1_4
    refine z_iconst (v := (-1 : Int32)) C d_Te_levelOf_106 (by decide) ?_
    exact z_iret C hr hlk () rfl hS10 d_Te_levelOf_107
  have hS11 := hS9.2 c1_4
  by_cases c1_5 : x0 = (47 : Int32)
  · refine z_tableIn (tgt := 106) C d_Te_levelOf_1 (by rw [c1_5]; decide) (by rw [c1_5]; decide) (by rw [c1_5]; rfl) (by decide) ?_
    have hS12 := hS11.1 c1_5
    refine z_iconst (v := (-1 : Int32)) C d_Te_levelOf_106 (by decide) ?_
    exact z_iret C hr hlk () rfl hS12 d_Te_levelOf_107
  have hS13 := hS11.2 c1_5
  by_cases c1_6 : x0 = (48 : Int32)
  · refine z_tableIn (tgt := 106) C d_Te_levelOf_1 (by rw [c1_6]; decide) (by rw [c1_6]; decide) (by rw [c1_6]; rfl) (by decide) ?_
    have hS14 := hS13.1 c1_6
    refine z_iconst (v := (-1 : Int32)) C d_Te_levelOf_106 (by decide) ?_
    exact z_iret C hr hlk () rfl hS14 d_Te_levelOf_107
  have hS15 := hS13.2 c1_6
  by_cases c1_7 : x0 = (49 : Int32)
  · refine z_tableIn (tgt := 106) C d_Te_levelOf_1 (by rw [c1_7]; decide) (by rw [c1_7]; decide) (by rw [c1_7]; rfl) (by decide) ?_
    have hS16 := hS15.1 c1_7
    refine z_iconst (v := (-1 : Int32)) C d_Te_levelOf_106 (by decide) ?_
    exact z_iret C hr hlk () rfl hS16 d_Te_levelOf_107
  have hS17 := hS15.2 c1_7
  by_cases c1_8 : x0 = (50 : Int32)
  · refine z_tableIn (tgt := 106) C d_Te_levelOf_1 (by rw [c1_8]; decide) (by rw [c1_8]; decide) (by rw [c1_8]; rfl) (by decide) ?_
    have hS18 := hS17.1 c1_8
    refine z_iconst (v := (-1 : Int32)) C d_Te_levelOf_106 (by decide) ?_
    exact z_iret C hr hlk () rfl hS18 d_Te_levelOf_107
  have hS19 := hS17.2 c1_8
  by_cases c1_9 : x0 = (51 : Int32)
  · refine z_tableIn (tgt := 106) C d_Te_levelOf_1 (by rw [c1_9]; decide) (by rw [c1_9]; decide) (by rw [c1_9]; rfl) (by decide) ?_
    have hS20 := hS19.1 c1_9
    refine z_iconst (v := (-1 : Int32)) C d_Te_levelOf_106 (by decide) ?_
    exact z_iret C hr hlk () rfl hS20 d_Te_levelOf_107
  have hS21 := hS19.2 c1_9
  by_cases c1_10 : x0 = (52 : Int32)
  · refine z_tableIn (tgt := 106) C d_Te_levelOf_1 (by rw [c1_10]; decide) (by rw [c1_10]; decide) (by rw [c1_10]; rfl) (by decide) ?_
    have hS22 := hS21.1 c1_10
    refine z_iconst (v := (-1 : Int32)) C d_Te_levelOf_106 (by decide) ?_
    exact z_iret C hr hlk () rfl hS22 d_Te_levelOf_107
  have hS23 := hS21.2 c1_10
  by_cases c1_11 : x0 = (53 : Int32)
  · refine z_tableIn (tgt := 106) C d_Te_levelOf_1 (by rw [c1_11]; decide) (by rw [c1_11]; decide) (by rw [c1_11]; rfl) (by decide) ?_
    have hS24 := hS23.1 c1_11
    refine z_iconst (v := (-1 : Int32)) C d_Te_levelOf_106 (by decide) ?_
    exact z_iret C hr hlk () rfl hS24 d_Te_levelOf_107
  have hS25 := hS23.2 c1_11
  by_cases c1_12 : x0 = (54 : Int32)
  · refine z_tableIn (tgt := 106) C d_Te_levelOf_1 (by rw [c1_12]; decide) (by rw [c1_12]; decide) (by rw [c1_12]; rfl) (by decide) ?_
    have hS26 := hS25.1 c1_12
    refine z_iconst (v := (-1 : Int32)) C d_Te_levelOf_106 (by decide) ?_
    exact z_iret C hr hlk () rfl hS26 d_Te_levelOf_107
  have hS27 := hS25.2 c1_12
  by_cases c1_13 : x0 = (55 : Int32)
  · refine z_tableIn (tgt := 106) C d_Te_levelOf_1 (by rw [c1_13]; decide) (by rw [c1_13]; decide) (by rw [c1_13]; rfl) (by decide) ?_
    have hS28 := hS27.1 c1_13
    refine z_iconst (v := (-1 : Int32)) C d_Te_levelOf_106 (by decide) ?_
    exact z_iret C hr hlk () rfl hS28 d_Te_levelOf_107
  have hS29 := hS27.2 c1_13
  by_cases c1_14 : x0 = (56 : Int32)
  · refine z_tableIn (tgt := 106) C d_Te_levelOf_1 (by rw [c1_14]; decide) (by rw [c1_14]; decide) (by rw [c1_14]; rfl) (by decide) ?_
    have hS30 := hS29.1 c1_14
    refine z_iconst (v := (-1 : Int32)) C d_Te_levelOf_106 (by decide) ?_
    exact z_iret C hr hlk () rfl hS30 d_Te_levelOf_107
  have hS31 := hS29.2 c1_14
  by_cases c1_15 : x0 = (57 : Int32)
  · refine z_tableIn (tgt := 106) C d_Te_levelOf_1 (by rw [c1_15]; decide) (by rw [c1_15]; decide) (by rw [c1_15]; rfl) (by decide) ?_
    have hS32 := hS31.1 c1_15
    refine z_iconst (v := (-1 : Int32)) C d_Te_levelOf_106 (by decide) ?_
    exact z_iret C hr hlk () rfl hS32 d_Te_levelOf_107
  have hS33 := hS31.2 c1_15
  by_cases c1_16 : x0 = (58 : Int32)
  · refine z_tableIn (tgt := 104) C d_Te_levelOf_1 (by rw [c1_16]; decide) (by rw [c1_16]; decide) (by rw [c1_16]; rfl) (by decide) ?_
    have hS34 := hS33.1 c1_16
    refine z_iconst (v := (2 : Int32)) C d_Te_levelOf_104 (by decide) ?_
    exact z_iret C hr hlk () rfl hS34 d_Te_levelOf_105
  have hS35 := hS33.2 c1_16
  by_cases c1_17 : x0 = (59 : Int32)
  · refine z_tableIn (tgt := 106) C d_Te_levelOf_1 (by rw [c1_17]; decide) (by rw [c1_17]; decide) (by rw [c1_17]; rfl) (by decide) ?_
    have hS36 := hS35.1 c1_17
    refine z_iconst (v := (-1 : Int32)) C d_Te_levelOf_106 (by decide) ?_
    exact z_iret C hr hlk () rfl hS36 d_Te_levelOf_107
  have hS37 := hS35.2 c1_17
  by_cases c1_18 : x0 = (60 : Int32)
  · refine z_tableIn (tgt := 100) C d_Te_levelOf_1 (by rw [c1_18]; decide) (by rw [c1_18]; decide) (by rw [c1_18]; rfl) (by decide) ?_
    have hS38 := hS37.1 c1_18
    refine z_iconst (v := (0 : Int32)) C d_Te_levelOf_100 (by decide) ?_
    exact z_iret C hr hlk () rfl hS38 d_Te_levelOf_101
  have hS39 := hS37.2 c1_18
  by_cases c1_19 : x0 = (61 : Int32)
  · refine z_tableIn (tgt := 100) C d_Te_levelOf_1 (by rw [c1_19]; decide) (by rw [c1_19]; decide) (by rw [c1_19]; rfl) (by decide) ?_
    have hS40 := hS39.1 c1_19
    refine z_iconst (v := (0 : Int32)) C d_Te_levelOf_100 (by decide) ?_
    exact z_iret C hr hlk () rfl hS40 d_Te_levelOf_101
  have hS41 := hS39.2 c1_19
  by_cases c1_20 : x0 = (62 : Int32)
  · refine z_tableIn (tgt := 100) C d_Te_levelOf_1 (by rw [c1_20]; decide) (by rw [c1_20]; decide) (by rw [c1_20]; rfl) (by decide) ?_
    have hS42 := hS41.1 c1_20
    refine z_iconst (v := (0 : Int32)) C d_Te_levelOf_100 (by decide) ?_
    exact z_iret C hr hlk () rfl hS42 d_Te_levelOf_101
  have hS43 := hS41.2 c1_20
  refine z_tableOut (tgt := 106) C d_Te_levelOf_1 (zto_42_62 c1_0 c1_1 c1_2 c1_3 c1_4 c1_5 c1_6 c1_7 c1_8 c1_9 c1_10 c1_11 c1_12 c1_13 c1_14 c1_15 c1_16 c1_17 c1_18 c1_19 c1_20) (by decide) ?_
  refine z_iconst (v := (-1 : Int32)) C d_Te_levelOf_106 (by decide) ?_
  exact z_iret C hr hlk () rfl hS43 d_Te_levelOf_107
def s_Te_levelOf (x0 : Int32) : Int32 := (if x0 = (42 : Int32) then (2 : Int32) else (if x0 = (43 : Int32) then (1 : Int32) else (if x0 = (44 : Int32) then (-1 : Int32) else (if x0 = (45 : Int32) then (1 : Int32) else (if x0 = (46 : Int32) then (-1 : Int32) else (if x0 = (47 : Int32) then (-1 : Int32) else (if x0 = (48 : Int32) then (-1 : Int32) else (if x0 = (49 : Int32) then (-1 : Int32) else (if x0 = (50 : Int32) then (-1 : Int32) else (if x0 = (51 : Int32) then (-1 : Int32) else (if x0 = (52 : Int32) then (-1 : Int32) else (if x0 = (53 : Int32) then (-1 : Int32) else (if x0 = (54 : Int32) then (-1 : Int32) else (if x0 = (55 : Int32) then (-1 : Int32) else (if x0 = (56 : Int32) then (-1 : Int32) else (if x0 = (57 : Int32) then (-1 : Int32) else (if x0 = (58 : Int32) then (2 : Int32) else (if x0 = (59 : Int32) then (-1 : Int32) else (if x0 = (60 : Int32) then (0 : Int32) else (if x0 = (61 : Int32) then (0 : Int32) else (if x0 = (62 : Int32) then (0 : Int32) else (-1 : Int32))))))))))))))))))))))
set_option maxRecDepth 100000 in
theorem v_Te_levelOf (x0 : Int32) : WP_Te_levelOf x0 (fun r u => s_Te_levelOf x0 = r) := by
  obtain ⟨tgt, f0⟩ : ∃ tgt, s_Te_levelOf x0 = tgt := ⟨_, rfl⟩
  rw [f0]
  unfold s_Te_levelOf at f0
  unfold WP_Te_levelOf
  refine ⟨fun c1_0 => ?_, fun c1_0 => ?_⟩
  · have f1 := Eq.trans (Eq.symm (if_pos c1_0)) f0
    exact f1.symm
  · have f1 := Eq.trans (Eq.symm (if_neg c1_0)) f0
    refine ⟨fun c1_1 => ?_, fun c1_1 => ?_⟩
    · have f2 := Eq.trans (Eq.symm (if_pos c1_1)) f1
      exact f2.symm
    · have f2 := Eq.trans (Eq.symm (if_neg c1_1)) f1
      refine ⟨fun c1_2 => ?_, fun c1_2 => ?_⟩
      · have f3 := Eq.trans (Eq.symm (if_pos c1_2)) f2
        exact f3.symm
      · have f3 := Eq.trans (Eq.symm (if_neg c1_2)) f2
        refine ⟨fun c1_3 => ?_, fun c1_3 => ?_⟩
        · have f4 := Eq.trans (Eq.symm (if_pos c1_3)) f3
          exact f4.symm
        · have f4 := Eq.trans (Eq.symm (if_neg c1_3)) f3
          refine ⟨fun c1_4 => ?_, fun c1_4 => ?_⟩
          · have f5 := Eq.trans (Eq.symm (if_pos c1_4)) f4
            exact f5.symm
          · have f5 := Eq.trans (Eq.symm (if_neg c1_4)) f4
            refine ⟨fun c1_5 => ?_, fun c1_5 => ?_⟩
            · have f6 := Eq.trans (Eq.symm (if_pos c1_5)) f5
              exact f6.symm
            · have f6 := Eq.trans (Eq.symm (if_neg c1_5)) f5
              refine ⟨fun c1_6 => ?_, fun c1_6 => ?_⟩
              · have f7 := Eq.trans (Eq.symm (if_pos c1_6)) f6
                exact f7.symm
              · have f7 := Eq.trans (Eq.symm (if_neg c1_6)) f6
                refine ⟨fun c1_7 => ?_, fun c1_7 => ?_⟩
                · have f8 := Eq.trans (Eq.symm (if_pos c1_7)) f7
                  exact f8.symm
                · have f8 := Eq.trans (Eq.symm (if_neg c1_7)) f7
                  refine ⟨fun c1_8 => ?_, fun c1_8 => ?_⟩
                  · have f9 := Eq.trans (Eq.symm (if_pos c1_8)) f8
                    exact f9.symm
                  · have f9 := Eq.trans (Eq.symm (if_neg c1_8)) f8
                    refine ⟨fun c1_9 => ?_, fun c1_9 => ?_⟩
                    · have f10 := Eq.trans (Eq.symm (if_pos c1_9)) f9
                      exact f10.symm
                    · have f10 := Eq.trans (Eq.symm (if_neg c1_9)) f9
                      refine ⟨fun c1_10 => ?_, fun c1_10 => ?_⟩
                      · have f11 := Eq.trans (Eq.symm (if_pos c1_10)) f10
                        exact f11.symm
                      · have f11 := Eq.trans (Eq.symm (if_neg c1_10)) f10
                        refine ⟨fun c1_11 => ?_, fun c1_11 => ?_⟩
                        · have f12 := Eq.trans (Eq.symm (if_pos c1_11)) f11
                          exact f12.symm
                        · have f12 := Eq.trans (Eq.symm (if_neg c1_11)) f11
                          refine ⟨fun c1_12 => ?_, fun c1_12 => ?_⟩
                          · have f13 := Eq.trans (Eq.symm (if_pos c1_12)) f12
                            exact f13.symm
                          · have f13 := Eq.trans (Eq.symm (if_neg c1_12)) f12
                            refine ⟨fun c1_13 => ?_, fun c1_13 => ?_⟩
                            · have f14 := Eq.trans (Eq.symm (if_pos c1_13)) f13
                              exact f14.symm
                            · have f14 := Eq.trans (Eq.symm (if_neg c1_13)) f13
                              refine ⟨fun c1_14 => ?_, fun c1_14 => ?_⟩
                              · have f15 := Eq.trans (Eq.symm (if_pos c1_14)) f14
                                exact f15.symm
                              · have f15 := Eq.trans (Eq.symm (if_neg c1_14)) f14
                                refine ⟨fun c1_15 => ?_, fun c1_15 => ?_⟩
                                · have f16 := Eq.trans (Eq.symm (if_pos c1_15)) f15
                                  exact f16.symm
                                · have f16 := Eq.trans (Eq.symm (if_neg c1_15)) f15
                                  refine ⟨fun c1_16 => ?_, fun c1_16 => ?_⟩
                                  · have f17 := Eq.trans (Eq.symm (if_pos c1_16)) f16
                                    exact f17.symm
                                  · have f17 := Eq.trans (Eq.symm (if_neg c1_16)) f16
                                    refine ⟨fun c1_17 => ?_, fun c1_17 => ?_⟩
                                    · have f18 := Eq.trans (Eq.symm (if_pos c1_17)) f17
                                      exact f18.symm
                                    · have f18 := Eq.trans (Eq.symm (if_neg c1_17)) f17
                                      refine ⟨fun c1_18 => ?_, fun c1_18 => ?_⟩
                                      · have f19 := Eq.trans (Eq.symm (if_pos c1_18)) f18
                                        exact f19.symm
                                      · have f19 := Eq.trans (Eq.symm (if_neg c1_18)) f18
                                        refine ⟨fun c1_19 => ?_, fun c1_19 => ?_⟩
                                        · have f20 := Eq.trans (Eq.symm (if_pos c1_19)) f19
                                          exact f20.symm
                                        · have f20 := Eq.trans (Eq.symm (if_neg c1_19)) f19
                                          refine ⟨fun c1_20 => ?_, fun c1_20 => ?_⟩
                                          · have f21 := Eq.trans (Eq.symm (if_pos c1_20)) f20
                                            exact f21.symm
                                          · have f21 := Eq.trans (Eq.symm (if_neg c1_20)) f20
                                            exact f21.symm
theorem c_Te_levelOf (l : Launch) (D : va_G) (K : Nat → ClassId)  (x0 : Int32) : zCi l y_Te_levelOf wy_Te_levelOf rm_Te_levelOf D zcl (zT K) [.int x0] (w_Te_levelOf K ()) (w_Te_levelOf K) (fun r u => s_Te_levelOf x0 = r) 0 0 := cw_Te_levelOf l D K x0 (v_Te_levelOf x0)
-- RuleTracer$RuleText.isDigit(C)Z: reads [], changes []
abbrev w_Te_isDigit (K : Nat → ClassId)   (u : Unit) : va_W := []
abbrev rm_Te_isDigit : Room := { frames := 0, cells := 0, slots := 0, locals := 0 }
abbrev wy_Te_isDigit : List Cond := .code y_Te_isDigit b_Te_isDigit 1 (some .boolean) :: zWT
def WP_Te_isDigit (x0 : Int32) (Q : Int32 → Unit → Prop) : Prop := ((x0 < (48 : Int32)) → Q (0 : Int32) ()) ∧ ((¬ x0 < (48 : Int32)) → (((57 : Int32) < x0) → Q (0 : Int32) ()) ∧ ((¬ (57 : Int32) < x0) → Q (1 : Int32) ()))
set_option maxHeartbeats 4000000 in
set_option maxRecDepth 100000 in
theorem cw_Te_isDigit (l : Launch) (D : va_G) (K : Nat → ClassId)  (x0 : Int32) {Q : Int32 → Unit → Prop} (hS0 : WP_Te_isDigit x0 Q) : zCi l y_Te_isDigit wy_Te_isDigit rm_Te_isDigit D zcl (zT K) [.int x0] (w_Te_isDigit K ()) (w_Te_isDigit K) Q 0 0 := by
  refine z_meti (cc := b_Te_isDigit) (maxL := 1) (ret := (some .boolean)) (by decide) rfl (Nat.le_of_ble_eq_true rfl) ?_
  intro p e s m args below meth c A C hr hlk hnm
  refine z_lpick (lv' := [(0, .int x0)]) [0] rfl ?_
  refine z_weq (ws' := []) rfl ?_
  refine z_iload_n C d_Te_isDigit_0 rfl 0 rfl ?_
  refine z_bipush (v := (48 : Int32)) C d_Te_isDigit_1 (by decide) ?_
  refine z_icmp_lt (tgt := 16) C d_Te_isDigit_3 (by decide) (fun c1 => ?_) (fun c1 => ?_)
  · have hS2 := hS0.1 c1
    refine z_iconst (v := (0 : Int32)) C d_Te_isDigit_16 (by decide) ?_
    exact z_zret C hr rfl hlk () rfl hS2 d_Te_isDigit_17
  · have hS2 := hS0.2 c1
    refine z_iload_n C d_Te_isDigit_6 rfl 0 rfl ?_
    refine z_bipush (v := (57 : Int32)) C d_Te_isDigit_7 (by decide) ?_
    refine z_icmp_gt (tgt := 16) C d_Te_isDigit_9 (by decide) (fun c3 => ?_) (fun c3 => ?_)
    · have hS4 := hS2.1 c3
      refine z_iconst (v := (0 : Int32)) C d_Te_isDigit_16 (by decide) ?_
      exact z_zret C hr rfl hlk () rfl hS4 d_Te_isDigit_17
    · have hS4 := hS2.2 c3
      refine z_iconst (v := (1 : Int32)) C d_Te_isDigit_12 (by decide) ?_
      refine z_goto (tgt := 17) C d_Te_isDigit_13 (by decide) ?_
      exact z_zret C hr rfl hlk () rfl hS4 d_Te_isDigit_17
def s_Te_isDigit (x0 : Int32) : Int32 := (if x0 < (48 : Int32) then (0 : Int32) else (if (57 : Int32) < x0 then (0 : Int32) else (1 : Int32)))
set_option maxRecDepth 100000 in
theorem v_Te_isDigit (x0 : Int32) : WP_Te_isDigit x0 (fun r u => s_Te_isDigit x0 = r) := by
  obtain ⟨tgt, f0⟩ : ∃ tgt, s_Te_isDigit x0 = tgt := ⟨_, rfl⟩
  rw [f0]
  unfold s_Te_isDigit at f0
  unfold WP_Te_isDigit
  refine ⟨fun c1 => ?_, fun c1 => ?_⟩
  · have f1 := Eq.trans (Eq.symm (if_pos c1)) f0
    exact f1.symm
  · have f1 := Eq.trans (Eq.symm (if_neg c1)) f0
    refine ⟨fun c3 => ?_, fun c3 => ?_⟩
    · have f2 := Eq.trans (Eq.symm (if_pos c3)) f1
      exact f2.symm
    · have f2 := Eq.trans (Eq.symm (if_neg c3)) f1
      exact f2.symm
theorem c_Te_isDigit (l : Launch) (D : va_G) (K : Nat → ClassId)  (x0 : Int32) : zCi l y_Te_isDigit wy_Te_isDigit rm_Te_isDigit D zcl (zT K) [.int x0] (w_Te_isDigit K ()) (w_Te_isDigit K) (fun r u => s_Te_isDigit x0 = r) 0 0 := cw_Te_isDigit l D K x0 (v_Te_isDigit x0)
-- RuleTracer$RuleText.isName(C)Z: reads [], changes []
abbrev w_Te_isName (K : Nat → ClassId)   (u : Unit) : va_W := []
abbrev rm_Te_isName : Room := { frames := 0, cells := 0, slots := 0, locals := 0 }
abbrev wy_Te_isName : List Cond := .code y_Te_isName b_Te_isName 1 (some .boolean) :: zWT
def WP_Te_isName (x0 : Int32) (Q : Int32 → Unit → Prop) : Prop := ((x0 < (97 : Int32)) → ((x0 < (117 : Int32)) → ((x0 = (116 : Int32)) → Q (1 : Int32) ()) ∧ ((¬ x0 = (116 : Int32)) → ((¬ x0 = (107 : Int32)) → Q (0 : Int32) ()) ∧ ((x0 = (107 : Int32)) → Q (1 : Int32) ()))) ∧ ((¬ x0 < (117 : Int32)) → ((x0 ≤ (122 : Int32)) → Q (1 : Int32) ()) ∧ ((¬ x0 ≤ (122 : Int32)) → ((x0 = (116 : Int32)) → Q (1 : Int32) ()) ∧ ((¬ x0 = (116 : Int32)) → ((¬ x0 = (107 : Int32)) → Q (0 : Int32) ()) ∧ ((x0 = (107 : Int32)) → Q (1 : Int32) ()))))) ∧ ((¬ x0 < (97 : Int32)) → ((x0 ≤ (99 : Int32)) → Q (1 : Int32) ()) ∧ ((¬ x0 ≤ (99 : Int32)) → ((x0 < (117 : Int32)) → ((x0 = (116 : Int32)) → Q (1 : Int32) ()) ∧ ((¬ x0 = (116 : Int32)) → ((¬ x0 = (107 : Int32)) → Q (0 : Int32) ()) ∧ ((x0 = (107 : Int32)) → Q (1 : Int32) ()))) ∧ ((¬ x0 < (117 : Int32)) → ((x0 ≤ (122 : Int32)) → Q (1 : Int32) ()) ∧ ((¬ x0 ≤ (122 : Int32)) → ((x0 = (116 : Int32)) → Q (1 : Int32) ()) ∧ ((¬ x0 = (116 : Int32)) → ((¬ x0 = (107 : Int32)) → Q (0 : Int32) ()) ∧ ((x0 = (107 : Int32)) → Q (1 : Int32) ()))))))
set_option maxHeartbeats 4000000 in
set_option maxRecDepth 100000 in
theorem cw_Te_isName (l : Launch) (D : va_G) (K : Nat → ClassId)  (x0 : Int32) {Q : Int32 → Unit → Prop} (hS0 : WP_Te_isName x0 Q) : zCi l y_Te_isName wy_Te_isName rm_Te_isName D zcl (zT K) [.int x0] (w_Te_isName K ()) (w_Te_isName K) Q 0 0 := by
  refine z_meti (cc := b_Te_isName) (maxL := 1) (ret := (some .boolean)) (by decide) rfl (Nat.le_of_ble_eq_true rfl) ?_
  intro p e s m args below meth c A C hr hlk hnm
  refine z_lpick (lv' := [(0, .int x0)]) [0] rfl ?_
  refine z_weq (ws' := []) rfl ?_
  refine z_iload_n C d_Te_isName_0 rfl 0 rfl ?_
  refine z_bipush (v := (97 : Int32)) C d_Te_isName_1 (by decide) ?_
  refine z_icmp_lt (tgt := 12) C d_Te_isName_3 (by decide) (fun c1 => ?_) (fun c1 => ?_)
  · have hS2 := hS0.1 c1
    refine z_iload_n C d_Te_isName_12 rfl 0 rfl ?_
    refine z_bipush (v := (117 : Int32)) C d_Te_isName_13 (by decide) ?_
    refine z_icmp_lt (tgt := 24) C d_Te_isName_15 (by decide) (fun c3 => ?_) (fun c3 => ?_)
    · have hS4 := hS2.1 c3
      refine z_iload_n C d_Te_isName_24 rfl 0 rfl ?_
      refine z_bipush (v := (116 : Int32)) C d_Te_isName_25 (by decide) ?_
      refine z_icmp_eq (tgt := 36) C d_Te_isName_27 (by decide) (fun c5 => ?_) (fun c5 => ?_)
      · have hS6 := hS4.1 c5
        refine z_iconst (v := (1 : Int32)) C d_Te_isName_36 (by decide) ?_
        refine z_goto (tgt := 41) C d_Te_isName_37 (by decide) ?_
        exact z_zret C hr rfl hlk () rfl hS6 d_Te_isName_41
      · have hS6 := hS4.2 c5
        refine z_iload_n C d_Te_isName_30 rfl 0 rfl ?_
        refine z_bipush (v := (107 : Int32)) C d_Te_isName_31 (by decide) ?_
        refine z_icmp_ne (tgt := 40) C d_Te_isName_33 (by decide) (fun c7 => ?_) (fun c7 => ?_)
        · have hS8 := hS6.1 c7
          refine z_iconst (v := (0 : Int32)) C d_Te_isName_40 (by decide) ?_
          exact z_zret C hr rfl hlk () rfl hS8 d_Te_isName_41
        · have hS8 := hS6.2 c7
          refine z_iconst (v := (1 : Int32)) C d_Te_isName_36 (by decide) ?_
          refine z_goto (tgt := 41) C d_Te_isName_37 (by decide) ?_
          exact z_zret C hr rfl hlk () rfl hS8 d_Te_isName_41
    · have hS4 := hS2.2 c3
      refine z_iload_n C d_Te_isName_18 rfl 0 rfl ?_
      refine z_bipush (v := (122 : Int32)) C d_Te_isName_19 (by decide) ?_
      refine z_icmp_le (tgt := 36) C d_Te_isName_21 (by decide) (fun c9 => ?_) (fun c9 => ?_)
      · have hS10 := hS4.1 c9
        refine z_iconst (v := (1 : Int32)) C d_Te_isName_36 (by decide) ?_
        refine z_goto (tgt := 41) C d_Te_isName_37 (by decide) ?_
        exact z_zret C hr rfl hlk () rfl hS10 d_Te_isName_41
      · have hS10 := hS4.2 c9
        refine z_iload_n C d_Te_isName_24 rfl 0 rfl ?_
        refine z_bipush (v := (116 : Int32)) C d_Te_isName_25 (by decide) ?_
        refine z_icmp_eq (tgt := 36) C d_Te_isName_27 (by decide) (fun c11 => ?_) (fun c11 => ?_)
        · have hS12 := hS10.1 c11
          refine z_iconst (v := (1 : Int32)) C d_Te_isName_36 (by decide) ?_
          refine z_goto (tgt := 41) C d_Te_isName_37 (by decide) ?_
          exact z_zret C hr rfl hlk () rfl hS12 d_Te_isName_41
        · have hS12 := hS10.2 c11
          refine z_iload_n C d_Te_isName_30 rfl 0 rfl ?_
          refine z_bipush (v := (107 : Int32)) C d_Te_isName_31 (by decide) ?_
          refine z_icmp_ne (tgt := 40) C d_Te_isName_33 (by decide) (fun c13 => ?_) (fun c13 => ?_)
          · have hS14 := hS12.1 c13
            refine z_iconst (v := (0 : Int32)) C d_Te_isName_40 (by decide) ?_
            exact z_zret C hr rfl hlk () rfl hS14 d_Te_isName_41
          · have hS14 := hS12.2 c13
            refine z_iconst (v := (1 : Int32)) C d_Te_isName_36 (by decide) ?_
            refine z_goto (tgt := 41) C d_Te_isName_37 (by decide) ?_
            exact z_zret C hr rfl hlk () rfl hS14 d_Te_isName_41
  · have hS2 := hS0.2 c1
    refine z_iload_n C d_Te_isName_6 rfl 0 rfl ?_
    refine z_bipush (v := (99 : Int32)) C d_Te_isName_7 (by decide) ?_
    refine z_icmp_le (tgt := 36) C d_Te_isName_9 (by decide) (fun c15 => ?_) (fun c15 => ?_)
    · have hS16 := hS2.1 c15
      refine z_iconst (v := (1 : Int32)) C d_Te_isName_36 (by decide) ?_
      refine z_goto (tgt := 41) C d_Te_isName_37 (by decide) ?_
      exact z_zret C hr rfl hlk () rfl hS16 d_Te_isName_41
    · have hS16 := hS2.2 c15
      refine z_iload_n C d_Te_isName_12 rfl 0 rfl ?_
      refine z_bipush (v := (117 : Int32)) C d_Te_isName_13 (by decide) ?_
      refine z_icmp_lt (tgt := 24) C d_Te_isName_15 (by decide) (fun c17 => ?_) (fun c17 => ?_)
      · have hS18 := hS16.1 c17
        refine z_iload_n C d_Te_isName_24 rfl 0 rfl ?_
        refine z_bipush (v := (116 : Int32)) C d_Te_isName_25 (by decide) ?_
        refine z_icmp_eq (tgt := 36) C d_Te_isName_27 (by decide) (fun c19 => ?_) (fun c19 => ?_)
        · have hS20 := hS18.1 c19
          refine z_iconst (v := (1 : Int32)) C d_Te_isName_36 (by decide) ?_
          refine z_goto (tgt := 41) C d_Te_isName_37 (by decide) ?_
          exact z_zret C hr rfl hlk () rfl hS20 d_Te_isName_41
        · have hS20 := hS18.2 c19
          refine z_iload_n C d_Te_isName_30 rfl 0 rfl ?_
          refine z_bipush (v := (107 : Int32)) C d_Te_isName_31 (by decide) ?_
          refine z_icmp_ne (tgt := 40) C d_Te_isName_33 (by decide) (fun c21 => ?_) (fun c21 => ?_)
          · have hS22 := hS20.1 c21
            refine z_iconst (v := (0 : Int32)) C d_Te_isName_40 (by decide) ?_
            exact z_zret C hr rfl hlk () rfl hS22 d_Te_isName_41
          · have hS22 := hS20.2 c21
            refine z_iconst (v := (1 : Int32)) C d_Te_isName_36 (by decide) ?_
            refine z_goto (tgt := 41) C d_Te_isName_37 (by decide) ?_
            exact z_zret C hr rfl hlk () rfl hS22 d_Te_isName_41
      · have hS18 := hS16.2 c17
        refine z_iload_n C d_Te_isName_18 rfl 0 rfl ?_
        refine z_bipush (v := (122 : Int32)) C d_Te_isName_19 (by decide) ?_
        refine z_icmp_le (tgt := 36) C d_Te_isName_21 (by decide) (fun c23 => ?_) (fun c23 => ?_)
        · have hS24 := hS18.1 c23
          refine z_iconst (v := (1 : Int32)) C d_Te_isName_36 (by decide) ?_
          refine z_goto (tgt := 41) C d_Te_isName_37 (by decide) ?_
          exact z_zret C hr rfl hlk () rfl hS24 d_Te_isName_41
        · have hS24 := hS18.2 c23
          refine z_iload_n C d_Te_isName_24 rfl 0 rfl ?_
          refine z_bipush (v := (116 : Int32)) C d_Te_isName_25 (by decide) ?_
          refine z_icmp_eq (tgt := 36) C d_Te_isName_27 (by decide) (fun c25 => ?_) (fun c25 => ?_)
          · have hS26 := hS24.1 c25
            refine z_iconst (v := (1 : Int32)) C d_Te_isName_36 (by decide) ?_
            refine z_goto (tgt := 41) C d_Te_isName_37 (by decide) ?_
            exact z_zret C hr rfl hlk () rfl hS26 d_Te_isName_41
          · have hS26 := hS24.2 c25
            refine z_iload_n C d_Te_isName_30 rfl 0 rfl ?_
            refine z_bipush (v := (107 : Int32)) C d_Te_isName_31 (by decide) ?_
            refine z_icmp_ne (tgt := 40) C d_Te_isName_33 (by decide) (fun c27 => ?_) (fun c27 => ?_)
            · have hS28 := hS26.1 c27
              refine z_iconst (v := (0 : Int32)) C d_Te_isName_40 (by decide) ?_
              exact z_zret C hr rfl hlk () rfl hS28 d_Te_isName_41
            · have hS28 := hS26.2 c27
              refine z_iconst (v := (1 : Int32)) C d_Te_isName_36 (by decide) ?_
              refine z_goto (tgt := 41) C d_Te_isName_37 (by decide) ?_
              exact z_zret C hr rfl hlk () rfl hS28 d_Te_isName_41
def s_Te_isName (x0 : Int32) : Int32 := (if x0 < (97 : Int32) then (if x0 < (117 : Int32) then (if x0 = (116 : Int32) then (1 : Int32) else (if x0 = (107 : Int32) then (1 : Int32) else (0 : Int32))) else (if x0 ≤ (122 : Int32) then (1 : Int32) else (if x0 = (116 : Int32) then (1 : Int32) else (if x0 = (107 : Int32) then (1 : Int32) else (0 : Int32))))) else (if x0 ≤ (99 : Int32) then (1 : Int32) else (if x0 < (117 : Int32) then (if x0 = (116 : Int32) then (1 : Int32) else (if x0 = (107 : Int32) then (1 : Int32) else (0 : Int32))) else (if x0 ≤ (122 : Int32) then (1 : Int32) else (if x0 = (116 : Int32) then (1 : Int32) else (if x0 = (107 : Int32) then (1 : Int32) else (0 : Int32)))))))
set_option maxRecDepth 100000 in
theorem v_Te_isName (x0 : Int32) : WP_Te_isName x0 (fun r u => s_Te_isName x0 = r) := by
  obtain ⟨tgt, f0⟩ : ∃ tgt, s_Te_isName x0 = tgt := ⟨_, rfl⟩
  rw [f0]
  unfold s_Te_isName at f0
  unfold WP_Te_isName
  refine ⟨fun c1 => ?_, fun c1 => ?_⟩
  · have f1 := Eq.trans (Eq.symm (if_pos c1)) f0
    refine ⟨fun c3 => ?_, fun c3 => ?_⟩
    · have f2 := Eq.trans (Eq.symm (if_pos c3)) f1
      refine ⟨fun c5 => ?_, fun c5 => ?_⟩
      · have f3 := Eq.trans (Eq.symm (if_pos c5)) f2
        exact f3.symm
      · have f3 := Eq.trans (Eq.symm (if_neg c5)) f2
        refine ⟨fun c7 => ?_, fun c7 => ?_⟩
        · have f4 := Eq.trans (Eq.symm (if_neg c7)) f3
          exact f4.symm
        · have f4 := Eq.trans (Eq.symm (if_pos c7)) f3
          exact f4.symm
    · have f2 := Eq.trans (Eq.symm (if_neg c3)) f1
      refine ⟨fun c9 => ?_, fun c9 => ?_⟩
      · have f5 := Eq.trans (Eq.symm (if_pos c9)) f2
        exact f5.symm
      · have f5 := Eq.trans (Eq.symm (if_neg c9)) f2
        refine ⟨fun c11 => ?_, fun c11 => ?_⟩
        · have f6 := Eq.trans (Eq.symm (if_pos c11)) f5
          exact f6.symm
        · have f6 := Eq.trans (Eq.symm (if_neg c11)) f5
          refine ⟨fun c13 => ?_, fun c13 => ?_⟩
          · have f7 := Eq.trans (Eq.symm (if_neg c13)) f6
            exact f7.symm
          · have f7 := Eq.trans (Eq.symm (if_pos c13)) f6
            exact f7.symm
  · have f1 := Eq.trans (Eq.symm (if_neg c1)) f0
    refine ⟨fun c15 => ?_, fun c15 => ?_⟩
    · have f8 := Eq.trans (Eq.symm (if_pos c15)) f1
      exact f8.symm
    · have f8 := Eq.trans (Eq.symm (if_neg c15)) f1
      refine ⟨fun c17 => ?_, fun c17 => ?_⟩
      · have f9 := Eq.trans (Eq.symm (if_pos c17)) f8
        refine ⟨fun c19 => ?_, fun c19 => ?_⟩
        · have f10 := Eq.trans (Eq.symm (if_pos c19)) f9
          exact f10.symm
        · have f10 := Eq.trans (Eq.symm (if_neg c19)) f9
          refine ⟨fun c21 => ?_, fun c21 => ?_⟩
          · have f11 := Eq.trans (Eq.symm (if_neg c21)) f10
            exact f11.symm
          · have f11 := Eq.trans (Eq.symm (if_pos c21)) f10
            exact f11.symm
      · have f9 := Eq.trans (Eq.symm (if_neg c17)) f8
        refine ⟨fun c23 => ?_, fun c23 => ?_⟩
        · have f12 := Eq.trans (Eq.symm (if_pos c23)) f9
          exact f12.symm
        · have f12 := Eq.trans (Eq.symm (if_neg c23)) f9
          refine ⟨fun c25 => ?_, fun c25 => ?_⟩
          · have f13 := Eq.trans (Eq.symm (if_pos c25)) f12
            exact f13.symm
          · have f13 := Eq.trans (Eq.symm (if_neg c25)) f12
            refine ⟨fun c27 => ?_, fun c27 => ?_⟩
            · have f14 := Eq.trans (Eq.symm (if_neg c27)) f13
              exact f14.symm
            · have f14 := Eq.trans (Eq.symm (if_pos c27)) f13
              exact f14.symm
theorem c_Te_isName (l : Launch) (D : va_G) (K : Nat → ClassId)  (x0 : Int32) : zCi l y_Te_isName wy_Te_isName rm_Te_isName D zcl (zT K) [.int x0] (w_Te_isName K ()) (w_Te_isName K) (fun r u => s_Te_isName x0 = r) 0 0 := cw_Te_isName l D K x0 (v_Te_isName x0)
-- RuleTracer$RuleText.next()C: reads ['t.length', 't.at', 't.characters'], changes []
abbrev w_Te_next (K : Nat → ClassId) (q_t : Nat) (q_t_characters : Nat) (q_t_draft : Nat) (t_length : Int32) (t_at : Int32) (t_characters : Nat → Int32) (u : Unit) : va_W := [zo 3 q_t [.ref q_t_characters, .ref q_t_draft, .int t_length, .int t_at], zaC K q_t_characters 48 t_characters]
abbrev rm_Te_next : Room := { frames := 0, cells := 0, slots := 0, locals := 0 }
abbrev wy_Te_next : List Cond := .code y_Te_next b_Te_next 1 (some .char) :: zWT
def WP_Te_next (t_length : Int32) (t_at : Int32) (t_characters : Nat → Int32) (Q : Int32 → Unit → Prop) : Prop := ((t_length ≤ t_at) → Q (0 : Int32) ()) ∧ ((¬ t_length ≤ t_at) → (((48 : Int32) ≤ t_at) → Q (0 : Int32) ()) ∧ ((¬ (48 : Int32) ≤ t_at) → vp_in t_at 48 ∧ (narrow .char (.int (t_characters t_at.toNatClampNeg)) = .int (t_characters t_at.toNatClampNeg) ∧ Q (t_characters t_at.toNatClampNeg) ())))
set_option maxHeartbeats 4000000 in
set_option maxRecDepth 100000 in
theorem cw_Te_next (l : Launch) (D : va_G) (K : Nat → ClassId) (q_t : Nat) (q_t_characters : Nat) (q_t_draft : Nat) (t_length : Int32) (t_at : Int32) (t_characters : Nat → Int32) {Q : Int32 → Unit → Prop} (hS0 : WP_Te_next t_length t_at t_characters Q) : zCi l y_Te_next wy_Te_next rm_Te_next D zcl (zT K) [.ref q_t] (w_Te_next K q_t q_t_characters q_t_draft t_length t_at t_characters ()) (w_Te_next K q_t q_t_characters q_t_draft t_length t_at t_characters) Q 0 0 := by
  refine z_meti (cc := b_Te_next) (maxL := 1) (ret := (some .char)) (by decide) rfl (Nat.le_of_ble_eq_true rfl) ?_
  intro p e s m args below meth c A C hr hlk hnm
  refine z_lpick (lv' := [(0, .ref q_t)]) [0] rfl ?_
  refine z_weq (ws' := [zo 3 q_t [.ref q_t_characters, .ref q_t_draft, .int t_length, .int t_at], zaC K q_t_characters 48 t_characters]) rfl ?_
  refine z_aload_n C d_Te_next_0 rfl 0 rfl ?_
  refine z_get C 0 rfl rfl in_Te 3 (by decide) rfl wf_Te_26 rfl d_Te_next_1 ?_
  refine z_aload_n C d_Te_next_4 rfl 0 rfl ?_
  refine z_get C 0 rfl rfl in_Te 2 (by decide) rfl wf_Te_22 rfl d_Te_next_5 ?_
  refine z_icmp_ge (tgt := 35) C d_Te_next_8 (by decide) (fun c1 => ?_) (fun c1 => ?_)
  · have hS2 := hS0.1 c1
    refine z_iconst (v := (0 : Int32)) C d_Te_next_35 (by decide) ?_
    exact z_zret C hr rfl hlk () rfl hS2 d_Te_next_36
  · have hS2 := hS0.2 c1
    refine z_aload_n C d_Te_next_11 rfl 0 rfl ?_
    refine z_get C 0 rfl rfl in_Te 3 (by decide) rfl wf_Te_26 rfl d_Te_next_12 ?_
    refine z_aload_n C d_Te_next_15 rfl 0 rfl ?_
    refine z_get C 0 rfl rfl in_Te 0 (by decide) rfl wf_Te_9 rfl d_Te_next_16 ?_
    refine z_alen (v := (48 : Int32)) C 1 2 rfl rfl rfl d_Te_next_19 ?_
    refine z_icmp_ge (tgt := 35) C d_Te_next_20 (by decide) (fun c3 => ?_) (fun c3 => ?_)
    · have hS4 := hS2.1 c3
      refine z_iconst (v := (0 : Int32)) C d_Te_next_35 (by decide) ?_
      exact z_zret C hr rfl hlk () rfl hS4 d_Te_next_36
    · have hS4 := hS2.2 c3
      refine z_aload_n C d_Te_next_23 rfl 0 rfl ?_
      refine z_get C 0 rfl rfl in_Te 0 (by decide) rfl wf_Te_9 rfl d_Te_next_24 ?_
      refine z_aload_n C d_Te_next_27 rfl 0 rfl ?_
      refine z_get C 0 rfl rfl in_Te 3 (by decide) rfl wf_Te_26 rfl d_Te_next_28 ?_
      refine z_cald C 1 2 rfl rfl hS4.1 d_Te_next_31 ?_
      have hS5 := hS4.2
      refine z_goto (tgt := 36) C d_Te_next_32 (by decide) ?_
      exact z_zret C hr hS5.1 hlk () rfl hS5.2 d_Te_next_36
def s_Te_next (t_length : Int32) (t_at : Int32) (t_characters : Nat → Int32) : Int32 := (if t_length ≤ t_at then (0 : Int32) else (if (48 : Int32) ≤ t_at then (0 : Int32) else t_characters t_at.toNatClampNeg))
def p_Te_next (t_length : Int32) (t_at : Int32) (t_characters : Nat → Int32) : Prop := WP_Te_next t_length t_at t_characters (fun _ _ => True)
set_option maxRecDepth 100000 in
theorem v_Te_next (t_length : Int32) (t_at : Int32) (t_characters : Nat → Int32) (hp : p_Te_next t_length t_at t_characters) : WP_Te_next t_length t_at t_characters (fun r u => s_Te_next t_length t_at t_characters = r) := by
  unfold p_Te_next WP_Te_next at hp
  obtain ⟨tgt, f0⟩ : ∃ tgt, s_Te_next t_length t_at t_characters = tgt := ⟨_, rfl⟩
  rw [f0]
  unfold s_Te_next at f0
  unfold WP_Te_next
  refine ⟨fun c1 => ?_, fun c1 => ?_⟩
  · have f1 := Eq.trans (Eq.symm (if_pos c1)) f0
    have g1 := hp.1 c1
    exact f1.symm
  · have f1 := Eq.trans (Eq.symm (if_neg c1)) f0
    have g1 := hp.2 c1
    refine ⟨fun c3 => ?_, fun c3 => ?_⟩
    · have f2 := Eq.trans (Eq.symm (if_pos c3)) f1
      have g2 := g1.1 c3
      exact f2.symm
    · have f2 := Eq.trans (Eq.symm (if_neg c3)) f1
      have g2 := g1.2 c3
      refine ⟨g2.1, ?_⟩
      have g3 := g2.2
      refine ⟨g3.1, ?_⟩
      have g4 := g3.2
      exact f2.symm
theorem c_Te_next (l : Launch) (D : va_G) (K : Nat → ClassId) (q_t : Nat) (q_t_characters : Nat) (q_t_draft : Nat) (t_length : Int32) (t_at : Int32) (t_characters : Nat → Int32) (hp : p_Te_next t_length t_at t_characters) : zCi l y_Te_next wy_Te_next rm_Te_next D zcl (zT K) [.ref q_t] (w_Te_next K q_t q_t_characters q_t_draft t_length t_at t_characters ()) (w_Te_next K q_t q_t_characters q_t_draft t_length t_at t_characters) (fun r u => s_Te_next t_length t_at t_characters = r) 0 0 := cw_Te_next l D K q_t q_t_characters q_t_draft t_length t_at t_characters (v_Te_next t_length t_at t_characters hp)
-- RuleTracer$RuleText.pass(C)Z: reads ['t.length', 't.at', 't.characters'], changes ['t.at']
abbrev w_Te_pass (K : Nat → ClassId) (q_t : Nat) (q_t_characters : Nat) (q_t_draft : Nat) (t_length : Int32) (t_characters : Nat → Int32) (u : Int32) : va_W := [zo 3 q_t [.ref q_t_characters, .ref q_t_draft, .int t_length, .int u], zaC K q_t_characters 48 t_characters]
abbrev rm_Te_pass : Room := { frames := 1, cells := 0, slots := 0, locals := 20 }
abbrev wy_Te_pass : List Cond := .code y_Te_pass b_Te_pass 2 (some .boolean) :: zWT
def WP_Te_pass (t_length : Int32) (t_at : Int32) (t_characters : Nat → Int32) (x1 : Int32) (Q : Int32 → Int32 → Prop) : Prop := p_Te_next t_length t_at t_characters ∧ (∀ (r1 : Int32), s_Te_next t_length t_at t_characters = r1 → ((r1 = x1) → Q (1 : Int32) (t_at + (1 : Int32))) ∧ ((¬ r1 = x1) → Q (0 : Int32) t_at))
set_option maxHeartbeats 4000000 in
set_option maxRecDepth 100000 in
theorem cw_Te_pass (l : Launch) (D : va_G) (K : Nat → ClassId) (q_t : Nat) (q_t_characters : Nat) (q_t_draft : Nat) (t_length : Int32) (t_at : Int32) (t_characters : Nat → Int32) (x1 : Int32) {Q : Int32 → Int32 → Prop} (hS0 : WP_Te_pass t_length t_at t_characters x1 Q) : zCi l y_Te_pass wy_Te_pass rm_Te_pass D zcl (zT K) [.ref q_t, .int x1] (w_Te_pass K q_t q_t_characters q_t_draft t_length t_characters t_at) (w_Te_pass K q_t q_t_characters q_t_draft t_length t_characters) Q 0 0 := by
  refine z_meti (cc := b_Te_pass) (maxL := 2) (ret := (some .boolean)) (by decide) rfl (Nat.le_of_ble_eq_true rfl) ?_
  intro p e s m args below meth c A C hr hlk hnm
  refine z_lpick (lv' := [(0, .ref q_t), (1, .int x1)]) [0, 1] rfl ?_
  refine z_weq (ws' := [zo 3 q_t [.ref q_t_characters, .ref q_t_draft, .int t_length, .int t_at], zaC K q_t_characters 48 t_characters]) rfl ?_
  refine z_aload_n C d_Te_pass_0 rfl 0 rfl ?_
  refine z_callVi (As := []) (b := q_t) (st := []) (wr := []) (wj := fun u => [zo 3 q_t [.ref q_t_characters, .ref q_t_draft, .int t_length, .int t_at], zaC K q_t_characters 48 t_characters]) C 0 rfl rfl (c_Te_next l D K q_t q_t_characters q_t_draft t_length t_at t_characters hS0.1) (cwV 0 C.2.2.2.2.1 (z_gV wl_Te_50 wi_Te_next wv_Te_next wz_Te wk_Te_next) rfl rfl rfl (by decide +kernel) ⟨Nat.le_of_ble_eq_true rfl, Nat.le_of_ble_eq_true rfl⟩) [0, 1] [] [0, 1] rfl rfl rfl rfl (by decide) (fun _ => rfl) rfl rfl rfl (Nat.le_of_ble_eq_true rfl) d_Te_pass_1 ⟨Nat.le_of_ble_eq_true rfl, Nat.le_of_ble_eq_true rfl⟩ (fun r1 u2 e3 => ?_)
  have hS4 := hS0.2 r1 e3
  refine z_iload_n C d_Te_pass_4 rfl 1 rfl ?_
  refine z_icmp_eq (tgt := 10) C d_Te_pass_5 (by decide) (fun c5 => ?_) (fun c5 => ?_)
  · have hS6 := hS4.1 c5
    refine z_aload_n C d_Te_pass_10 rfl 0 rfl ?_
    refine z_dup C d_Te_pass_11 rfl ?_
    refine z_get C 0 rfl rfl in_Te 3 (by decide) rfl wf_Te_26 rfl d_Te_pass_12 ?_
    refine z_iconst (v := (1 : Int32)) C d_Te_pass_15 (by decide) ?_
    refine z_iadd C d_Te_pass_16 ?_
    refine z_put (ty := .int) (ws' := [zo 3 q_t [.ref q_t_characters, .ref q_t_draft, .int t_length, .int (t_at + (1 : Int32))], zaC K q_t_characters 48 t_characters]) C ty_Te to_Te nm_Te 0 rfl rfl in_Te 3 (by decide) rfl wf_Te_26 rfl rfl rfl rfl (Nat.le_of_ble_eq_true rfl) rfl d_Te_pass_17 ?_
    refine z_iconst (v := (1 : Int32)) C d_Te_pass_20 (by decide) ?_
    exact z_zret C hr rfl hlk (t_at + (1 : Int32)) rfl hS6 d_Te_pass_21
  · have hS6 := hS4.2 c5
    refine z_iconst (v := (0 : Int32)) C d_Te_pass_8 (by decide) ?_
    exact z_zret C hr rfl hlk t_at rfl hS6 d_Te_pass_9
def s_Te_pass (t_length : Int32) (t_at : Int32) (t_characters : Nat → Int32) (x1 : Int32) : Int32 × Int32 := (zl1 (s_Te_next t_length t_at t_characters) fun r1 => (if r1 = x1 then ((1 : Int32), t_at + (1 : Int32)) else ((0 : Int32), t_at)))
def p_Te_pass (t_length : Int32) (t_at : Int32) (t_characters : Nat → Int32) (x1 : Int32) : Prop := WP_Te_pass t_length t_at t_characters x1 (fun _ _ => True)
set_option maxRecDepth 100000 in
theorem v_Te_pass (t_length : Int32) (t_at : Int32) (t_characters : Nat → Int32) (x1 : Int32) (hp : p_Te_pass t_length t_at t_characters x1) : WP_Te_pass t_length t_at t_characters x1 (fun r u => s_Te_pass t_length t_at t_characters x1 = (r, u)) := by
  unfold p_Te_pass WP_Te_pass at hp
  obtain ⟨tgt, f0⟩ : ∃ tgt, s_Te_pass t_length t_at t_characters x1 = tgt := ⟨_, rfl⟩
  rw [f0]
  unfold s_Te_pass at f0
  unfold WP_Te_pass
  refine ⟨hp.1, ?_⟩
  have g2 := hp.2
  intro r1 e3
  have g1 := g2 r1 e3
  have f1 := Eq.trans (Eq.symm (zl1_eq e3)) f0
  refine ⟨fun c5 => ?_, fun c5 => ?_⟩
  · have f3 := Eq.trans (Eq.symm (if_pos c5)) f1
    have g3 := g1.1 c5
    exact f3.symm
  · have f3 := Eq.trans (Eq.symm (if_neg c5)) f1
    have g3 := g1.2 c5
    exact f3.symm
theorem c_Te_pass (l : Launch) (D : va_G) (K : Nat → ClassId) (q_t : Nat) (q_t_characters : Nat) (q_t_draft : Nat) (t_length : Int32) (t_at : Int32) (t_characters : Nat → Int32) (x1 : Int32) (hp : p_Te_pass t_length t_at t_characters x1) : zCi l y_Te_pass wy_Te_pass rm_Te_pass D zcl (zT K) [.ref q_t, .int x1] (w_Te_pass K q_t q_t_characters q_t_draft t_length t_characters t_at) (w_Te_pass K q_t q_t_characters q_t_draft t_length t_characters) (fun r u => s_Te_pass t_length t_at t_characters x1 = (r, u)) 0 0 := cw_Te_pass l D K q_t q_t_characters q_t_draft t_length t_at t_characters x1 (v_Te_pass t_length t_at t_characters x1 hp)
-- RuleTracer$RuleText.empty()V: reads ['t.length'], changes ['t.length']
abbrev w_Te_empty (K : Nat → ClassId) (q_t : Nat) (q_t_characters : Nat) (q_t_draft : Nat) (t_at : Int32) (u : Int32) : va_W := [zo 3 q_t [.ref q_t_characters, .ref q_t_draft, .int u, .int t_at]]
abbrev rm_Te_empty : Room := { frames := 0, cells := 0, slots := 0, locals := 0 }
abbrev wy_Te_empty : List Cond := .code y_Te_empty b_Te_empty 1 none :: zWT
def WP_Te_empty (t_length : Int32) (Q : Int32 → Prop) : Prop := Q (0 : Int32)
set_option maxHeartbeats 4000000 in
set_option maxRecDepth 100000 in
theorem cw_Te_empty (l : Launch) (D : va_G) (K : Nat → ClassId) (q_t : Nat) (q_t_characters : Nat) (q_t_draft : Nat) (t_length : Int32) (t_at : Int32) {Q : Int32 → Prop} (hS0 : WP_Te_empty t_length Q) : zCv l y_Te_empty wy_Te_empty rm_Te_empty D zcl (zT K) [.ref q_t] (w_Te_empty K q_t q_t_characters q_t_draft t_at t_length) (w_Te_empty K q_t q_t_characters q_t_draft t_at) Q 0 0 := by
  refine z_metv (cc := b_Te_empty) (maxL := 1) (ret := none) (by decide) rfl (Nat.le_of_ble_eq_true rfl) ?_
  intro p e s m args below meth c A C hr hlk hnm
  refine z_lpick (lv' := [(0, .ref q_t)]) [0] rfl ?_
  refine z_weq (ws' := [zo 3 q_t [.ref q_t_characters, .ref q_t_draft, .int t_length, .int t_at]]) rfl ?_
  refine z_aload_n C d_Te_empty_0 rfl 0 rfl ?_
  refine z_iconst (v := (0 : Int32)) C d_Te_empty_1 (by decide) ?_
  refine z_put (ty := .int) (ws' := [zo 3 q_t [.ref q_t_characters, .ref q_t_draft, .int (0 : Int32), .int t_at]]) C ty_Te to_Te nm_Te 0 rfl rfl in_Te 2 (by decide) rfl wf_Te_22 rfl rfl rfl rfl (Nat.le_of_ble_eq_true rfl) rfl d_Te_empty_2 ?_
  exact z_vret C hr hlk (0 : Int32) rfl hS0 d_Te_empty_5
def s_Te_empty (t_length : Int32) : Int32 := (0 : Int32)
set_option maxRecDepth 100000 in
theorem v_Te_empty (t_length : Int32) : WP_Te_empty t_length (fun u => s_Te_empty t_length = u) := by
  obtain ⟨tgt, f0⟩ : ∃ tgt, s_Te_empty t_length = tgt := ⟨_, rfl⟩
  rw [f0]
  unfold s_Te_empty at f0
  unfold WP_Te_empty
  exact f0.symm
theorem c_Te_empty (l : Launch) (D : va_G) (K : Nat → ClassId) (q_t : Nat) (q_t_characters : Nat) (q_t_draft : Nat) (t_length : Int32) (t_at : Int32) : zCv l y_Te_empty wy_Te_empty rm_Te_empty D zcl (zT K) [.ref q_t] (w_Te_empty K q_t q_t_characters q_t_draft t_at t_length) (w_Te_empty K q_t q_t_characters q_t_draft t_at) (fun u => s_Te_empty t_length = u) 0 0 := cw_Te_empty l D K q_t q_t_characters q_t_draft t_length t_at (v_Te_empty t_length)
-- RuleTracer$RuleText.mayHold(J)Z: reads [], changes []
abbrev w_Te_mayHold (K : Nat → ClassId) (q_t : Nat)  (u : Unit) : va_W := []
abbrev rm_Te_mayHold : Room := { frames := 1, cells := 0, slots := 0, locals := 22 }
abbrev wy_Te_mayHold : List Cond := .code y_Te_mayHold b_Te_mayHold 5 (some .boolean) :: zWT
def WP_Te_mayHold_L3 : Nat → Int64 → Int32 → (Int32 → Unit → Prop) → Prop
  | 0, _, _, _ => False
  | n + 1, y1, y3, Q => ((y3 < 0) → Q (1 : Int32) ()) ∧ ((¬ y3 < 0) → (∀ (r3 : Int32), s_Te_byteAt y1 y3 = r3 → ((r3 = 0) → WP_Te_mayHold_L3 n y1 (y3 + (-8 : Int32)) Q) ∧ ((¬ r3 = 0) → ((r3 < (33 : Int32)) → Q (0 : Int32) ()) ∧ ((¬ r3 < (33 : Int32)) → ((r3 ≤ (126 : Int32)) → WP_Te_mayHold_L3 n y1 (y3 + (-8 : Int32)) Q) ∧ ((¬ r3 ≤ (126 : Int32)) → Q (0 : Int32) ())))))
def WP_Te_mayHold (x1 : Int64) (Q : Int32 → Unit → Prop) : Prop := WP_Te_mayHold_L3 600 x1 (56 : Int32) Q
set_option maxHeartbeats 4000000 in
set_option maxRecDepth 100000 in
theorem lw_Te_mayHold_L3 {p : Program} {e : Env} {s : State} {m : MethodId} {args : Array Value} {below : List Frame} {meth : Method} {c : Code} {A : Nat → Prop} (l : Launch) (D : va_G) (K : Nat → ClassId) (q_t : Nat)  {Q : Int32 → Unit → Prop} (C : zCx p s m args c b_Te_mayHold 5 R_Te zWT D zcl (zT K) A) (hr : meth.sig.returnType = (some .boolean)) (hlk : meth.locks = false) : ∀ (n : Nat) (y1 : Int64) (y3 : Int32), WP_Te_mayHold_L3 n y1 y3 Q → zW p l e (headSpec wy_Te_mayHold rm_Te_mayHold).room s m args below meth c D zcl A 5 0 0 (MQ below (va_Qi Q (zB D zcl (zT K) (w_Te_mayHold K q_t) A) A) args s 0 0 A) [(0, .ref q_t), (1, .long y1), (3, .int y3)] [] 3 [] := by
  intro n
  induction n with
  | zero => intros; contradiction
  | succ n ih =>
    intro y1 y3 hS0
    refine z_iload_n C d_Te_mayHold_3 rfl 2 rfl ?_
    refine z_if_lt (tgt := 41) C d_Te_mayHold_4 (by decide) (fun c1 => ?_) (fun c1 => ?_)
    · have hS2 := hS0.1 c1
      refine z_iconst (v := (1 : Int32)) C d_Te_mayHold_41 (by decide) ?_
      exact z_zret C hr rfl hlk () rfl hS2 d_Te_mayHold_42
    · have hS2 := hS0.2 c1
      refine z_lload_n C d_Te_mayHold_7 rfl 1 rfl ?_
      refine z_iload_n C d_Te_mayHold_8 rfl 2 rfl ?_
      refine z_callSi (As := [.long y1, .int y3]) (st := []) (wr := []) (wj := fun u => []) C (c_Te_byteAt l D K y1 y3) (cwS 2 C.2.2.2.2.1 (z_gS wl_Te_29 ws_Te_byteAt wz_Te wk_Te_byteAt) rfl rfl rfl (by decide +kernel) ⟨Nat.le_of_ble_eq_true rfl, Nat.le_of_ble_eq_true rfl⟩) [] [] [] rfl rfl rfl rfl (by decide) (fun _ => rfl) rfl rfl rfl (Nat.le_of_ble_eq_true rfl) d_Te_mayHold_9 ⟨Nat.le_of_ble_eq_true rfl, Nat.le_of_ble_eq_true rfl⟩ (fun r3 u4 e5 => ?_)
      have hS6 := hS2 r3 e5
      refine z_istore (lv' := [(4, .int r3), (0, .ref q_t), (1, .long y1), (3, .int y3)]) C d_Te_mayHold_12 (by decide) rfl ?_
      refine z_iload C d_Te_mayHold_14 0 rfl ?_
      refine z_if_eq (tgt := 35) C d_Te_mayHold_16 (by decide) (fun c7 => ?_) (fun c7 => ?_)
      · have hS8 := hS6.1 c7
        refine z_iinc (j := 3) (v := y3 + (-8 : Int32)) (lv' := [(3, .int (y3 + (-8 : Int32))), (4, .int r3), (0, .ref q_t), (1, .long y1)]) C d_Te_mayHold_35 rfl rfl (by decide) rfl ?_
        refine z_goto (tgt := 3) C d_Te_mayHold_38 (by decide) ?_
        refine z_lpick (lv' := [(0, .ref q_t), (1, .long y1), (3, .int (y3 + (-8 : Int32)))]) [2, 3, 0] rfl ?_
        exact ih y1 (y3 + (-8 : Int32)) hS8
      · have hS8 := hS6.2 c7
        refine z_iload C d_Te_mayHold_19 0 rfl ?_
        refine z_bipush (v := (33 : Int32)) C d_Te_mayHold_21 (by decide) ?_
        refine z_icmp_lt (tgt := 33) C d_Te_mayHold_23 (by decide) (fun c9 => ?_) (fun c9 => ?_)
        · have hS10 := hS8.1 c9
          refine z_iconst (v := (0 : Int32)) C d_Te_mayHold_33 (by decide) ?_
          exact z_zret C hr rfl hlk () rfl hS10 d_Te_mayHold_34
        · have hS10 := hS8.2 c9
          refine z_iload C d_Te_mayHold_26 0 rfl ?_
          refine z_bipush (v := (126 : Int32)) C d_Te_mayHold_28 (by decide) ?_
          refine z_icmp_le (tgt := 35) C d_Te_mayHold_30 (by decide) (fun c11 => ?_) (fun c11 => ?_)
          · have hS12 := hS10.1 c11
            refine z_iinc (j := 3) (v := y3 + (-8 : Int32)) (lv' := [(3, .int (y3 + (-8 : Int32))), (4, .int r3), (0, .ref q_t), (1, .long y1)]) C d_Te_mayHold_35 rfl rfl (by decide) rfl ?_
            refine z_goto (tgt := 3) C d_Te_mayHold_38 (by decide) ?_
            refine z_lpick (lv' := [(0, .ref q_t), (1, .long y1), (3, .int (y3 + (-8 : Int32)))]) [2, 3, 0] rfl ?_
            exact ih y1 (y3 + (-8 : Int32)) hS12
          · have hS12 := hS10.2 c11
            refine z_iconst (v := (0 : Int32)) C d_Te_mayHold_33 (by decide) ?_
            exact z_zret C hr rfl hlk () rfl hS12 d_Te_mayHold_34
set_option maxHeartbeats 4000000 in
set_option maxRecDepth 100000 in
theorem cw_Te_mayHold (l : Launch) (D : va_G) (K : Nat → ClassId) (q_t : Nat) (x1 : Int64) {Q : Int32 → Unit → Prop} (hS0 : WP_Te_mayHold x1 Q) : zCi l y_Te_mayHold wy_Te_mayHold rm_Te_mayHold D zcl (zT K) [.ref q_t, .long x1] (w_Te_mayHold K q_t ()) (w_Te_mayHold K q_t) Q 0 0 := by
  refine z_meti (cc := b_Te_mayHold) (maxL := 5) (ret := (some .boolean)) (by decide) rfl (Nat.le_of_ble_eq_true rfl) ?_
  intro p e s m args below meth c A C hr hlk hnm
  refine z_lpick (lv' := [(0, .ref q_t), (1, .long x1)]) [0, 1] rfl ?_
  refine z_weq (ws' := []) rfl ?_
  refine z_bipush (v := (56 : Int32)) C d_Te_mayHold_0 (by decide) ?_
  refine z_istore_n (lv' := [(3, .int (56 : Int32)), (0, .ref q_t), (1, .long x1)]) C d_Te_mayHold_2 rfl (by decide) rfl ?_
  refine z_lpick (lv' := [(0, .ref q_t), (1, .long x1), (3, .int (56 : Int32))]) [1, 2, 0] rfl ?_
  exact lw_Te_mayHold_L3 l D K q_t C hr hlk 600 x1 (56 : Int32) hS0
def s_Te_mayHold_L3 : Nat → Int64 → Int32 → Int32
  | 0, _, _ => 0
  | n + 1, y1, y3 => (if y3 < 0 then (1 : Int32) else (zl1 (s_Te_byteAt y1 y3) fun r3 => (if r3 = 0 then s_Te_mayHold_L3 n y1 (y3 + (-8 : Int32)) else (if r3 < (33 : Int32) then (0 : Int32) else (if r3 ≤ (126 : Int32) then s_Te_mayHold_L3 n y1 (y3 + (-8 : Int32)) else (0 : Int32))))))
def s_Te_mayHold (x1 : Int64) : Int32 := s_Te_mayHold_L3 600 x1 (56 : Int32)
def p_Te_mayHold (x1 : Int64) : Prop := WP_Te_mayHold x1 (fun _ _ => True)
set_option maxRecDepth 100000 in
theorem v_Te_mayHold_L3 : ∀ (n : Nat) (y1 : Int64) (y3 : Int32) (tgt : Int32), s_Te_mayHold_L3 n y1 y3 = tgt → WP_Te_mayHold_L3 n y1 y3 (fun _ _ => True) → WP_Te_mayHold_L3 n y1 y3 (fun r u => tgt = r) := by
  intro n
  induction n with
  | zero => intros; contradiction
  | succ n ih =>
    intro y1 y3 tgt f0 hp
    unfold s_Te_mayHold_L3 at f0
    unfold WP_Te_mayHold_L3 at hp ⊢
    refine ⟨fun c1 => ?_, fun c1 => ?_⟩
    · have f1 := Eq.trans (Eq.symm (if_pos c1)) f0
      have g1 := hp.1 c1
      exact f1.symm
    · have f1 := Eq.trans (Eq.symm (if_neg c1)) f0
      have g1 := hp.2 c1
      intro r3 e5
      have g2 := g1 r3 e5
      have f2 := Eq.trans (Eq.symm (zl1_eq e5)) f1
      refine ⟨fun c7 => ?_, fun c7 => ?_⟩
      · have f3 := Eq.trans (Eq.symm (if_pos c7)) f2
        have g3 := g2.1 c7
        exact ih y1 (y3 + (-8 : Int32)) _ f3 g3
      · have f3 := Eq.trans (Eq.symm (if_neg c7)) f2
        have g3 := g2.2 c7
        refine ⟨fun c9 => ?_, fun c9 => ?_⟩
        · have f4 := Eq.trans (Eq.symm (if_pos c9)) f3
          have g4 := g3.1 c9
          exact f4.symm
        · have f4 := Eq.trans (Eq.symm (if_neg c9)) f3
          have g4 := g3.2 c9
          refine ⟨fun c11 => ?_, fun c11 => ?_⟩
          · have f5 := Eq.trans (Eq.symm (if_pos c11)) f4
            have g5 := g4.1 c11
            exact ih y1 (y3 + (-8 : Int32)) _ f5 g5
          · have f5 := Eq.trans (Eq.symm (if_neg c11)) f4
            have g5 := g4.2 c11
            exact f5.symm
set_option maxRecDepth 100000 in
theorem v_Te_mayHold (x1 : Int64) (hp : p_Te_mayHold x1) : WP_Te_mayHold x1 (fun r u => s_Te_mayHold x1 = r) := by
  unfold p_Te_mayHold WP_Te_mayHold at hp
  obtain ⟨tgt, f0⟩ : ∃ tgt, s_Te_mayHold x1 = tgt := ⟨_, rfl⟩
  rw [f0]
  unfold s_Te_mayHold at f0
  unfold WP_Te_mayHold
  exact v_Te_mayHold_L3 600 x1 (56 : Int32) _ f0 hp
theorem c_Te_mayHold (l : Launch) (D : va_G) (K : Nat → ClassId) (q_t : Nat) (x1 : Int64) (hp : p_Te_mayHold x1) : zCi l y_Te_mayHold wy_Te_mayHold rm_Te_mayHold D zcl (zT K) [.ref q_t, .long x1] (w_Te_mayHold K q_t ()) (w_Te_mayHold K q_t) (fun r u => s_Te_mayHold x1 = r) 0 0 := cw_Te_mayHold l D K q_t x1 (v_Te_mayHold x1 hp)
-- RuleTracer$RuleText.hasRoomFor(J)Z: reads ['t.length'], changes []
abbrev w_Te_hasRoomFor (K : Nat → ClassId) (q_t : Nat) (q_t_characters : Nat) (q_t_draft : Nat) (t_length : Int32) (t_at : Int32) (u : Unit) : va_W := [zo 3 q_t [.ref q_t_characters, .ref q_t_draft, .int t_length, .int t_at]]
abbrev rm_Te_hasRoomFor : Room := { frames := 1, cells := 0, slots := 0, locals := 22 }
abbrev wy_Te_hasRoomFor : List Cond := .code y_Te_hasRoomFor b_Te_hasRoomFor 5 (some .boolean) :: zWT
def WP_Te_hasRoomFor_L6 : Nat → Int64 → Int32 → Int32 → Int32 → (Int32 → Unit → Prop) → Prop
  | 0, _, _, _, _, _ => False
  | n + 1, y1, y3, y4, t_length, Q => ((y4 < 0) → (((48 : Int32) < (t_length + y3)) → Q (0 : Int32) ()) ∧ ((¬ (48 : Int32) < (t_length + y3)) → Q (1 : Int32) ())) ∧ ((¬ y4 < 0) → (∀ (r5 : Int32), s_Te_byteAt y1 y4 = r5 → ((r5 = 0) → WP_Te_hasRoomFor_L6 n y1 (y3 + (0 : Int32)) (y4 + (-8 : Int32)) t_length Q) ∧ ((¬ r5 = 0) → WP_Te_hasRoomFor_L6 n y1 (y3 + (1 : Int32)) (y4 + (-8 : Int32)) t_length Q)))
def WP_Te_hasRoomFor (t_length : Int32) (x1 : Int64) (Q : Int32 → Unit → Prop) : Prop := WP_Te_hasRoomFor_L6 600 x1 (0 : Int32) (56 : Int32) t_length Q
set_option maxHeartbeats 4000000 in
set_option maxRecDepth 100000 in
theorem lw_Te_hasRoomFor_L6 {p : Program} {e : Env} {s : State} {m : MethodId} {args : Array Value} {below : List Frame} {meth : Method} {c : Code} {A : Nat → Prop} (l : Launch) (D : va_G) (K : Nat → ClassId) (q_t : Nat) (q_t_characters : Nat) (q_t_draft : Nat) (t_length : Int32) (t_at : Int32) {Q : Int32 → Unit → Prop} (C : zCx p s m args c b_Te_hasRoomFor 5 R_Te zWT D zcl (zT K) A) (hr : meth.sig.returnType = (some .boolean)) (hlk : meth.locks = false) : ∀ (n : Nat) (y1 : Int64) (y3 : Int32) (y4 : Int32), WP_Te_hasRoomFor_L6 n y1 y3 y4 t_length Q → zW p l e (headSpec wy_Te_hasRoomFor rm_Te_hasRoomFor).room s m args below meth c D zcl A 5 0 0 (MQ below (va_Qi Q (zB D zcl (zT K) (w_Te_hasRoomFor K q_t q_t_characters q_t_draft t_length t_at) A) A) args s 0 0 A) [(0, .ref q_t), (1, .long y1), (3, .int y3), (4, .int y4)] [zo 3 q_t [.ref q_t_characters, .ref q_t_draft, .int t_length, .int t_at]] 6 [] := by
  intro n
  induction n with
  | zero => intros; contradiction
  | succ n ih =>
    intro y1 y3 y4 hS0
    refine z_iload C d_Te_hasRoomFor_6 3 rfl ?_
    refine z_if_lt (tgt := 34) C d_Te_hasRoomFor_8 (by decide) (fun c1 => ?_) (fun c1 => ?_)
    · have hS2 := hS0.1 c1
      refine z_aload_n C d_Te_hasRoomFor_34 rfl 0 rfl ?_
      refine z_get C 0 rfl rfl in_Te 2 (by decide) rfl wf_Te_22 rfl d_Te_hasRoomFor_35 ?_
      refine z_iload_n C d_Te_hasRoomFor_38 rfl 2 rfl ?_
      refine z_iadd C d_Te_hasRoomFor_39 ?_
      refine z_bipush (v := (48 : Int32)) C d_Te_hasRoomFor_40 (by decide) ?_
      refine z_icmp_gt (tgt := 49) C d_Te_hasRoomFor_42 (by decide) (fun c3 => ?_) (fun c3 => ?_)
      · have hS4 := hS2.1 c3
        refine z_iconst (v := (0 : Int32)) C d_Te_hasRoomFor_49 (by decide) ?_
        exact z_zret C hr rfl hlk () rfl hS4 d_Te_hasRoomFor_50
      · have hS4 := hS2.2 c3
        refine z_iconst (v := (1 : Int32)) C d_Te_hasRoomFor_45 (by decide) ?_
        refine z_goto (tgt := 50) C d_Te_hasRoomFor_46 (by decide) ?_
        exact z_zret C hr rfl hlk () rfl hS4 d_Te_hasRoomFor_50
    · have hS2 := hS0.2 c1
      refine z_iload_n C d_Te_hasRoomFor_11 rfl 2 rfl ?_
      refine z_lload_n C d_Te_hasRoomFor_12 rfl 1 rfl ?_
      refine z_iload C d_Te_hasRoomFor_13 3 rfl ?_
      refine z_callSi (As := [.long y1, .int y4]) (st := [.int y3]) (wr := [zo 3 q_t [.ref q_t_characters, .ref q_t_draft, .int t_length, .int t_at]]) (wj := fun u => [zo 3 q_t [.ref q_t_characters, .ref q_t_draft, .int t_length, .int t_at]]) C (c_Te_byteAt l D K y1 y4) (cwS 2 C.2.2.2.2.1 (z_gS wl_Te_29 ws_Te_byteAt wz_Te wk_Te_byteAt) rfl rfl rfl (by decide +kernel) ⟨Nat.le_of_ble_eq_true rfl, Nat.le_of_ble_eq_true rfl⟩) [] [0] [0] rfl rfl rfl rfl (by decide) (fun _ => rfl) rfl rfl rfl (Nat.le_of_ble_eq_true rfl) d_Te_hasRoomFor_15 ⟨Nat.le_of_ble_eq_true rfl, Nat.le_of_ble_eq_true rfl⟩ (fun r5 u6 e7 => ?_)
      have hS8 := hS2 r5 e7
      refine z_if_eq (tgt := 25) C d_Te_hasRoomFor_18 (by decide) (fun c9 => ?_) (fun c9 => ?_)
      · have hS10 := hS8.1 c9
        refine z_iconst (v := (0 : Int32)) C d_Te_hasRoomFor_25 (by decide) ?_
        refine z_iadd C d_Te_hasRoomFor_26 ?_
        refine z_istore_n (lv' := [(3, .int (y3 + (0 : Int32))), (0, .ref q_t), (1, .long y1), (4, .int y4)]) C d_Te_hasRoomFor_27 rfl (by decide) rfl ?_
        refine z_iinc (j := 3) (v := y4 + (-8 : Int32)) (lv' := [(4, .int (y4 + (-8 : Int32))), (3, .int (y3 + (0 : Int32))), (0, .ref q_t), (1, .long y1)]) C d_Te_hasRoomFor_28 rfl rfl (by decide) rfl ?_
        refine z_goto (tgt := 6) C d_Te_hasRoomFor_31 (by decide) ?_
        refine z_lpick (lv' := [(0, .ref q_t), (1, .long y1), (3, .int (y3 + (0 : Int32))), (4, .int (y4 + (-8 : Int32)))]) [2, 3, 1, 0] rfl ?_
        exact ih y1 (y3 + (0 : Int32)) (y4 + (-8 : Int32)) hS10
      · have hS10 := hS8.2 c9
        refine z_iconst (v := (1 : Int32)) C d_Te_hasRoomFor_21 (by decide) ?_
        refine z_goto (tgt := 26) C d_Te_hasRoomFor_22 (by decide) ?_
        refine z_iadd C d_Te_hasRoomFor_26 ?_
        refine z_istore_n (lv' := [(3, .int (y3 + (1 : Int32))), (0, .ref q_t), (1, .long y1), (4, .int y4)]) C d_Te_hasRoomFor_27 rfl (by decide) rfl ?_
        refine z_iinc (j := 3) (v := y4 + (-8 : Int32)) (lv' := [(4, .int (y4 + (-8 : Int32))), (3, .int (y3 + (1 : Int32))), (0, .ref q_t), (1, .long y1)]) C d_Te_hasRoomFor_28 rfl rfl (by decide) rfl ?_
        refine z_goto (tgt := 6) C d_Te_hasRoomFor_31 (by decide) ?_
        refine z_lpick (lv' := [(0, .ref q_t), (1, .long y1), (3, .int (y3 + (1 : Int32))), (4, .int (y4 + (-8 : Int32)))]) [2, 3, 1, 0] rfl ?_
        exact ih y1 (y3 + (1 : Int32)) (y4 + (-8 : Int32)) hS10
set_option maxHeartbeats 4000000 in
set_option maxRecDepth 100000 in
theorem cw_Te_hasRoomFor (l : Launch) (D : va_G) (K : Nat → ClassId) (q_t : Nat) (q_t_characters : Nat) (q_t_draft : Nat) (t_length : Int32) (t_at : Int32) (x1 : Int64) {Q : Int32 → Unit → Prop} (hS0 : WP_Te_hasRoomFor t_length x1 Q) : zCi l y_Te_hasRoomFor wy_Te_hasRoomFor rm_Te_hasRoomFor D zcl (zT K) [.ref q_t, .long x1] (w_Te_hasRoomFor K q_t q_t_characters q_t_draft t_length t_at ()) (w_Te_hasRoomFor K q_t q_t_characters q_t_draft t_length t_at) Q 0 0 := by
  refine z_meti (cc := b_Te_hasRoomFor) (maxL := 5) (ret := (some .boolean)) (by decide) rfl (Nat.le_of_ble_eq_true rfl) ?_
  intro p e s m args below meth c A C hr hlk hnm
  refine z_lpick (lv' := [(0, .ref q_t), (1, .long x1)]) [0, 1] rfl ?_
  refine z_weq (ws' := [zo 3 q_t [.ref q_t_characters, .ref q_t_draft, .int t_length, .int t_at]]) rfl ?_
  refine z_iconst (v := (0 : Int32)) C d_Te_hasRoomFor_0 (by decide) ?_
  refine z_istore_n (lv' := [(3, .int (0 : Int32)), (0, .ref q_t), (1, .long x1)]) C d_Te_hasRoomFor_1 rfl (by decide) rfl ?_
  refine z_bipush (v := (56 : Int32)) C d_Te_hasRoomFor_2 (by decide) ?_
  refine z_istore (lv' := [(4, .int (56 : Int32)), (3, .int (0 : Int32)), (0, .ref q_t), (1, .long x1)]) C d_Te_hasRoomFor_4 (by decide) rfl ?_
  refine z_lpick (lv' := [(0, .ref q_t), (1, .long x1), (3, .int (0 : Int32)), (4, .int (56 : Int32))]) [2, 3, 1, 0] rfl ?_
  exact lw_Te_hasRoomFor_L6 l D K q_t q_t_characters q_t_draft t_length t_at C hr hlk 600 x1 (0 : Int32) (56 : Int32) hS0
def s_Te_hasRoomFor_L6 : Nat → Int64 → Int32 → Int32 → Int32 → Int32
  | 0, _, _, _, _ => 0
  | n + 1, y1, y3, y4, t_length => (if y4 < 0 then (if (48 : Int32) < (t_length + y3) then (0 : Int32) else (1 : Int32)) else (zl1 (s_Te_byteAt y1 y4) fun r5 => (if r5 = 0 then s_Te_hasRoomFor_L6 n y1 (y3 + (0 : Int32)) (y4 + (-8 : Int32)) t_length else s_Te_hasRoomFor_L6 n y1 (y3 + (1 : Int32)) (y4 + (-8 : Int32)) t_length)))
def s_Te_hasRoomFor (t_length : Int32) (x1 : Int64) : Int32 := s_Te_hasRoomFor_L6 600 x1 (0 : Int32) (56 : Int32) t_length
def p_Te_hasRoomFor (t_length : Int32) (x1 : Int64) : Prop := WP_Te_hasRoomFor t_length x1 (fun _ _ => True)
set_option maxRecDepth 100000 in
theorem v_Te_hasRoomFor_L6 : ∀ (n : Nat) (y1 : Int64) (y3 : Int32) (y4 : Int32) (t_length : Int32) (tgt : Int32), s_Te_hasRoomFor_L6 n y1 y3 y4 t_length = tgt → WP_Te_hasRoomFor_L6 n y1 y3 y4 t_length (fun _ _ => True) → WP_Te_hasRoomFor_L6 n y1 y3 y4 t_length (fun r u => tgt = r) := by
  intro n
  induction n with
  | zero => intros; contradiction
  | succ n ih =>
    intro y1 y3 y4 t_length tgt f0 hp
    unfold s_Te_hasRoomFor_L6 at f0
    unfold WP_Te_hasRoomFor_L6 at hp ⊢
    refine ⟨fun c1 => ?_, fun c1 => ?_⟩
    · have f1 := Eq.trans (Eq.symm (if_pos c1)) f0
      have g1 := hp.1 c1
      refine ⟨fun c3 => ?_, fun c3 => ?_⟩
      · have f2 := Eq.trans (Eq.symm (if_pos c3)) f1
        have g2 := g1.1 c3
        exact f2.symm
      · have f2 := Eq.trans (Eq.symm (if_neg c3)) f1
        have g2 := g1.2 c3
        exact f2.symm
    · have f1 := Eq.trans (Eq.symm (if_neg c1)) f0
      have g1 := hp.2 c1
      intro r5 e7
      have g3 := g1 r5 e7
      have f3 := Eq.trans (Eq.symm (zl1_eq e7)) f1
      refine ⟨fun c9 => ?_, fun c9 => ?_⟩
      · have f4 := Eq.trans (Eq.symm (if_pos c9)) f3
        have g4 := g3.1 c9
        exact ih y1 (y3 + (0 : Int32)) (y4 + (-8 : Int32)) t_length _ f4 g4
      · have f4 := Eq.trans (Eq.symm (if_neg c9)) f3
        have g4 := g3.2 c9
        exact ih y1 (y3 + (1 : Int32)) (y4 + (-8 : Int32)) t_length _ f4 g4
set_option maxRecDepth 100000 in
theorem v_Te_hasRoomFor (t_length : Int32) (x1 : Int64) (hp : p_Te_hasRoomFor t_length x1) : WP_Te_hasRoomFor t_length x1 (fun r u => s_Te_hasRoomFor t_length x1 = r) := by
  unfold p_Te_hasRoomFor WP_Te_hasRoomFor at hp
  obtain ⟨tgt, f0⟩ : ∃ tgt, s_Te_hasRoomFor t_length x1 = tgt := ⟨_, rfl⟩
  rw [f0]
  unfold s_Te_hasRoomFor at f0
  unfold WP_Te_hasRoomFor
  exact v_Te_hasRoomFor_L6 600 x1 (0 : Int32) (56 : Int32) t_length _ f0 hp
theorem c_Te_hasRoomFor (l : Launch) (D : va_G) (K : Nat → ClassId) (q_t : Nat) (q_t_characters : Nat) (q_t_draft : Nat) (t_length : Int32) (t_at : Int32) (x1 : Int64) (hp : p_Te_hasRoomFor t_length x1) : zCi l y_Te_hasRoomFor wy_Te_hasRoomFor rm_Te_hasRoomFor D zcl (zT K) [.ref q_t, .long x1] (w_Te_hasRoomFor K q_t q_t_characters q_t_draft t_length t_at ()) (w_Te_hasRoomFor K q_t q_t_characters q_t_draft t_length t_at) (fun r u => s_Te_hasRoomFor t_length x1 = r) 0 0 := cw_Te_hasRoomFor l D K q_t q_t_characters q_t_draft t_length t_at x1 (v_Te_hasRoomFor t_length x1 hp)
-- RuleTracer$RuleText.add(J)V: reads ['t.length', 't.characters'], changes ['t.length', 't.characters']
abbrev w_Te_add (K : Nat → ClassId) (q_t : Nat) (q_t_characters : Nat) (q_t_draft : Nat) (t_at : Int32) (u : Int32 × (Nat → Int32)) : va_W := [zo 3 q_t [.ref q_t_characters, .ref q_t_draft, .int u.1, .int t_at], zaC K q_t_characters 48 u.2]
abbrev rm_Te_add : Room := { frames := 1, cells := 0, slots := 0, locals := 22 }
abbrev wy_Te_add : List Cond := .code y_Te_add b_Te_add 5 none :: zWT
def WP_Te_add_L3 : Nat → Int64 → Int32 → Int32 → (Nat → Int32) → ((Int32 × (Nat → Int32)) → Prop) → Prop
  | 0, _, _, _, _, _ => False
  | n + 1, y1, y3, t_length, t_characters, Q => ((y3 < 0) → Q (t_length, t_characters)) ∧ ((¬ y3 < 0) → (∀ (r3 : Int32), s_Te_byteAt y1 y3 = r3 → ((r3 = 0) → WP_Te_add_L3 n y1 (y3 + (-8 : Int32)) t_length t_characters Q) ∧ ((¬ r3 = 0) → (((48 : Int32) ≤ t_length) → WP_Te_add_L3 n y1 (y3 + (-8 : Int32)) t_length t_characters Q) ∧ ((¬ (48 : Int32) ≤ t_length) → vp_in t_length 48 ∧ WP_Te_add_L3 n y1 (y3 + (-8 : Int32)) (t_length + (1 : Int32)) (upd t_characters t_length.toNatClampNeg (vp_nar .char ((r3.toUInt32 % 65536).toInt32))) Q))))
def WP_Te_add (t_length : Int32) (t_characters : Nat → Int32) (x1 : Int64) (Q : (Int32 × (Nat → Int32)) → Prop) : Prop := WP_Te_add_L3 600 x1 (56 : Int32) t_length t_characters Q
set_option maxHeartbeats 4000000 in
set_option maxRecDepth 100000 in
theorem lw_Te_add_L3 {p : Program} {e : Env} {s : State} {m : MethodId} {args : Array Value} {below : List Frame} {meth : Method} {c : Code} {A : Nat → Prop} (l : Launch) (D : va_G) (K : Nat → ClassId) (q_t : Nat) (q_t_characters : Nat) (q_t_draft : Nat) (t_at : Int32) {Q : (Int32 × (Nat → Int32)) → Prop} (C : zCx p s m args c b_Te_add 5 R_Te zWT D zcl (zT K) A) (hr : meth.sig.returnType = none) (hlk : meth.locks = false) : ∀ (n : Nat) (y1 : Int64) (y3 : Int32) (t_length : Int32) (t_characters : Nat → Int32), WP_Te_add_L3 n y1 y3 t_length t_characters Q → zW p l e (headSpec wy_Te_add rm_Te_add).room s m args below meth c D zcl A 5 0 0 (MQ below (va_Qv Q (zB D zcl (zT K) (w_Te_add K q_t q_t_characters q_t_draft t_at) A) A) args s 0 0 A) [(0, .ref q_t), (1, .long y1), (3, .int y3)] [zo 3 q_t [.ref q_t_characters, .ref q_t_draft, .int t_length, .int t_at], zaC K q_t_characters 48 t_characters] 3 [] := by
  intro n
  induction n with
  | zero => intros; contradiction
  | succ n ih =>
    intro y1 y3 t_length t_characters hS0
    refine z_iload_n C d_Te_add_3 rfl 2 rfl ?_
    refine z_if_lt (tgt := 59) C d_Te_add_4 (by decide) (fun c1 => ?_) (fun c1 => ?_)
    · have hS2 := hS0.1 c1
      exact z_vret C hr hlk (t_length, t_characters) rfl hS2 d_Te_add_59
    · have hS2 := hS0.2 c1
      refine z_lload_n C d_Te_add_7 rfl 1 rfl ?_
      refine z_iload_n C d_Te_add_8 rfl 2 rfl ?_
      refine z_callSi (As := [.long y1, .int y3]) (st := []) (wr := [zo 3 q_t [.ref q_t_characters, .ref q_t_draft, .int t_length, .int t_at], zaC K q_t_characters 48 t_characters]) (wj := fun u => [zo 3 q_t [.ref q_t_characters, .ref q_t_draft, .int t_length, .int t_at], zaC K q_t_characters 48 t_characters]) C (c_Te_byteAt l D K y1 y3) (cwS 2 C.2.2.2.2.1 (z_gS wl_Te_29 ws_Te_byteAt wz_Te wk_Te_byteAt) rfl rfl rfl (by decide +kernel) ⟨Nat.le_of_ble_eq_true rfl, Nat.le_of_ble_eq_true rfl⟩) [] [0, 1] [0, 1] rfl rfl rfl rfl (by decide) (fun _ => rfl) rfl rfl rfl (Nat.le_of_ble_eq_true rfl) d_Te_add_9 ⟨Nat.le_of_ble_eq_true rfl, Nat.le_of_ble_eq_true rfl⟩ (fun r3 u4 e5 => ?_)
      have hS6 := hS2 r3 e5
      refine z_istore (lv' := [(4, .int r3), (0, .ref q_t), (1, .long y1), (3, .int y3)]) C d_Te_add_12 (by decide) rfl ?_
      refine z_iload C d_Te_add_14 0 rfl ?_
      refine z_if_eq (tgt := 53) C d_Te_add_16 (by decide) (fun c7 => ?_) (fun c7 => ?_)
      · have hS8 := hS6.1 c7
        refine z_iinc (j := 3) (v := y3 + (-8 : Int32)) (lv' := [(3, .int (y3 + (-8 : Int32))), (4, .int r3), (0, .ref q_t), (1, .long y1)]) C d_Te_add_53 rfl rfl (by decide) rfl ?_
        refine z_goto (tgt := 3) C d_Te_add_56 (by decide) ?_
        refine z_lpick (lv' := [(0, .ref q_t), (1, .long y1), (3, .int (y3 + (-8 : Int32)))]) [2, 3, 0] rfl ?_
        exact ih y1 (y3 + (-8 : Int32)) t_length t_characters hS8
      · have hS8 := hS6.2 c7
        refine z_aload_n C d_Te_add_19 rfl 1 rfl ?_
        refine z_get C 0 rfl rfl in_Te 2 (by decide) rfl wf_Te_22 rfl d_Te_add_20 ?_
        refine z_aload_n C d_Te_add_23 rfl 1 rfl ?_
        refine z_get C 0 rfl rfl in_Te 0 (by decide) rfl wf_Te_9 rfl d_Te_add_24 ?_
        refine z_alen (v := (48 : Int32)) C 1 2 rfl rfl rfl d_Te_add_27 ?_
        refine z_icmp_ge (tgt := 53) C d_Te_add_28 (by decide) (fun c9 => ?_) (fun c9 => ?_)
        · have hS10 := hS8.1 c9
          refine z_iinc (j := 3) (v := y3 + (-8 : Int32)) (lv' := [(3, .int (y3 + (-8 : Int32))), (4, .int r3), (0, .ref q_t), (1, .long y1)]) C d_Te_add_53 rfl rfl (by decide) rfl ?_
          refine z_goto (tgt := 3) C d_Te_add_56 (by decide) ?_
          refine z_lpick (lv' := [(0, .ref q_t), (1, .long y1), (3, .int (y3 + (-8 : Int32)))]) [2, 3, 0] rfl ?_
          exact ih y1 (y3 + (-8 : Int32)) t_length t_characters hS10
        · have hS10 := hS8.2 c9
          refine z_aload_n C d_Te_add_31 rfl 1 rfl ?_
          refine z_get C 0 rfl rfl in_Te 0 (by decide) rfl wf_Te_9 rfl d_Te_add_32 ?_
          refine z_aload_n C d_Te_add_35 rfl 1 rfl ?_
          refine z_get C 0 rfl rfl in_Te 2 (by decide) rfl wf_Te_22 rfl d_Te_add_36 ?_
          refine z_iload C d_Te_add_39 0 rfl ?_
          refine z_i2c C d_Te_add_41 ?_
          refine z_cast (ws' := [zo 3 q_t [.ref q_t_characters, .ref q_t_draft, .int t_length, .int t_at], zaC K q_t_characters 48 (upd t_characters t_length.toNatClampNeg (vp_nar .char ((r3.toUInt32 % 65536).toInt32)))]) C 1 2 rfl rfl hS10.1 rfl d_Te_add_42 ?_
          have hS11 := hS10.2
          refine z_aload_n C d_Te_add_43 rfl 1 rfl ?_
          refine z_dup C d_Te_add_44 rfl ?_
          refine z_get C 0 rfl rfl in_Te 2 (by decide) rfl wf_Te_22 rfl d_Te_add_45 ?_
          refine z_iconst (v := (1 : Int32)) C d_Te_add_48 (by decide) ?_
          refine z_iadd C d_Te_add_49 ?_
          refine z_put (ty := .int) (ws' := [zo 3 q_t [.ref q_t_characters, .ref q_t_draft, .int (t_length + (1 : Int32)), .int t_at], zaC K q_t_characters 48 (upd t_characters t_length.toNatClampNeg (vp_nar .char ((r3.toUInt32 % 65536).toInt32)))]) C ty_Te to_Te nm_Te 0 rfl rfl in_Te 2 (by decide) rfl wf_Te_22 rfl rfl rfl rfl (Nat.le_of_ble_eq_true rfl) rfl d_Te_add_50 ?_
          refine z_iinc (j := 3) (v := y3 + (-8 : Int32)) (lv' := [(3, .int (y3 + (-8 : Int32))), (4, .int r3), (0, .ref q_t), (1, .long y1)]) C d_Te_add_53 rfl rfl (by decide) rfl ?_
          refine z_goto (tgt := 3) C d_Te_add_56 (by decide) ?_
          refine z_lpick (lv' := [(0, .ref q_t), (1, .long y1), (3, .int (y3 + (-8 : Int32)))]) [2, 3, 0] rfl ?_
          exact ih y1 (y3 + (-8 : Int32)) (t_length + (1 : Int32)) (upd t_characters t_length.toNatClampNeg (vp_nar .char ((r3.toUInt32 % 65536).toInt32))) hS11
set_option maxHeartbeats 4000000 in
set_option maxRecDepth 100000 in
theorem cw_Te_add (l : Launch) (D : va_G) (K : Nat → ClassId) (q_t : Nat) (q_t_characters : Nat) (q_t_draft : Nat) (t_length : Int32) (t_at : Int32) (t_characters : Nat → Int32) (x1 : Int64) {Q : (Int32 × (Nat → Int32)) → Prop} (hS0 : WP_Te_add t_length t_characters x1 Q) : zCv l y_Te_add wy_Te_add rm_Te_add D zcl (zT K) [.ref q_t, .long x1] (w_Te_add K q_t q_t_characters q_t_draft t_at (t_length, t_characters)) (w_Te_add K q_t q_t_characters q_t_draft t_at) Q 0 0 := by
  refine z_metv (cc := b_Te_add) (maxL := 5) (ret := none) (by decide) rfl (Nat.le_of_ble_eq_true rfl) ?_
  intro p e s m args below meth c A C hr hlk hnm
  refine z_lpick (lv' := [(0, .ref q_t), (1, .long x1)]) [0, 1] rfl ?_
  refine z_weq (ws' := [zo 3 q_t [.ref q_t_characters, .ref q_t_draft, .int t_length, .int t_at], zaC K q_t_characters 48 t_characters]) rfl ?_
  refine z_bipush (v := (56 : Int32)) C d_Te_add_0 (by decide) ?_
  refine z_istore_n (lv' := [(3, .int (56 : Int32)), (0, .ref q_t), (1, .long x1)]) C d_Te_add_2 rfl (by decide) rfl ?_
  refine z_lpick (lv' := [(0, .ref q_t), (1, .long x1), (3, .int (56 : Int32))]) [1, 2, 0] rfl ?_
  exact lw_Te_add_L3 l D K q_t q_t_characters q_t_draft t_at C hr hlk 600 x1 (56 : Int32) t_length t_characters hS0
def s_Te_add_L3 : Nat → Int64 → Int32 → Int32 → (Nat → Int32) → Int32 × (Nat → Int32)
  | 0, _, _, t_length, t_characters => (t_length, t_characters)
  | n + 1, y1, y3, t_length, t_characters => (if y3 < 0 then (t_length, t_characters) else (zl1 (s_Te_byteAt y1 y3) fun r3 => (if r3 = 0 then s_Te_add_L3 n y1 (y3 + (-8 : Int32)) t_length t_characters else (if (48 : Int32) ≤ t_length then s_Te_add_L3 n y1 (y3 + (-8 : Int32)) t_length t_characters else s_Te_add_L3 n y1 (y3 + (-8 : Int32)) (t_length + (1 : Int32)) (upd t_characters t_length.toNatClampNeg (vp_nar .char ((r3.toUInt32 % 65536).toInt32)))))))
def s_Te_add (t_length : Int32) (t_characters : Nat → Int32) (x1 : Int64) : Int32 × (Nat → Int32) := s_Te_add_L3 600 x1 (56 : Int32) t_length t_characters
def p_Te_add (t_length : Int32) (t_characters : Nat → Int32) (x1 : Int64) : Prop := WP_Te_add t_length t_characters x1 (fun _ => True)
set_option maxRecDepth 100000 in
theorem v_Te_add_L3 : ∀ (n : Nat) (y1 : Int64) (y3 : Int32) (t_length : Int32) (t_characters : Nat → Int32) (tgt : Int32 × (Nat → Int32)), s_Te_add_L3 n y1 y3 t_length t_characters = tgt → WP_Te_add_L3 n y1 y3 t_length t_characters (fun _ => True) → WP_Te_add_L3 n y1 y3 t_length t_characters (fun u => tgt = u) := by
  intro n
  induction n with
  | zero => intros; contradiction
  | succ n ih =>
    intro y1 y3 t_length t_characters tgt f0 hp
    unfold s_Te_add_L3 at f0
    unfold WP_Te_add_L3 at hp ⊢
    refine ⟨fun c1 => ?_, fun c1 => ?_⟩
    · have f1 := Eq.trans (Eq.symm (if_pos c1)) f0
      have g1 := hp.1 c1
      exact f1.symm
    · have f1 := Eq.trans (Eq.symm (if_neg c1)) f0
      have g1 := hp.2 c1
      intro r3 e5
      have g2 := g1 r3 e5
      have f2 := Eq.trans (Eq.symm (zl1_eq e5)) f1
      refine ⟨fun c7 => ?_, fun c7 => ?_⟩
      · have f3 := Eq.trans (Eq.symm (if_pos c7)) f2
        have g3 := g2.1 c7
        exact ih y1 (y3 + (-8 : Int32)) t_length t_characters _ f3 g3
      · have f3 := Eq.trans (Eq.symm (if_neg c7)) f2
        have g3 := g2.2 c7
        refine ⟨fun c9 => ?_, fun c9 => ?_⟩
        · have f4 := Eq.trans (Eq.symm (if_pos c9)) f3
          have g4 := g3.1 c9
          exact ih y1 (y3 + (-8 : Int32)) t_length t_characters _ f4 g4
        · have f4 := Eq.trans (Eq.symm (if_neg c9)) f3
          have g4 := g3.2 c9
          refine ⟨g4.1, ?_⟩
          have g5 := g4.2
          exact ih y1 (y3 + (-8 : Int32)) (t_length + (1 : Int32)) (upd t_characters t_length.toNatClampNeg (vp_nar .char ((r3.toUInt32 % 65536).toInt32))) _ f4 g5
set_option maxRecDepth 100000 in
theorem v_Te_add (t_length : Int32) (t_characters : Nat → Int32) (x1 : Int64) (hp : p_Te_add t_length t_characters x1) : WP_Te_add t_length t_characters x1 (fun u => s_Te_add t_length t_characters x1 = u) := by
  unfold p_Te_add WP_Te_add at hp
  obtain ⟨tgt, f0⟩ : ∃ tgt, s_Te_add t_length t_characters x1 = tgt := ⟨_, rfl⟩
  rw [f0]
  unfold s_Te_add at f0
  unfold WP_Te_add
  exact v_Te_add_L3 600 x1 (56 : Int32) t_length t_characters _ f0 hp
theorem c_Te_add (l : Launch) (D : va_G) (K : Nat → ClassId) (q_t : Nat) (q_t_characters : Nat) (q_t_draft : Nat) (t_length : Int32) (t_at : Int32) (t_characters : Nat → Int32) (x1 : Int64) (hp : p_Te_add t_length t_characters x1) : zCv l y_Te_add wy_Te_add rm_Te_add D zcl (zT K) [.ref q_t, .long x1] (w_Te_add K q_t q_t_characters q_t_draft t_at (t_length, t_characters)) (w_Te_add K q_t q_t_characters q_t_draft t_at) (fun u => s_Te_add t_length t_characters x1 = u) 0 0 := cw_Te_add l D K q_t q_t_characters q_t_draft t_length t_at t_characters x1 (v_Te_add t_length t_characters x1 hp)
-- RuleTracer$RuleText.readNumber()V: reads ['t.length', 't.at', 't.characters', 't.draft.length', 't.draft.steps'], changes ['t.at', 't.draft.length', 't.draft.steps']
abbrev w_Te_readNumber (K : Nat → ClassId) (q_t : Nat) (q_t_characters : Nat) (q_t_draft : Nat) (q_t_draft_steps : Nat) (t_length : Int32) (t_characters : Nat → Int32) (t_draft_actions : Int32) (t_draft_site : Int32) (t_draft_exit : Int32) (t_draft_conditional : Int32) (t_draft_there : Int32) (t_draft_on : Int32) (t_draft_failures : Int32) (t_draft_meetings : Int32) (u : Int32 × Int32 × (Nat → Int32)) : va_W := [zo 3 q_t [.ref q_t_characters, .ref q_t_draft, .int t_length, .int u.1], zaC K q_t_characters 48 t_characters, zo 2 q_t_draft [.ref q_t_draft_steps, .int u.2.1, .int t_draft_actions, .int t_draft_site, .int t_draft_exit, .int t_draft_conditional, .int t_draft_there, .int t_draft_on, .int t_draft_failures, .int t_draft_meetings], zaI K q_t_draft_steps 48 u.2.2]
abbrev rm_Te_readNumber : Room := { frames := 1, cells := 0, slots := 0, locals := 21 }
abbrev wy_Te_readNumber : List Cond := .code y_Te_readNumber b_Te_readNumber 3 none :: zWT
def WP_Te_readNumber_L4 : Nat → Int32 → Int32 → Int32 → Int32 → (Nat → Int32) → Int32 → (Nat → Int32) → ((Int32 × Int32 × (Nat → Int32)) → Prop) → Prop
  | 0, _, _, _, _, _, _, _, _ => False
  | n + 1, y1, y2, t_length, t_at, t_characters, t_draft_length, t_draft_steps, Q => (((3 : Int32) ≤ y2) → p_Ru_add t_draft_length t_draft_steps ((256 : Int32) + y1) ∧ (∀ (m6 : Int32) (m7 : Nat → Int32), s_Ru_add t_draft_length t_draft_steps ((256 : Int32) + y1) = (m6, m7) → Q (t_at, m6, m7))) ∧ ((¬ (3 : Int32) ≤ y2) → p_Te_next t_length t_at t_characters ∧ (∀ (r9 : Int32), s_Te_next t_length t_at t_characters = r9 → (∀ (r13 : Int32), s_Te_isDigit r9 = r13 → ((r13 = 0) → p_Ru_add t_draft_length t_draft_steps ((256 : Int32) + y1) ∧ (∀ (m22 : Int32) (m23 : Nat → Int32), s_Ru_add t_draft_length t_draft_steps ((256 : Int32) + y1) = (m22, m23) → Q (t_at, m22, m23))) ∧ ((¬ r13 = 0) → p_Te_next t_length t_at t_characters ∧ (∀ (r25 : Int32), s_Te_next t_length t_at t_characters = r25 → WP_Te_readNumber_L4 n ((y1 * (10 : Int32)) + (r9 - (48 : Int32))) (y2 + (1 : Int32)) t_length (t_at + (1 : Int32)) t_characters t_draft_length t_draft_steps Q)))))
def WP_Te_readNumber (t_length : Int32) (t_at : Int32) (t_characters : Nat → Int32) (t_draft_length : Int32) (t_draft_steps : Nat → Int32) (Q : (Int32 × Int32 × (Nat → Int32)) → Prop) : Prop := WP_Te_readNumber_L4 600 (0 : Int32) (0 : Int32) t_length t_at t_characters t_draft_length t_draft_steps Q
set_option maxHeartbeats 4000000 in
set_option maxRecDepth 100000 in
theorem lw_Te_readNumber_L4 {p : Program} {e : Env} {s : State} {m : MethodId} {args : Array Value} {below : List Frame} {meth : Method} {c : Code} {A : Nat → Prop} (l : Launch) (D : va_G) (K : Nat → ClassId) (q_t : Nat) (q_t_characters : Nat) (q_t_draft : Nat) (q_t_draft_steps : Nat) (t_length : Int32) (t_characters : Nat → Int32) (t_draft_actions : Int32) (t_draft_site : Int32) (t_draft_exit : Int32) (t_draft_conditional : Int32) (t_draft_there : Int32) (t_draft_on : Int32) (t_draft_failures : Int32) (t_draft_meetings : Int32) {Q : (Int32 × Int32 × (Nat → Int32)) → Prop} (C : zCx p s m args c b_Te_readNumber 3 R_Te zWT D zcl (zT K) A) (hr : meth.sig.returnType = none) (hlk : meth.locks = false) : ∀ (n : Nat) (y1 : Int32) (y2 : Int32) (t_at : Int32) (t_draft_length : Int32) (t_draft_steps : Nat → Int32), WP_Te_readNumber_L4 n y1 y2 t_length t_at t_characters t_draft_length t_draft_steps Q → zW p l e (headSpec wy_Te_readNumber rm_Te_readNumber).room s m args below meth c D zcl A 3 0 0 (MQ below (va_Qv Q (zB D zcl (zT K) (w_Te_readNumber K q_t q_t_characters q_t_draft q_t_draft_steps t_length t_characters t_draft_actions t_draft_site t_draft_exit t_draft_conditional t_draft_there t_draft_on t_draft_failures t_draft_meetings) A) A) args s 0 0 A) [(0, .ref q_t), (1, .int y1), (2, .int y2)] [zo 3 q_t [.ref q_t_characters, .ref q_t_draft, .int t_length, .int t_at], zaC K q_t_characters 48 t_characters, zo 2 q_t_draft [.ref q_t_draft_steps, .int t_draft_length, .int t_draft_actions, .int t_draft_site, .int t_draft_exit, .int t_draft_conditional, .int t_draft_there, .int t_draft_on, .int t_draft_failures, .int t_draft_meetings], zaI K q_t_draft_steps 48 t_draft_steps] 4 [] := by
  intro n
  induction n with
  | zero => intros; contradiction
  | succ n ih =>
    intro y1 y2 t_at t_draft_length t_draft_steps hS0
    refine z_iload_n C d_Te_readNumber_4 rfl 2 rfl ?_
    refine z_iconst (v := (3 : Int32)) C d_Te_readNumber_5 (by decide) ?_
    refine z_icmp_ge (tgt := 48) C d_Te_readNumber_6 (by decide) (fun c1 => ?_) (fun c1 => ?_)
    · have hS2 := hS0.1 c1
      refine z_aload_n C d_Te_readNumber_48 rfl 0 rfl ?_
      refine z_get C 0 rfl rfl in_Te 1 (by decide) rfl wf_Te_18 rfl d_Te_readNumber_49 ?_
      refine z_sipush (v := (256 : Int32)) C d_Te_readNumber_52 (by decide) ?_
      refine z_iload_n C d_Te_readNumber_55 rfl 1 rfl ?_
      refine z_iadd C d_Te_readNumber_56 ?_
      refine z_callVv (As := [.int ((256 : Int32) + y1)]) (b := q_t_draft) (st := []) (wr := [zo 3 q_t [.ref q_t_characters, .ref q_t_draft, .int t_length, .int t_at], zaC K q_t_characters 48 t_characters]) (wj := fun u => [zo 3 q_t [.ref q_t_characters, .ref q_t_draft, .int t_length, .int t_at], zaC K q_t_characters 48 t_characters, zo 2 q_t_draft [.ref q_t_draft_steps, .int u.1, .int t_draft_actions, .int t_draft_site, .int t_draft_exit, .int t_draft_conditional, .int t_draft_there, .int t_draft_on, .int t_draft_failures, .int t_draft_meetings], zaI K q_t_draft_steps 48 u.2]) C 2 rfl rfl (c_Ru_add l D K q_t_draft q_t_draft_steps t_draft_length t_draft_actions t_draft_site t_draft_exit t_draft_conditional t_draft_there t_draft_on t_draft_failures t_draft_meetings t_draft_steps ((256 : Int32) + y1) hS2.1) (cwV 1 C.2.2.2.2.1 (z_gV wl_Te_71 wi_Ru_add wv_Ru_add wz_Ru wk_Ru_add) rfl rfl rfl (by decide +kernel) ⟨Nat.le_of_ble_eq_true rfl, Nat.le_of_ble_eq_true rfl⟩) [2, 3] [0, 1] [0, 1, 2, 3] rfl rfl rfl rfl (by decide) (fun _ => rfl) rfl rfl rfl (Nat.le_of_ble_eq_true rfl) d_Te_readNumber_57 ⟨Nat.le_of_ble_eq_true rfl, Nat.le_of_ble_eq_true rfl⟩ (fun u4 e5 => ?_)
      obtain ⟨m6, m7⟩ := u4
      refine z_weq (ws' := [zo 3 q_t [.ref q_t_characters, .ref q_t_draft, .int t_length, .int t_at], zaC K q_t_characters 48 t_characters, zo 2 q_t_draft [.ref q_t_draft_steps, .int m6, .int t_draft_actions, .int t_draft_site, .int t_draft_exit, .int t_draft_conditional, .int t_draft_there, .int t_draft_on, .int t_draft_failures, .int t_draft_meetings], zaI K q_t_draft_steps 48 m7]) rfl ?_
      have hS8 := hS2.2 m6 m7 e5
      exact z_vret C hr hlk (t_at, m6, m7) rfl hS8 d_Te_readNumber_60
    · have hS2 := hS0.2 c1
      refine z_aload_n C d_Te_readNumber_9 rfl 0 rfl ?_
      refine z_callVi (As := []) (b := q_t) (st := []) (wr := [zo 2 q_t_draft [.ref q_t_draft_steps, .int t_draft_length, .int t_draft_actions, .int t_draft_site, .int t_draft_exit, .int t_draft_conditional, .int t_draft_there, .int t_draft_on, .int t_draft_failures, .int t_draft_meetings], zaI K q_t_draft_steps 48 t_draft_steps]) (wj := fun u => [zo 3 q_t [.ref q_t_characters, .ref q_t_draft, .int t_length, .int t_at], zaC K q_t_characters 48 t_characters, zo 2 q_t_draft [.ref q_t_draft_steps, .int t_draft_length, .int t_draft_actions, .int t_draft_site, .int t_draft_exit, .int t_draft_conditional, .int t_draft_there, .int t_draft_on, .int t_draft_failures, .int t_draft_meetings], zaI K q_t_draft_steps 48 t_draft_steps]) C 0 rfl rfl (c_Te_next l D K q_t q_t_characters q_t_draft t_length t_at t_characters hS2.1) (cwV 0 C.2.2.2.2.1 (z_gV wl_Te_50 wi_Te_next wv_Te_next wz_Te wk_Te_next) rfl rfl rfl (by decide +kernel) ⟨Nat.le_of_ble_eq_true rfl, Nat.le_of_ble_eq_true rfl⟩) [0, 1] [2, 3] [2, 3, 0, 1] rfl rfl rfl rfl (by decide) (fun _ => rfl) rfl rfl rfl (Nat.le_of_ble_eq_true rfl) d_Te_readNumber_10 ⟨Nat.le_of_ble_eq_true rfl, Nat.le_of_ble_eq_true rfl⟩ (fun r9 u10 e11 => ?_)
      have hS12 := hS2.2 r9 e11
      refine z_callSi (As := [.int r9]) (st := []) (wr := [zo 3 q_t [.ref q_t_characters, .ref q_t_draft, .int t_length, .int t_at], zaC K q_t_characters 48 t_characters, zo 2 q_t_draft [.ref q_t_draft_steps, .int t_draft_length, .int t_draft_actions, .int t_draft_site, .int t_draft_exit, .int t_draft_conditional, .int t_draft_there, .int t_draft_on, .int t_draft_failures, .int t_draft_meetings], zaI K q_t_draft_steps 48 t_draft_steps]) (wj := fun u => [zo 3 q_t [.ref q_t_characters, .ref q_t_draft, .int t_length, .int t_at], zaC K q_t_characters 48 t_characters, zo 2 q_t_draft [.ref q_t_draft_steps, .int t_draft_length, .int t_draft_actions, .int t_draft_site, .int t_draft_exit, .int t_draft_conditional, .int t_draft_there, .int t_draft_on, .int t_draft_failures, .int t_draft_meetings], zaI K q_t_draft_steps 48 t_draft_steps]) C (c_Te_isDigit l D K r9) (cwS 1 C.2.2.2.2.1 (z_gS wl_Te_86 ws_Te_isDigit wz_Te wk_Te_isDigit) rfl rfl rfl (by decide +kernel) ⟨Nat.le_of_ble_eq_true rfl, Nat.le_of_ble_eq_true rfl⟩) [] [0, 1, 2, 3] [0, 1, 2, 3] rfl rfl rfl rfl (by decide) (fun _ => rfl) rfl rfl rfl (Nat.le_of_ble_eq_true rfl) d_Te_readNumber_13 ⟨Nat.le_of_ble_eq_true rfl, Nat.le_of_ble_eq_true rfl⟩ (fun r13 u14 e15 => ?_)
      have hS16 := hS12 r13 e15
      refine z_if_eq (tgt := 48) C d_Te_readNumber_16 (by decide) (fun c17 => ?_) (fun c17 => ?_)
      · have hS18 := hS16.1 c17
        refine z_aload_n C d_Te_readNumber_48 rfl 0 rfl ?_
        refine z_get C 0 rfl rfl in_Te 1 (by decide) rfl wf_Te_18 rfl d_Te_readNumber_49 ?_
        refine z_sipush (v := (256 : Int32)) C d_Te_readNumber_52 (by decide) ?_
        refine z_iload_n C d_Te_readNumber_55 rfl 1 rfl ?_
        refine z_iadd C d_Te_readNumber_56 ?_
        refine z_callVv (As := [.int ((256 : Int32) + y1)]) (b := q_t_draft) (st := []) (wr := [zo 3 q_t [.ref q_t_characters, .ref q_t_draft, .int t_length, .int t_at], zaC K q_t_characters 48 t_characters]) (wj := fun u => [zo 3 q_t [.ref q_t_characters, .ref q_t_draft, .int t_length, .int t_at], zaC K q_t_characters 48 t_characters, zo 2 q_t_draft [.ref q_t_draft_steps, .int u.1, .int t_draft_actions, .int t_draft_site, .int t_draft_exit, .int t_draft_conditional, .int t_draft_there, .int t_draft_on, .int t_draft_failures, .int t_draft_meetings], zaI K q_t_draft_steps 48 u.2]) C 2 rfl rfl (c_Ru_add l D K q_t_draft q_t_draft_steps t_draft_length t_draft_actions t_draft_site t_draft_exit t_draft_conditional t_draft_there t_draft_on t_draft_failures t_draft_meetings t_draft_steps ((256 : Int32) + y1) hS18.1) (cwV 1 C.2.2.2.2.1 (z_gV wl_Te_71 wi_Ru_add wv_Ru_add wz_Ru wk_Ru_add) rfl rfl rfl (by decide +kernel) ⟨Nat.le_of_ble_eq_true rfl, Nat.le_of_ble_eq_true rfl⟩) [2, 3] [0, 1] [0, 1, 2, 3] rfl rfl rfl rfl (by decide) (fun _ => rfl) rfl rfl rfl (Nat.le_of_ble_eq_true rfl) d_Te_readNumber_57 ⟨Nat.le_of_ble_eq_true rfl, Nat.le_of_ble_eq_true rfl⟩ (fun u20 e21 => ?_)
        obtain ⟨m22, m23⟩ := u20
        refine z_weq (ws' := [zo 3 q_t [.ref q_t_characters, .ref q_t_draft, .int t_length, .int t_at], zaC K q_t_characters 48 t_characters, zo 2 q_t_draft [.ref q_t_draft_steps, .int m22, .int t_draft_actions, .int t_draft_site, .int t_draft_exit, .int t_draft_conditional, .int t_draft_there, .int t_draft_on, .int t_draft_failures, .int t_draft_meetings], zaI K q_t_draft_steps 48 m23]) rfl ?_
        have hS24 := hS18.2 m22 m23 e21
        exact z_vret C hr hlk (t_at, m22, m23) rfl hS24 d_Te_readNumber_60
      · have hS18 := hS16.2 c17
        refine z_iload_n C d_Te_readNumber_19 rfl 1 rfl ?_
        refine z_bipush (v := (10 : Int32)) C d_Te_readNumber_20 (by decide) ?_
        refine z_imul C d_Te_readNumber_22 ?_
        refine z_aload_n C d_Te_readNumber_23 rfl 0 rfl ?_
        refine z_callVi (As := []) (b := q_t) (st := [.int (y1 * (10 : Int32))]) (wr := [zo 2 q_t_draft [.ref q_t_draft_steps, .int t_draft_length, .int t_draft_actions, .int t_draft_site, .int t_draft_exit, .int t_draft_conditional, .int t_draft_there, .int t_draft_on, .int t_draft_failures, .int t_draft_meetings], zaI K q_t_draft_steps 48 t_draft_steps]) (wj := fun u => [zo 3 q_t [.ref q_t_characters, .ref q_t_draft, .int t_length, .int t_at], zaC K q_t_characters 48 t_characters, zo 2 q_t_draft [.ref q_t_draft_steps, .int t_draft_length, .int t_draft_actions, .int t_draft_site, .int t_draft_exit, .int t_draft_conditional, .int t_draft_there, .int t_draft_on, .int t_draft_failures, .int t_draft_meetings], zaI K q_t_draft_steps 48 t_draft_steps]) C 0 rfl rfl (c_Te_next l D K q_t q_t_characters q_t_draft t_length t_at t_characters hS18.1) (cwV 0 C.2.2.2.2.1 (z_gV wl_Te_50 wi_Te_next wv_Te_next wz_Te wk_Te_next) rfl rfl rfl (by decide +kernel) ⟨Nat.le_of_ble_eq_true rfl, Nat.le_of_ble_eq_true rfl⟩) [0, 1] [2, 3] [2, 3, 0, 1] rfl rfl rfl rfl (by decide) (fun _ => rfl) rfl rfl rfl (Nat.le_of_ble_eq_true rfl) d_Te_readNumber_24 ⟨Nat.le_of_ble_eq_true rfl, Nat.le_of_ble_eq_true rfl⟩ (fun r25 u26 e27 => ?_)
        have hS28 := hS18.2 r25 e27
        obtain rfl : r9 = r25 := e11.symm.trans e27
        refine z_bipush (v := (48 : Int32)) C d_Te_readNumber_27 (by decide) ?_
        refine z_isub C d_Te_readNumber_29 ?_
        refine z_iadd C d_Te_readNumber_30 ?_
        refine z_istore_n (lv' := [(1, .int ((y1 * (10 : Int32)) + (r9 - (48 : Int32)))), (0, .ref q_t), (2, .int y2)]) C d_Te_readNumber_31 rfl (by decide) rfl ?_
        refine z_aload_n C d_Te_readNumber_32 rfl 1 rfl ?_
        refine z_dup C d_Te_readNumber_33 rfl ?_
        refine z_get C 0 rfl rfl in_Te 3 (by decide) rfl wf_Te_26 rfl d_Te_readNumber_34 ?_
        refine z_iconst (v := (1 : Int32)) C d_Te_readNumber_37 (by decide) ?_
        refine z_iadd C d_Te_readNumber_38 ?_
        refine z_put (ty := .int) (ws' := [zo 3 q_t [.ref q_t_characters, .ref q_t_draft, .int t_length, .int (t_at + (1 : Int32))], zaC K q_t_characters 48 t_characters, zo 2 q_t_draft [.ref q_t_draft_steps, .int t_draft_length, .int t_draft_actions, .int t_draft_site, .int t_draft_exit, .int t_draft_conditional, .int t_draft_there, .int t_draft_on, .int t_draft_failures, .int t_draft_meetings], zaI K q_t_draft_steps 48 t_draft_steps]) C ty_Te to_Te nm_Te 0 rfl rfl in_Te 3 (by decide) rfl wf_Te_26 rfl rfl rfl rfl (Nat.le_of_ble_eq_true rfl) rfl d_Te_readNumber_39 ?_
        refine z_iinc (j := 2) (v := y2 + (1 : Int32)) (lv' := [(2, .int (y2 + (1 : Int32))), (1, .int ((y1 * (10 : Int32)) + (r9 - (48 : Int32)))), (0, .ref q_t)]) C d_Te_readNumber_42 rfl rfl (by decide) rfl ?_
        refine z_goto (tgt := 4) C d_Te_readNumber_45 (by decide) ?_
        refine z_lpick (lv' := [(0, .ref q_t), (1, .int ((y1 * (10 : Int32)) + (r9 - (48 : Int32)))), (2, .int (y2 + (1 : Int32)))]) [2, 1, 0] rfl ?_
        exact ih ((y1 * (10 : Int32)) + (r9 - (48 : Int32))) (y2 + (1 : Int32)) (t_at + (1 : Int32)) t_draft_length t_draft_steps hS28
set_option maxHeartbeats 4000000 in
set_option maxRecDepth 100000 in
theorem cw_Te_readNumber (l : Launch) (D : va_G) (K : Nat → ClassId) (q_t : Nat) (q_t_characters : Nat) (q_t_draft : Nat) (q_t_draft_steps : Nat) (t_length : Int32) (t_at : Int32) (t_characters : Nat → Int32) (t_draft_length : Int32) (t_draft_actions : Int32) (t_draft_site : Int32) (t_draft_exit : Int32) (t_draft_conditional : Int32) (t_draft_there : Int32) (t_draft_on : Int32) (t_draft_failures : Int32) (t_draft_meetings : Int32) (t_draft_steps : Nat → Int32) {Q : (Int32 × Int32 × (Nat → Int32)) → Prop} (hS0 : WP_Te_readNumber t_length t_at t_characters t_draft_length t_draft_steps Q) : zCv l y_Te_readNumber wy_Te_readNumber rm_Te_readNumber D zcl (zT K) [.ref q_t] (w_Te_readNumber K q_t q_t_characters q_t_draft q_t_draft_steps t_length t_characters t_draft_actions t_draft_site t_draft_exit t_draft_conditional t_draft_there t_draft_on t_draft_failures t_draft_meetings (t_at, t_draft_length, t_draft_steps)) (w_Te_readNumber K q_t q_t_characters q_t_draft q_t_draft_steps t_length t_characters t_draft_actions t_draft_site t_draft_exit t_draft_conditional t_draft_there t_draft_on t_draft_failures t_draft_meetings) Q 0 0 := by
  refine z_metv (cc := b_Te_readNumber) (maxL := 3) (ret := none) (by decide) rfl (Nat.le_of_ble_eq_true rfl) ?_
  intro p e s m args below meth c A C hr hlk hnm
  refine z_lpick (lv' := [(0, .ref q_t)]) [0] rfl ?_
  refine z_weq (ws' := [zo 3 q_t [.ref q_t_characters, .ref q_t_draft, .int t_length, .int t_at], zaC K q_t_characters 48 t_characters, zo 2 q_t_draft [.ref q_t_draft_steps, .int t_draft_length, .int t_draft_actions, .int t_draft_site, .int t_draft_exit, .int t_draft_conditional, .int t_draft_there, .int t_draft_on, .int t_draft_failures, .int t_draft_meetings], zaI K q_t_draft_steps 48 t_draft_steps]) rfl ?_
  refine z_iconst (v := (0 : Int32)) C d_Te_readNumber_0 (by decide) ?_
  refine z_istore_n (lv' := [(1, .int (0 : Int32)), (0, .ref q_t)]) C d_Te_readNumber_1 rfl (by decide) rfl ?_
  refine z_iconst (v := (0 : Int32)) C d_Te_readNumber_2 (by decide) ?_
  refine z_istore_n (lv' := [(2, .int (0 : Int32)), (1, .int (0 : Int32)), (0, .ref q_t)]) C d_Te_readNumber_3 rfl (by decide) rfl ?_
  refine z_lpick (lv' := [(0, .ref q_t), (1, .int (0 : Int32)), (2, .int (0 : Int32))]) [2, 1, 0] rfl ?_
  exact lw_Te_readNumber_L4 l D K q_t q_t_characters q_t_draft q_t_draft_steps t_length t_characters t_draft_actions t_draft_site t_draft_exit t_draft_conditional t_draft_there t_draft_on t_draft_failures t_draft_meetings C hr hlk 600 (0 : Int32) (0 : Int32) t_at t_draft_length t_draft_steps hS0
def s_Te_readNumber_L4 : Nat → Int32 → Int32 → Int32 → Int32 → (Nat → Int32) → Int32 → (Nat → Int32) → Int32 × Int32 × (Nat → Int32)
  | 0, _, _, _, t_at, _, t_draft_length, t_draft_steps => (t_at, t_draft_length, t_draft_steps)
  | n + 1, y1, y2, t_length, t_at, t_characters, t_draft_length, t_draft_steps => (if (3 : Int32) ≤ y2 then (zl2 (s_Ru_add t_draft_length t_draft_steps ((256 : Int32) + y1)) (fun m6 m7 => (t_at, m6, m7))) else (zl1 (s_Te_next t_length t_at t_characters) fun r9 => (zl1 (s_Te_isDigit r9) fun r13 => (if r13 = 0 then (zl2 (s_Ru_add t_draft_length t_draft_steps ((256 : Int32) + y1)) (fun m22 m23 => (t_at, m22, m23))) else (zl1 (s_Te_next t_length t_at t_characters) fun r25 => s_Te_readNumber_L4 n ((y1 * (10 : Int32)) + (r9 - (48 : Int32))) (y2 + (1 : Int32)) t_length (t_at + (1 : Int32)) t_characters t_draft_length t_draft_steps)))))
def s_Te_readNumber (t_length : Int32) (t_at : Int32) (t_characters : Nat → Int32) (t_draft_length : Int32) (t_draft_steps : Nat → Int32) : Int32 × Int32 × (Nat → Int32) := s_Te_readNumber_L4 600 (0 : Int32) (0 : Int32) t_length t_at t_characters t_draft_length t_draft_steps
def p_Te_readNumber (t_length : Int32) (t_at : Int32) (t_characters : Nat → Int32) (t_draft_length : Int32) (t_draft_steps : Nat → Int32) : Prop := WP_Te_readNumber t_length t_at t_characters t_draft_length t_draft_steps (fun _ => True)
set_option maxRecDepth 100000 in
theorem v_Te_readNumber_L4 : ∀ (n : Nat) (y1 : Int32) (y2 : Int32) (t_length : Int32) (t_at : Int32) (t_characters : Nat → Int32) (t_draft_length : Int32) (t_draft_steps : Nat → Int32) (tgt : Int32 × Int32 × (Nat → Int32)), s_Te_readNumber_L4 n y1 y2 t_length t_at t_characters t_draft_length t_draft_steps = tgt → WP_Te_readNumber_L4 n y1 y2 t_length t_at t_characters t_draft_length t_draft_steps (fun _ => True) → WP_Te_readNumber_L4 n y1 y2 t_length t_at t_characters t_draft_length t_draft_steps (fun u => tgt = u) := by
  intro n
  induction n with
  | zero => intros; contradiction
  | succ n ih =>
    intro y1 y2 t_length t_at t_characters t_draft_length t_draft_steps tgt f0 hp
    unfold s_Te_readNumber_L4 at f0
    unfold WP_Te_readNumber_L4 at hp ⊢
    refine ⟨fun c1 => ?_, fun c1 => ?_⟩
    · have f1 := Eq.trans (Eq.symm (if_pos c1)) f0
      have g1 := hp.1 c1
      refine ⟨g1.1, ?_⟩
      have g3 := g1.2
      intro m6 m7 e5
      have g2 := g3 m6 m7 e5
      have f2 := Eq.trans (Eq.symm (zl2_eq e5)) f1
      exact f2.symm
    · have f1 := Eq.trans (Eq.symm (if_neg c1)) f0
      have g1 := hp.2 c1
      refine ⟨g1.1, ?_⟩
      have g5 := g1.2
      intro r9 e11
      have g4 := g5 r9 e11
      have f4 := Eq.trans (Eq.symm (zl1_eq e11)) f1
      intro r13 e15
      have g6 := g4 r13 e15
      have f6 := Eq.trans (Eq.symm (zl1_eq e15)) f4
      refine ⟨fun c17 => ?_, fun c17 => ?_⟩
      · have f7 := Eq.trans (Eq.symm (if_pos c17)) f6
        have g7 := g6.1 c17
        refine ⟨g7.1, ?_⟩
        have g9 := g7.2
        intro m22 m23 e21
        have g8 := g9 m22 m23 e21
        have f8 := Eq.trans (Eq.symm (zl2_eq e21)) f7
        exact f8.symm
      · have f7 := Eq.trans (Eq.symm (if_neg c17)) f6
        have g7 := g6.2 c17
        refine ⟨g7.1, ?_⟩
        have g11 := g7.2
        intro r25 e27
        have g10 := g11 r25 e27
        have f10 := Eq.trans (Eq.symm (zl1_eq e27)) f7
        exact ih ((y1 * (10 : Int32)) + (r9 - (48 : Int32))) (y2 + (1 : Int32)) t_length (t_at + (1 : Int32)) t_characters t_draft_length t_draft_steps _ f10 g10
set_option maxRecDepth 100000 in
theorem v_Te_readNumber (t_length : Int32) (t_at : Int32) (t_characters : Nat → Int32) (t_draft_length : Int32) (t_draft_steps : Nat → Int32) (hp : p_Te_readNumber t_length t_at t_characters t_draft_length t_draft_steps) : WP_Te_readNumber t_length t_at t_characters t_draft_length t_draft_steps (fun u => s_Te_readNumber t_length t_at t_characters t_draft_length t_draft_steps = u) := by
  unfold p_Te_readNumber WP_Te_readNumber at hp
  obtain ⟨tgt, f0⟩ : ∃ tgt, s_Te_readNumber t_length t_at t_characters t_draft_length t_draft_steps = tgt := ⟨_, rfl⟩
  rw [f0]
  unfold s_Te_readNumber at f0
  unfold WP_Te_readNumber
  exact v_Te_readNumber_L4 600 (0 : Int32) (0 : Int32) t_length t_at t_characters t_draft_length t_draft_steps _ f0 hp
theorem c_Te_readNumber (l : Launch) (D : va_G) (K : Nat → ClassId) (q_t : Nat) (q_t_characters : Nat) (q_t_draft : Nat) (q_t_draft_steps : Nat) (t_length : Int32) (t_at : Int32) (t_characters : Nat → Int32) (t_draft_length : Int32) (t_draft_actions : Int32) (t_draft_site : Int32) (t_draft_exit : Int32) (t_draft_conditional : Int32) (t_draft_there : Int32) (t_draft_on : Int32) (t_draft_failures : Int32) (t_draft_meetings : Int32) (t_draft_steps : Nat → Int32) (hp : p_Te_readNumber t_length t_at t_characters t_draft_length t_draft_steps) : zCv l y_Te_readNumber wy_Te_readNumber rm_Te_readNumber D zcl (zT K) [.ref q_t] (w_Te_readNumber K q_t q_t_characters q_t_draft q_t_draft_steps t_length t_characters t_draft_actions t_draft_site t_draft_exit t_draft_conditional t_draft_there t_draft_on t_draft_failures t_draft_meetings (t_at, t_draft_length, t_draft_steps)) (w_Te_readNumber K q_t q_t_characters q_t_draft q_t_draft_steps t_length t_characters t_draft_actions t_draft_site t_draft_exit t_draft_conditional t_draft_there t_draft_on t_draft_failures t_draft_meetings) (fun u => s_Te_readNumber t_length t_at t_characters t_draft_length t_draft_steps = u) 0 0 := cw_Te_readNumber l D K q_t q_t_characters q_t_draft q_t_draft_steps t_length t_at t_characters t_draft_length t_draft_actions t_draft_site t_draft_exit t_draft_conditional t_draft_there t_draft_on t_draft_failures t_draft_meetings t_draft_steps (v_Te_readNumber t_length t_at t_characters t_draft_length t_draft_steps hp)
