set_option maxRecDepth 100000 in
theorem pm_Te_readLevel_L38 (rd : zRD) (prd : zRP) {Q Q2 : Int32 → (Int32 × Int32 × (Nat → Int32)) → Prop} (hQ : ∀ r u, Q r u → Q2 r u) : ∀ (n : Nat) (y1 : Int32) (y2 : Int32) (y3 : Int32) (y4 : Int32) (t_length : Int32) (t_at : Int32) (t_characters : Nat → Int32) (t_draft_length : Int32) (t_draft_steps : Nat → Int32), WP_Te_readLevel_L38 rd prd n y1 y2 y3 y4 t_length t_at t_characters t_draft_length t_draft_steps Q → WP_Te_readLevel_L38 rd prd n y1 y2 y3 y4 t_length t_at t_characters t_draft_length t_draft_steps Q2 := by
  intro n
  induction n with
  | zero => intros; contradiction
  | succ n ih =>
    intro y1 y2 y3 y4 t_length t_at t_characters t_draft_length t_draft_steps hp
    unfold WP_Te_readLevel_L38 at hp ⊢
    refine ⟨fun c21 => ?_, fun c21 => ?_⟩
    · have g1 := hp.1 c21
      exact hQ _ _ g1
    · have g1 := hp.2 c21
      refine ⟨g1.1, ?_⟩
      intro r23 e25
      have g2 := g1.2 r23 e25
      intro r27 e29
      have g3 := g2 r27 e29
      refine ⟨fun c31 => ?_, fun c31 => ?_⟩
      · have g4 := g3.1 c31
        exact hQ _ _ g4
      · have g4 := g3.2 c31
        refine ⟨g4.1, ?_⟩
        intro r33 e35
        have g5 := g4.2 r33 e35
        refine ⟨g5.1, ?_⟩
        intro r37 m40 m41 m42 e39
        have g6 := g5.2 r37 m40 m41 m42 e39
        refine ⟨fun c44 => ?_, fun c44 => ?_⟩
        · have g7 := g6.1 c44
          refine ⟨g7.1, ?_⟩
          intro m49 m50 e48
          have g8 := g7.2 m49 m50 e48
          exact ih _ _ _ _ _ _ _ _ _ g8
        · have g7 := g6.2 c44
          exact hQ _ _ g7
set_option maxRecDepth 100000 in
theorem qm_Te_readLevel_L38 (rd : zRD) (prd : zRP) {Q : Int32 → (Int32 × Int32 × (Nat → Int32)) → Prop} : ∀ (n : Nat) (y1 : Int32) (y2 : Int32) (y3 : Int32) (y4 : Int32) (t_length : Int32) (t_at : Int32) (t_characters : Nat → Int32) (t_draft_length : Int32) (t_draft_steps : Nat → Int32) (tgt : Int32 × Int32 × Int32 × (Nat → Int32)), s_Te_readLevel_L38 rd n y1 y2 y3 y4 t_length t_at t_characters t_draft_length t_draft_steps = tgt → WP_Te_readLevel_L38 rd prd n y1 y2 y3 y4 t_length t_at t_characters t_draft_length t_draft_steps Q → Q tgt.1 tgt.2 := by
  intro n
  induction n with
  | zero => intros; contradiction
  | succ n ih =>
    intro y1 y2 y3 y4 t_length t_at t_characters t_draft_length t_draft_steps tgt f0 hp
    unfold WP_Te_readLevel_L38 at hp
    unfold s_Te_readLevel_L38 at f0
    by_cases c21 : y3 ≤ y4
    · have f1 := Eq.trans (Eq.symm (if_pos c21)) f0
      have g1 := hp.1 c21
      subst f1; exact g1
    · have f1 := Eq.trans (Eq.symm (if_neg c21)) f0
      have g1 := hp.2 c21
      obtain ⟨r23, e25⟩ := zex1 (s_Te_next t_length t_at t_characters)
      have g2 := g1.2 r23 e25
      have f2 := Eq.trans (Eq.symm (zl1_eq e25)) f1
      obtain ⟨r27, e29⟩ := zex1 (s_Te_levelOf r23)
      have g3 := g2 r27 e29
      have f3 := Eq.trans (Eq.symm (zl1_eq e29)) f2
      by_cases c31 : r27 = y1
      · have f4 := Eq.trans (Eq.symm (if_pos c31)) f3
        have g4 := g3.2 c31
        obtain ⟨r33, e35⟩ := zex1 (s_Te_next t_length t_at t_characters)
        have g5 := g4.2 r33 e35
        have f5 := Eq.trans (Eq.symm (zl1_eq e35)) f4
        obtain ⟨r37, m40, m41, m42, e39⟩ := zex4 (rd 0 t_length (t_at + (1 : Int32)) t_characters t_draft_length t_draft_steps (y1 + (1 : Int32)) y2)
        have g6 := g5.2 r37 m40 m41 m42 e39
        have f6 := Eq.trans (Eq.symm (zl2_eq e39)) f5
        have f6 := Eq.trans (Eq.symm (zl2_eq (Eq.refl (m40, m41, m42)))) f6
        have f6 := Eq.trans (Eq.symm (zl2_eq (Eq.refl (m41, m42)))) f6
        by_cases c44 : r37 = 0
        · have f7 := Eq.trans (Eq.symm (if_pos c44)) f6
          have g7 := g6.2 c44
          subst f7; exact g7
        · have f7 := Eq.trans (Eq.symm (if_neg c44)) f6
          have g7 := g6.1 c44
          obtain ⟨m49, m50, e48⟩ := zex2 (s_Ru_add m41 m42 r23)
          have g8 := g7.2 m49 m50 e48
          have f8 := Eq.trans (Eq.symm (zl2_eq e48)) f7
          exact ih _ _ _ _ _ _ _ _ _ _ f8 g8
      · have f4 := Eq.trans (Eq.symm (if_neg c31)) f3
        have g4 := g3.1 c31
        subst f4; exact g4
set_option maxRecDepth 100000 in
theorem pm_Te_readLevel (rd : zRD) (prd : zRP) (t_length : Int32) (t_at : Int32) (t_characters : Nat → Int32) (t_draft_length : Int32) (t_draft_steps : Nat → Int32) (x1 : Int32) (x2 : Int32) {Q Q2 : Int32 → (Int32 × Int32 × (Nat → Int32)) → Prop} (hQ : ∀ r u, Q r u → Q2 r u) (hp : WP_Te_readLevel rd prd t_length t_at t_characters t_draft_length t_draft_steps x1 x2 Q) : WP_Te_readLevel rd prd t_length t_at t_characters t_draft_length t_draft_steps x1 x2 Q2 := by
  unfold WP_Te_readLevel at hp ⊢
  refine ⟨fun c1 => ?_, fun c1 => ?_⟩
  · have g1 := hp.1 c1
    refine ⟨g1.1, ?_⟩
    intro r3 m6 m7 m8 e5
    have g2 := g1.2 r3 m6 m7 m8 e5
    refine ⟨fun c10 => ?_, fun c10 => ?_⟩
    · have g3 := g2.1 c10
      refine ⟨fun c12 => ?_, fun c12 => ?_⟩
      · have g4 := g3.1 c12
        exact pm_Te_readLevel_L38 rd prd hQ _ _ _ _ _ _ _ _ _ _ g4
      · have g4 := g3.2 c12
        exact pm_Te_readLevel_L38 rd prd hQ _ _ _ _ _ _ _ _ _ _ g4
    · have g3 := g2.2 c10
      exact hQ _ _ g3
  · have g1 := hp.2 c1
    refine ⟨g1.1, ?_⟩
    intro r14 m17 m18 m19 e16
    have g5 := g1.2 r14 m17 m18 m19 e16
    refine ⟨g5.1, ?_⟩
    have g6 := g5.2
    exact hQ _ _ g6
set_option maxRecDepth 100000 in
theorem qm_Te_readLevel (rd : zRD) (prd : zRP) (t_length : Int32) (t_at : Int32) (t_characters : Nat → Int32) (t_draft_length : Int32) (t_draft_steps : Nat → Int32) (x1 : Int32) (x2 : Int32) {Q : Int32 → (Int32 × Int32 × (Nat → Int32)) → Prop} (tgt : Int32 × Int32 × Int32 × (Nat → Int32)) (f0 : sR_Te_readLevel rd t_length t_at t_characters t_draft_length t_draft_steps x1 x2 = tgt) (hp : WP_Te_readLevel rd prd t_length t_at t_characters t_draft_length t_draft_steps x1 x2 Q) : Q tgt.1 tgt.2 := by
  unfold WP_Te_readLevel at hp
  unfold sR_Te_readLevel at f0
  by_cases c1 : x1 ≤ (2 : Int32)
  · have f1 := Eq.trans (Eq.symm (if_pos c1)) f0
    have g1 := hp.1 c1
    obtain ⟨r3, m6, m7, m8, e5⟩ := zex4 (rd 0 t_length t_at t_characters t_draft_length t_draft_steps (x1 + (1 : Int32)) x2)
    have g2 := g1.2 r3 m6 m7 m8 e5
    have f2 := Eq.trans (Eq.symm (zl2_eq e5)) f1
    have f2 := Eq.trans (Eq.symm (zl2_eq (Eq.refl (m6, m7, m8)))) f2
    have f2 := Eq.trans (Eq.symm (zl2_eq (Eq.refl (m7, m8)))) f2
    by_cases c10 : r3 = 0
    · have f3 := Eq.trans (Eq.symm (if_pos c10)) f2
      have g3 := g2.2 c10
      subst f3; exact g3
    · have f3 := Eq.trans (Eq.symm (if_neg c10)) f2
      have g3 := g2.1 c10
      by_cases c12 : x1 = 0
      · have f4 := Eq.trans (Eq.symm (if_pos c12)) f3
        have g4 := g3.2 c12
        exact qm_Te_readLevel_L38 rd prd _ _ _ _ _ _ _ _ _ _ _ f4 g4
      · have f4 := Eq.trans (Eq.symm (if_neg c12)) f3
        have g4 := g3.1 c12
        exact qm_Te_readLevel_L38 rd prd _ _ _ _ _ _ _ _ _ _ _ f4 g4
  · have f1 := Eq.trans (Eq.symm (if_neg c1)) f0
    have g1 := hp.2 c1
    obtain ⟨r14, m17, m18, m19, e16⟩ := zex4 (rd 1 t_length t_at t_characters t_draft_length t_draft_steps x2 (0 : Int32))
    have g5 := g1.2 r14 m17 m18 m19 e16
    have f5 := Eq.trans (Eq.symm (zl2_eq e16)) f1
    have f5 := Eq.trans (Eq.symm (zl2_eq (Eq.refl (m17, m18, m19)))) f5
    have f5 := Eq.trans (Eq.symm (zl2_eq (Eq.refl (m18, m19)))) f5
    have g6 := g5.2
    subst f5; exact g6
theorem e_Te_readLevel (rd : zRD) (prd : zRP) (t_length : Int32) (t_at : Int32) (t_characters : Nat → Int32) (t_draft_length : Int32) (t_draft_steps : Nat → Int32) (x1 : Int32) (x2 : Int32) {Q : Int32 → (Int32 × Int32 × (Nat → Int32)) → Prop} (hp : WP_Te_readLevel rd prd t_length t_at t_characters t_draft_length t_draft_steps x1 x2 Q) : pR_Te_readLevel rd prd t_length t_at t_characters t_draft_length t_draft_steps x1 x2 ∧ Q (sR_Te_readLevel rd t_length t_at t_characters t_draft_length t_draft_steps x1 x2).1 (sR_Te_readLevel rd t_length t_at t_characters t_draft_length t_draft_steps x1 x2).2 := ⟨pm_Te_readLevel rd prd t_length t_at t_characters t_draft_length t_draft_steps x1 x2 (fun _ _ _ => trivial) hp, qm_Te_readLevel rd prd t_length t_at t_characters t_draft_length t_draft_steps x1 x2 _ rfl hp⟩
set_option maxRecDepth 100000 in
theorem pm_Te_readUnit (rd : zRD) (prd : zRP) (t_length : Int32) (t_at : Int32) (t_characters : Nat → Int32) (t_draft_length : Int32) (t_draft_steps : Nat → Int32) (x1 : Int32) {Q Q2 : Int32 → (Int32 × Int32 × (Nat → Int32)) → Prop} (hQ : ∀ r u, Q r u → Q2 r u) (hp : WP_Te_readUnit rd prd t_length t_at t_characters t_draft_length t_draft_steps x1 Q) : WP_Te_readUnit rd prd t_length t_at t_characters t_draft_length t_draft_steps x1 Q2 := by
  unfold WP_Te_readUnit at hp ⊢
  refine ⟨hp.1, ?_⟩
  intro r1 e3
  have g1 := hp.2 r1 e3
  intro r5 e7
  have g2 := g1 r5 e7
  refine ⟨fun c9 => ?_, fun c9 => ?_⟩
  · have g3 := g2.1 c9
    intro r11 e13
    have g4 := g3 r11 e13
    refine ⟨fun c15 => ?_, fun c15 => ?_⟩
    · have g5 := g4.1 c15
      refine ⟨fun c17 => ?_, fun c17 => ?_⟩
      · have g6 := g5.1 c17
        refine ⟨fun c19 => ?_, fun c19 => ?_⟩
        · have g7 := g6.1 c19
          refine ⟨g7.1, ?_⟩
          intro r22 m25 m26 m27 e24
          have g8 := g7.2 r22 m25 m26 m27 e24
          refine ⟨fun c29 => ?_, fun c29 => ?_⟩
          · have g9 := g8.1 c29
            exact hQ _ _ g9
          · have g9 := g8.2 c29
            refine ⟨g9.1, ?_⟩
            intro r31 u32 e33
            have g10 := g9.2 r31 u32 e33
            refine ⟨fun c35 => ?_, fun c35 => ?_⟩
            · have g11 := g10.1 c35
              exact hQ _ _ g11
            · have g11 := g10.2 c35
              exact hQ _ _ g11
        · have g7 := g6.2 c19
          exact hQ _ _ g7
      · have g6 := g5.2 c17
        refine ⟨fun c37 => ?_, fun c37 => ?_⟩
        · have g12 := g6.1 c37
          exact hQ _ _ g12
        · have g12 := g6.2 c37
          refine ⟨fun c39 => ?_, fun c39 => ?_⟩
          · have g13 := g12.1 c39
            refine ⟨g13.1, ?_⟩
            intro r42 m45 m46 m47 e44
            have g14 := g13.2 r42 m45 m46 m47 e44
            refine ⟨fun c49 => ?_, fun c49 => ?_⟩
            · have g15 := g14.1 c49
              refine ⟨g15.1, ?_⟩
              intro m54 m55 e53
              have g16 := g15.2 m54 m55 e53
              exact hQ _ _ g16
            · have g15 := g14.2 c49
              exact hQ _ _ g15
          · have g13 := g12.2 c39
            exact hQ _ _ g13
    · have g5 := g4.2 c15
      refine ⟨g5.1, ?_⟩
      intro m60 m61 e59
      have g17 := g5.2 m60 m61 e59
      exact hQ _ _ g17
  · have g3 := g2.2 c9
    refine ⟨g3.1, ?_⟩
    intro m66 m67 m68 e65
    have g18 := g3.2 m66 m67 m68 e65
    exact hQ _ _ g18
set_option maxRecDepth 100000 in
theorem qm_Te_readUnit (rd : zRD) (prd : zRP) (t_length : Int32) (t_at : Int32) (t_characters : Nat → Int32) (t_draft_length : Int32) (t_draft_steps : Nat → Int32) (x1 : Int32) {Q : Int32 → (Int32 × Int32 × (Nat → Int32)) → Prop} (tgt : Int32 × Int32 × Int32 × (Nat → Int32)) (f0 : sR_Te_readUnit rd t_length t_at t_characters t_draft_length t_draft_steps x1 = tgt) (hp : WP_Te_readUnit rd prd t_length t_at t_characters t_draft_length t_draft_steps x1 Q) : Q tgt.1 tgt.2 := by
  unfold WP_Te_readUnit at hp
  unfold sR_Te_readUnit at f0
  obtain ⟨r1, e3⟩ := zex1 (s_Te_next t_length t_at t_characters)
  have g1 := hp.2 r1 e3
  have f1 := Eq.trans (Eq.symm (zl1_eq e3)) f0
  obtain ⟨r5, e7⟩ := zex1 (s_Te_isDigit r1)
  have g2 := g1 r5 e7
  have f2 := Eq.trans (Eq.symm (zl1_eq e7)) f1
  by_cases c9 : r5 = 0
  · have f3 := Eq.trans (Eq.symm (if_pos c9)) f2
    have g3 := g2.1 c9
    obtain ⟨r11, e13⟩ := zex1 (s_Te_isName r1)
    have g4 := g3 r11 e13
    have f4 := Eq.trans (Eq.symm (zl1_eq e13)) f3
    by_cases c15 : r11 = 0
    · have f5 := Eq.trans (Eq.symm (if_pos c15)) f4
      have g5 := g4.1 c15
      by_cases c17 : r1 = (40 : Int32)
      · have f6 := Eq.trans (Eq.symm (if_pos c17)) f5
        have g6 := g5.1 c17
        by_cases c19 : x1 < (5 : Int32)
        · have f7 := Eq.trans (Eq.symm (if_pos c19)) f6
          have g7 := g6.1 c19
          obtain ⟨r22, m25, m26, m27, e24⟩ := zex4 (rd 0 t_length (t_at + (1 : Int32)) t_characters t_draft_length t_draft_steps (0 : Int32) (x1 + (1 : Int32)))
          have g8 := g7.2 r22 m25 m26 m27 e24
          have f8 := Eq.trans (Eq.symm (zl2_eq e24)) f7
          have f8 := Eq.trans (Eq.symm (zl2_eq (Eq.refl (m25, m26, m27)))) f8
          have f8 := Eq.trans (Eq.symm (zl2_eq (Eq.refl (m26, m27)))) f8
          by_cases c29 : r22 = 0
          · have f9 := Eq.trans (Eq.symm (if_pos c29)) f8
            have g9 := g8.1 c29
            subst f9; exact g9
          · have f9 := Eq.trans (Eq.symm (if_neg c29)) f8
            have g9 := g8.2 c29
            obtain ⟨r31, u32, e33⟩ := zex2 (s_Te_pass t_length m25 t_characters (41 : Int32))
            have g10 := g9.2 r31 u32 e33
            have f10 := Eq.trans (Eq.symm (zl2_eq e33)) f9
            by_cases c35 : r31 = 0
            · have f11 := Eq.trans (Eq.symm (if_pos c35)) f10
              have g11 := g10.1 c35
              subst f11; exact g11
            · have f11 := Eq.trans (Eq.symm (if_neg c35)) f10
              have g11 := g10.2 c35
              subst f11; exact g11
        · have f7 := Eq.trans (Eq.symm (if_neg c19)) f6
          have g7 := g6.2 c19
          subst f7; exact g7
      · have f6 := Eq.trans (Eq.symm (if_neg c17)) f5
        have g6 := g5.2 c17
        by_cases c37 : r1 = (45 : Int32)
        · have f12 := Eq.trans (Eq.symm (if_pos c37)) f6
          have g12 := g6.2 c37
          by_cases c39 : x1 < (5 : Int32)
          · have f13 := Eq.trans (Eq.symm (if_pos c39)) f12
            have g13 := g12.1 c39
            obtain ⟨r42, m45, m46, m47, e44⟩ := zex4 (rd 1 t_length (t_at + (1 : Int32)) t_characters t_draft_length t_draft_steps (x1 + (1 : Int32)) (0 : Int32))
            have g14 := g13.2 r42 m45 m46 m47 e44
            have f14 := Eq.trans (Eq.symm (zl2_eq e44)) f13
            have f14 := Eq.trans (Eq.symm (zl2_eq (Eq.refl (m45, m46, m47)))) f14
            have f14 := Eq.trans (Eq.symm (zl2_eq (Eq.refl (m46, m47)))) f14
            by_cases c49 : r42 = 0
            · have f15 := Eq.trans (Eq.symm (if_pos c49)) f14
              have g15 := g14.2 c49
              subst f15; exact g15
            · have f15 := Eq.trans (Eq.symm (if_neg c49)) f14
              have g15 := g14.1 c49
              obtain ⟨m54, m55, e53⟩ := zex2 (s_Ru_add m46 m47 (126 : Int32))
              have g16 := g15.2 m54 m55 e53
              have f16 := Eq.trans (Eq.symm (zl2_eq e53)) f15
              subst f16; exact g16
          · have f13 := Eq.trans (Eq.symm (if_neg c39)) f12
            have g13 := g12.2 c39
            subst f13; exact g13
        · have f12 := Eq.trans (Eq.symm (if_neg c37)) f6
          have g12 := g6.1 c37
          subst f12; exact g12
    · have f5 := Eq.trans (Eq.symm (if_neg c15)) f4
      have g5 := g4.2 c15
      obtain ⟨m60, m61, e59⟩ := zex2 (s_Ru_add t_draft_length t_draft_steps r1)
      have g17 := g5.2 m60 m61 e59
      have f17 := Eq.trans (Eq.symm (zl2_eq e59)) f5
      subst f17; exact g17
  · have f3 := Eq.trans (Eq.symm (if_neg c9)) f2
    have g3 := g2.2 c9
    obtain ⟨m66, m67, m68, e65⟩ := zex3 (s_Te_readNumber t_length t_at t_characters t_draft_length t_draft_steps)
    have g18 := g3.2 m66 m67 m68 e65
    have f18 := Eq.trans (Eq.symm (zl2_eq e65)) f3
    have f18 := Eq.trans (Eq.symm (zl2_eq (Eq.refl (m67, m68)))) f18
    subst f18; exact g18
theorem e_Te_readUnit (rd : zRD) (prd : zRP) (t_length : Int32) (t_at : Int32) (t_characters : Nat → Int32) (t_draft_length : Int32) (t_draft_steps : Nat → Int32) (x1 : Int32) {Q : Int32 → (Int32 × Int32 × (Nat → Int32)) → Prop} (hp : WP_Te_readUnit rd prd t_length t_at t_characters t_draft_length t_draft_steps x1 Q) : pR_Te_readUnit rd prd t_length t_at t_characters t_draft_length t_draft_steps x1 ∧ Q (sR_Te_readUnit rd t_length t_at t_characters t_draft_length t_draft_steps x1).1 (sR_Te_readUnit rd t_length t_at t_characters t_draft_length t_draft_steps x1).2 := ⟨pm_Te_readUnit rd prd t_length t_at t_characters t_draft_length t_draft_steps x1 (fun _ _ _ => trivial) hp, qm_Te_readUnit rd prd t_length t_at t_characters t_draft_length t_draft_steps x1 _ rfl hp⟩
set_option maxRecDepth 100000 in
theorem pm_Te_readGathering (t_length : Int32) (t_at : Int32) (t_characters : Nat → Int32) (t_draft_length : Int32) (t_draft_steps : Nat → Int32) {Q Q2 : Int32 → (Int32 × Int32 × (Nat → Int32)) → Prop} (hQ : ∀ r u, Q r u → Q2 r u) (hp : WP_Te_readGathering t_length t_at t_characters t_draft_length t_draft_steps Q) : WP_Te_readGathering t_length t_at t_characters t_draft_length t_draft_steps Q2 := by
  unfold WP_Te_readGathering at hp ⊢
  refine ⟨hp.1, ?_⟩
  intro r1 e3
  have g1 := hp.2 r1 e3
  refine ⟨fun c5 => ?_, fun c5 => ?_⟩
  · have g2 := g1.1 c5
    exact hQ _ _ g2
  · have g2 := g1.2 c5
    refine ⟨fun c7 => ?_, fun c7 => ?_⟩
    · have g3 := g2.1 c7
      refine ⟨g3.1, ?_⟩
      intro r9 u10 e11
      have g4 := g3.2 r9 u10 e11
      refine ⟨fun c13 => ?_, fun c13 => ?_⟩
      · have g5 := g4.1 c13
        exact hQ _ _ g5
      · have g5 := g4.2 c13
        refine ⟨g5.1, ?_⟩
        intro r15 m18 m19 m20 e17
        have g6 := g5.2 r15 m18 m19 m20 e17
        refine ⟨fun c22 => ?_, fun c22 => ?_⟩
        · have g7 := g6.1 c22
          exact hQ _ _ g7
        · have g7 := g6.2 c22
          refine ⟨g7.1, ?_⟩
          intro r24 u25 e26
          have g8 := g7.2 r24 u25 e26
          refine ⟨fun c28 => ?_, fun c28 => ?_⟩
          · have g9 := g8.1 c28
            refine ⟨g9.1, ?_⟩
            intro r30 u31 e32
            have g10 := g9.2 r30 u31 e32
            refine ⟨fun c34 => ?_, fun c34 => ?_⟩
            · have g11 := g10.1 c34
              exact hQ _ _ g11
            · have g11 := g10.2 c34
              refine ⟨g11.1, ?_⟩
              intro r36 m39 m40 m41 e38
              have g12 := g11.2 r36 m39 m40 m41 e38
              refine ⟨fun c43 => ?_, fun c43 => ?_⟩
              · have g13 := g12.1 c43
                refine ⟨g13.1, ?_⟩
                intro m48 m49 e47
                have g14 := g13.2 m48 m49 e47
                exact hQ _ _ g14
              · have g13 := g12.2 c43
                exact hQ _ _ g13
          · have g9 := g8.2 c28
            exact hQ _ _ g9
    · have g3 := g2.2 c7
      exact hQ _ _ g3
set_option maxRecDepth 100000 in
theorem qm_Te_readGathering (t_length : Int32) (t_at : Int32) (t_characters : Nat → Int32) (t_draft_length : Int32) (t_draft_steps : Nat → Int32) {Q : Int32 → (Int32 × Int32 × (Nat → Int32)) → Prop} (tgt : Int32 × Int32 × Int32 × (Nat → Int32)) (f0 : s_Te_readGathering t_length t_at t_characters t_draft_length t_draft_steps = tgt) (hp : WP_Te_readGathering t_length t_at t_characters t_draft_length t_draft_steps Q) : Q tgt.1 tgt.2 := by
  unfold WP_Te_readGathering at hp
  unfold s_Te_readGathering at f0
  obtain ⟨r1, e3⟩ := zex1 (s_Te_next t_length t_at t_characters)
  have g1 := hp.2 r1 e3
  have f1 := Eq.trans (Eq.symm (zl1_eq e3)) f0
  by_cases c5 : r1 < (65 : Int32)
  · have f2 := Eq.trans (Eq.symm (if_pos c5)) f1
    have g2 := g1.1 c5
    subst f2; exact g2
  · have f2 := Eq.trans (Eq.symm (if_neg c5)) f1
    have g2 := g1.2 c5
    by_cases c7 : r1 ≤ (67 : Int32)
    · have f3 := Eq.trans (Eq.symm (if_pos c7)) f2
      have g3 := g2.1 c7
      obtain ⟨r9, u10, e11⟩ := zex2 (s_Te_pass t_length (t_at + (1 : Int32)) t_characters (91 : Int32))
      have g4 := g3.2 r9 u10 e11
      have f4 := Eq.trans (Eq.symm (zl2_eq e11)) f3
      by_cases c13 : r9 = 0
      · have f5 := Eq.trans (Eq.symm (if_pos c13)) f4
        have g5 := g4.1 c13
        subst f5; exact g5
      · have f5 := Eq.trans (Eq.symm (if_neg c13)) f4
        have g5 := g4.2 c13
        obtain ⟨r15, m18, m19, m20, e17⟩ := zex4 (s_Te_readLevel t_length u10 t_characters t_draft_length t_draft_steps (0 : Int32) (0 : Int32))
        have g6 := g5.2 r15 m18 m19 m20 e17
        have f6 := Eq.trans (Eq.symm (zl2_eq e17)) f5
        have f6 := Eq.trans (Eq.symm (zl2_eq (Eq.refl (m18, m19, m20)))) f6
        have f6 := Eq.trans (Eq.symm (zl2_eq (Eq.refl (m19, m20)))) f6
        by_cases c22 : r15 = 0
        · have f7 := Eq.trans (Eq.symm (if_pos c22)) f6
          have g7 := g6.1 c22
          subst f7; exact g7
        · have f7 := Eq.trans (Eq.symm (if_neg c22)) f6
          have g7 := g6.2 c22
          obtain ⟨r24, u25, e26⟩ := zex2 (s_Te_pass t_length m18 t_characters (93 : Int32))
          have g8 := g7.2 r24 u25 e26
          have f8 := Eq.trans (Eq.symm (zl2_eq e26)) f7
          by_cases c28 : r24 = 0
          · have f9 := Eq.trans (Eq.symm (if_pos c28)) f8
            have g9 := g8.2 c28
            subst f9; exact g9
          · have f9 := Eq.trans (Eq.symm (if_neg c28)) f8
            have g9 := g8.1 c28
            obtain ⟨r30, u31, e32⟩ := zex2 (s_Te_pass t_length u25 t_characters (61 : Int32))
            have g10 := g9.2 r30 u31 e32
            have f10 := Eq.trans (Eq.symm (zl2_eq e32)) f9
            by_cases c34 : r30 = 0
            · have f11 := Eq.trans (Eq.symm (if_pos c34)) f10
              have g11 := g10.1 c34
              subst f11; exact g11
            · have f11 := Eq.trans (Eq.symm (if_neg c34)) f10
              have g11 := g10.2 c34
              obtain ⟨r36, m39, m40, m41, e38⟩ := zex4 (s_Te_readLevel t_length u31 t_characters m19 m20 (0 : Int32) (0 : Int32))
              have g12 := g11.2 r36 m39 m40 m41 e38
              have f12 := Eq.trans (Eq.symm (zl2_eq e38)) f11
              have f12 := Eq.trans (Eq.symm (zl2_eq (Eq.refl (m39, m40, m41)))) f12
              have f12 := Eq.trans (Eq.symm (zl2_eq (Eq.refl (m40, m41)))) f12
              by_cases c43 : r36 = 0
              · have f13 := Eq.trans (Eq.symm (if_pos c43)) f12
                have g13 := g12.2 c43
                subst f13; exact g13
              · have f13 := Eq.trans (Eq.symm (if_neg c43)) f12
                have g13 := g12.1 c43
                obtain ⟨m48, m49, e47⟩ := zex2 (s_Ru_add m40 m41 r1)
                have g14 := g13.2 m48 m49 e47
                have f14 := Eq.trans (Eq.symm (zl2_eq e47)) f13
                subst f14; exact g14
    · have f3 := Eq.trans (Eq.symm (if_neg c7)) f2
      have g3 := g2.2 c7
      subst f3; exact g3
theorem e_Te_readGathering (t_length : Int32) (t_at : Int32) (t_characters : Nat → Int32) (t_draft_length : Int32) (t_draft_steps : Nat → Int32) {Q : Int32 → (Int32 × Int32 × (Nat → Int32)) → Prop} (hp : WP_Te_readGathering t_length t_at t_characters t_draft_length t_draft_steps Q) : p_Te_readGathering t_length t_at t_characters t_draft_length t_draft_steps ∧ Q (s_Te_readGathering t_length t_at t_characters t_draft_length t_draft_steps).1 (s_Te_readGathering t_length t_at t_characters t_draft_length t_draft_steps).2 := ⟨pm_Te_readGathering t_length t_at t_characters t_draft_length t_draft_steps (fun _ _ _ => trivial) hp, qm_Te_readGathering t_length t_at t_characters t_draft_length t_draft_steps _ rfl hp⟩
set_option maxRecDepth 100000 in
theorem pm_Te_readAction (t_length : Int32) (t_at : Int32) (t_characters : Nat → Int32) (t_draft_length : Int32) (t_draft_steps : Nat → Int32) {Q Q2 : Int32 → (Int32 × Int32 × (Nat → Int32)) → Prop} (hQ : ∀ r u, Q r u → Q2 r u) (hp : WP_Te_readAction t_length t_at t_characters t_draft_length t_draft_steps Q) : WP_Te_readAction t_length t_at t_characters t_draft_length t_draft_steps Q2 := by
  unfold WP_Te_readAction at hp ⊢
  refine ⟨hp.1, ?_⟩
  intro r1 e3
  have g1 := hp.2 r1 e3
  refine ⟨fun c5 => ?_, fun c5 => ?_⟩
  · have g2 := g1.1 c5
    refine ⟨fun c7 => ?_, fun c7 => ?_⟩
    · have g3 := g2.1 c7
      refine ⟨g3.1, ?_⟩
      intro r9 u10 e11
      have g4 := g3.2 r9 u10 e11
      refine ⟨fun c13 => ?_, fun c13 => ?_⟩
      · have g5 := g4.1 c13
        refine ⟨g5.1, ?_⟩
        intro r15 m18 m19 m20 e17
        have g6 := g5.2 r15 m18 m19 m20 e17
        refine ⟨fun c22 => ?_, fun c22 => ?_⟩
        · have g7 := g6.1 c22
          refine ⟨g7.1, ?_⟩
          intro m27 m28 e26
          have g8 := g7.2 m27 m28 e26
          exact hQ _ _ g8
        · have g7 := g6.2 c22
          exact hQ _ _ g7
      · have g5 := g4.2 c13
        refine ⟨g5.1, ?_⟩
        intro r30 u31 e32
        have g9 := g5.2 r30 u31 e32
        refine ⟨fun c34 => ?_, fun c34 => ?_⟩
        · have g10 := g9.1 c34
          refine ⟨g10.1, ?_⟩
          intro r36 m39 m40 m41 e38
          have g11 := g10.2 r36 m39 m40 m41 e38
          refine ⟨fun c43 => ?_, fun c43 => ?_⟩
          · have g12 := g11.1 c43
            refine ⟨g12.1, ?_⟩
            intro m48 m49 e47
            have g13 := g12.2 m48 m49 e47
            exact hQ _ _ g13
          · have g12 := g11.2 c43
            exact hQ _ _ g12
        · have g10 := g9.2 c34
          exact hQ _ _ g10
    · have g3 := g2.2 c7
      refine ⟨fun c51 => ?_, fun c51 => ?_⟩
      · have g14 := g3.1 c51
        refine ⟨g14.1, ?_⟩
        intro r53 u54 e55
        have g15 := g14.2 r53 u54 e55
        refine ⟨fun c57 => ?_, fun c57 => ?_⟩
        · have g16 := g15.1 c57
          refine ⟨g16.1, ?_⟩
          intro r59 m62 m63 m64 e61
          have g17 := g16.2 r59 m62 m63 m64 e61
          refine ⟨fun c66 => ?_, fun c66 => ?_⟩
          · have g18 := g17.1 c66
            refine ⟨g18.1, ?_⟩
            intro m71 m72 e70
            have g19 := g18.2 m71 m72 e70
            exact hQ _ _ g19
          · have g18 := g17.2 c66
            exact hQ _ _ g18
        · have g16 := g15.2 c57
          refine ⟨g16.1, ?_⟩
          intro r74 u75 e76
          have g20 := g16.2 r74 u75 e76
          refine ⟨fun c78 => ?_, fun c78 => ?_⟩
          · have g21 := g20.1 c78
            refine ⟨g21.1, ?_⟩
            intro r80 m83 m84 m85 e82
            have g22 := g21.2 r80 m83 m84 m85 e82
            refine ⟨fun c87 => ?_, fun c87 => ?_⟩
            · have g23 := g22.1 c87
              refine ⟨g23.1, ?_⟩
              intro m92 m93 e91
              have g24 := g23.2 m92 m93 e91
              exact hQ _ _ g24
            · have g23 := g22.2 c87
              exact hQ _ _ g23
          · have g21 := g20.2 c78
            exact hQ _ _ g21
      · have g14 := g3.2 c51
        refine ⟨g14.1, ?_⟩
        intro r95 u96 e97
        have g25 := g14.2 r95 u96 e97
        refine ⟨fun c99 => ?_, fun c99 => ?_⟩
        · have g26 := g25.1 c99
          refine ⟨g26.1, ?_⟩
          intro r101 m104 m105 m106 e103
          have g27 := g26.2 r101 m104 m105 m106 e103
          refine ⟨fun c108 => ?_, fun c108 => ?_⟩
          · have g28 := g27.1 c108
            refine ⟨g28.1, ?_⟩
            intro m113 m114 e112
            have g29 := g28.2 m113 m114 e112
            exact hQ _ _ g29
          · have g28 := g27.2 c108
            exact hQ _ _ g28
        · have g26 := g25.2 c99
          exact hQ _ _ g26
  · have g2 := g1.2 c5
    refine ⟨g2.1, ?_⟩
    intro r116 m119 m120 m121 e118
    have g30 := g2.2 r116 m119 m120 m121 e118
    refine ⟨g30.1, ?_⟩
    have g31 := g30.2
    exact hQ _ _ g31
set_option maxRecDepth 100000 in
theorem qm_Te_readAction (t_length : Int32) (t_at : Int32) (t_characters : Nat → Int32) (t_draft_length : Int32) (t_draft_steps : Nat → Int32) {Q : Int32 → (Int32 × Int32 × (Nat → Int32)) → Prop} (tgt : Int32 × Int32 × Int32 × (Nat → Int32)) (f0 : s_Te_readAction t_length t_at t_characters t_draft_length t_draft_steps = tgt) (hp : WP_Te_readAction t_length t_at t_characters t_draft_length t_draft_steps Q) : Q tgt.1 tgt.2 := by
  unfold WP_Te_readAction at hp
  unfold s_Te_readAction at f0
  obtain ⟨r1, e3⟩ := zex1 (s_Te_next t_length t_at t_characters)
  have g1 := hp.2 r1 e3
  have f1 := Eq.trans (Eq.symm (zl1_eq e3)) f0
  by_cases c5 : r1 = (64 : Int32)
  · have f2 := Eq.trans (Eq.symm (if_pos c5)) f1
    have g2 := g1.2 c5
    obtain ⟨r116, m119, m120, m121, e118⟩ := zex4 (s_Te_readGathering t_length (t_at + (1 : Int32)) t_characters t_draft_length t_draft_steps)
    have g3 := g2.2 r116 m119 m120 m121 e118
    have f3 := Eq.trans (Eq.symm (zl2_eq e118)) f2
    have f3 := Eq.trans (Eq.symm (zl2_eq (Eq.refl (m119, m120, m121)))) f3
    have f3 := Eq.trans (Eq.symm (zl2_eq (Eq.refl (m120, m121)))) f3
    have g4 := g3.2
    subst f3; exact g4
  · have f2 := Eq.trans (Eq.symm (if_neg c5)) f1
    have g2 := g1.1 c5
    by_cases c7 : r1 < (117 : Int32)
    · have f5 := Eq.trans (Eq.symm (if_pos c7)) f2
      have g5 := g2.1 c7
      obtain ⟨r9, u10, e11⟩ := zex2 (s_Te_pass t_length t_at t_characters (33 : Int32))
      have g6 := g5.2 r9 u10 e11
      have f6 := Eq.trans (Eq.symm (zl2_eq e11)) f5
      by_cases c13 : r9 = 0
      · have f7 := Eq.trans (Eq.symm (if_pos c13)) f6
        have g7 := g6.2 c13
        obtain ⟨r30, u31, e32⟩ := zex2 (s_Te_pass t_length u10 t_characters (63 : Int32))
        have g8 := g7.2 r30 u31 e32
        have f8 := Eq.trans (Eq.symm (zl2_eq e32)) f7
        by_cases c34 : r30 = 0
        · have f9 := Eq.trans (Eq.symm (if_pos c34)) f8
          have g9 := g8.2 c34
          subst f9; exact g9
        · have f9 := Eq.trans (Eq.symm (if_neg c34)) f8
          have g9 := g8.1 c34
          obtain ⟨r36, m39, m40, m41, e38⟩ := zex4 (s_Te_readLevel t_length u31 t_characters t_draft_length t_draft_steps (0 : Int32) (0 : Int32))
          have g10 := g9.2 r36 m39 m40 m41 e38
          have f10 := Eq.trans (Eq.symm (zl2_eq e38)) f9
          have f10 := Eq.trans (Eq.symm (zl2_eq (Eq.refl (m39, m40, m41)))) f10
          have f10 := Eq.trans (Eq.symm (zl2_eq (Eq.refl (m40, m41)))) f10
          by_cases c43 : r36 = 0
          · have f11 := Eq.trans (Eq.symm (if_pos c43)) f10
            have g11 := g10.2 c43
            subst f11; exact g11
          · have f11 := Eq.trans (Eq.symm (if_neg c43)) f10
            have g11 := g10.1 c43
            obtain ⟨m48, m49, e47⟩ := zex2 (s_Ru_add m40 m41 r1)
            have g12 := g11.2 m48 m49 e47
            have f12 := Eq.trans (Eq.symm (zl2_eq e47)) f11
            subst f12; exact g12
      · have f7 := Eq.trans (Eq.symm (if_neg c13)) f6
        have g7 := g6.1 c13
        obtain ⟨r15, m18, m19, m20, e17⟩ := zex4 (s_Te_readLevel t_length u10 t_characters t_draft_length t_draft_steps (0 : Int32) (0 : Int32))
        have g13 := g7.2 r15 m18 m19 m20 e17
        have f13 := Eq.trans (Eq.symm (zl2_eq e17)) f7
        have f13 := Eq.trans (Eq.symm (zl2_eq (Eq.refl (m18, m19, m20)))) f13
        have f13 := Eq.trans (Eq.symm (zl2_eq (Eq.refl (m19, m20)))) f13
        by_cases c22 : r15 = 0
        · have f14 := Eq.trans (Eq.symm (if_pos c22)) f13
          have g14 := g13.2 c22
          subst f14; exact g14
        · have f14 := Eq.trans (Eq.symm (if_neg c22)) f13
          have g14 := g13.1 c22
          obtain ⟨m27, m28, e26⟩ := zex2 (s_Ru_add m19 m20 r1)
          have g15 := g14.2 m27 m28 e26
          have f15 := Eq.trans (Eq.symm (zl2_eq e26)) f14
          subst f15; exact g15
    · have f5 := Eq.trans (Eq.symm (if_neg c7)) f2
      have g5 := g2.2 c7
      by_cases c51 : (122 : Int32) < r1
      · have f16 := Eq.trans (Eq.symm (if_pos c51)) f5
        have g16 := g5.1 c51
        obtain ⟨r53, u54, e55⟩ := zex2 (s_Te_pass t_length t_at t_characters (33 : Int32))
        have g17 := g16.2 r53 u54 e55
        have f17 := Eq.trans (Eq.symm (zl2_eq e55)) f16
        by_cases c57 : r53 = 0
        · have f18 := Eq.trans (Eq.symm (if_pos c57)) f17
          have g18 := g17.2 c57
          obtain ⟨r74, u75, e76⟩ := zex2 (s_Te_pass t_length u54 t_characters (63 : Int32))
          have g19 := g18.2 r74 u75 e76
          have f19 := Eq.trans (Eq.symm (zl2_eq e76)) f18
          by_cases c78 : r74 = 0
          · have f20 := Eq.trans (Eq.symm (if_pos c78)) f19
            have g20 := g19.2 c78
            subst f20; exact g20
          · have f20 := Eq.trans (Eq.symm (if_neg c78)) f19
            have g20 := g19.1 c78
            obtain ⟨r80, m83, m84, m85, e82⟩ := zex4 (s_Te_readLevel t_length u75 t_characters t_draft_length t_draft_steps (0 : Int32) (0 : Int32))
            have g21 := g20.2 r80 m83 m84 m85 e82
            have f21 := Eq.trans (Eq.symm (zl2_eq e82)) f20
            have f21 := Eq.trans (Eq.symm (zl2_eq (Eq.refl (m83, m84, m85)))) f21
            have f21 := Eq.trans (Eq.symm (zl2_eq (Eq.refl (m84, m85)))) f21
            by_cases c87 : r80 = 0
            · have f22 := Eq.trans (Eq.symm (if_pos c87)) f21
              have g22 := g21.2 c87
              subst f22; exact g22
            · have f22 := Eq.trans (Eq.symm (if_neg c87)) f21
              have g22 := g21.1 c87
              obtain ⟨m92, m93, e91⟩ := zex2 (s_Ru_add m84 m85 r1)
              have g23 := g22.2 m92 m93 e91
              have f23 := Eq.trans (Eq.symm (zl2_eq e91)) f22
              subst f23; exact g23
        · have f18 := Eq.trans (Eq.symm (if_neg c57)) f17
          have g18 := g17.1 c57
          obtain ⟨r59, m62, m63, m64, e61⟩ := zex4 (s_Te_readLevel t_length u54 t_characters t_draft_length t_draft_steps (0 : Int32) (0 : Int32))
          have g24 := g18.2 r59 m62 m63 m64 e61
          have f24 := Eq.trans (Eq.symm (zl2_eq e61)) f18
          have f24 := Eq.trans (Eq.symm (zl2_eq (Eq.refl (m62, m63, m64)))) f24
          have f24 := Eq.trans (Eq.symm (zl2_eq (Eq.refl (m63, m64)))) f24
          by_cases c66 : r59 = 0
          · have f25 := Eq.trans (Eq.symm (if_pos c66)) f24
            have g25 := g24.2 c66
            subst f25; exact g25
          · have f25 := Eq.trans (Eq.symm (if_neg c66)) f24
            have g25 := g24.1 c66
            obtain ⟨m71, m72, e70⟩ := zex2 (s_Ru_add m63 m64 r1)
            have g26 := g25.2 m71 m72 e70
            have f26 := Eq.trans (Eq.symm (zl2_eq e70)) f25
            subst f26; exact g26
      · have f16 := Eq.trans (Eq.symm (if_neg c51)) f5
        have g16 := g5.2 c51
        obtain ⟨r95, u96, e97⟩ := zex2 (s_Te_pass t_length (t_at + (1 : Int32)) t_characters (61 : Int32))
        have g27 := g16.2 r95 u96 e97
        have f27 := Eq.trans (Eq.symm (zl2_eq e97)) f16
        by_cases c99 : r95 = 0
        · have f28 := Eq.trans (Eq.symm (if_pos c99)) f27
          have g28 := g27.2 c99
          subst f28; exact g28
        · have f28 := Eq.trans (Eq.symm (if_neg c99)) f27
          have g28 := g27.1 c99
          obtain ⟨r101, m104, m105, m106, e103⟩ := zex4 (s_Te_readLevel t_length u96 t_characters t_draft_length t_draft_steps (0 : Int32) (0 : Int32))
          have g29 := g28.2 r101 m104 m105 m106 e103
          have f29 := Eq.trans (Eq.symm (zl2_eq e103)) f28
          have f29 := Eq.trans (Eq.symm (zl2_eq (Eq.refl (m104, m105, m106)))) f29
          have f29 := Eq.trans (Eq.symm (zl2_eq (Eq.refl (m105, m106)))) f29
          by_cases c108 : r101 = 0
          · have f30 := Eq.trans (Eq.symm (if_pos c108)) f29
            have g30 := g29.2 c108
            subst f30; exact g30
          · have f30 := Eq.trans (Eq.symm (if_neg c108)) f29
            have g30 := g29.1 c108
            obtain ⟨m113, m114, e112⟩ := zex2 (s_Ru_add m105 m106 (((85 : Int32) + r1) - (117 : Int32)))
            have g31 := g30.2 m113 m114 e112
            have f31 := Eq.trans (Eq.symm (zl2_eq e112)) f30
            subst f31; exact g31
theorem e_Te_readAction (t_length : Int32) (t_at : Int32) (t_characters : Nat → Int32) (t_draft_length : Int32) (t_draft_steps : Nat → Int32) {Q : Int32 → (Int32 × Int32 × (Nat → Int32)) → Prop} (hp : WP_Te_readAction t_length t_at t_characters t_draft_length t_draft_steps Q) : p_Te_readAction t_length t_at t_characters t_draft_length t_draft_steps ∧ Q (s_Te_readAction t_length t_at t_characters t_draft_length t_draft_steps).1 (s_Te_readAction t_length t_at t_characters t_draft_length t_draft_steps).2 := ⟨pm_Te_readAction t_length t_at t_characters t_draft_length t_draft_steps (fun _ _ _ => trivial) hp, qm_Te_readAction t_length t_at t_characters t_draft_length t_draft_steps _ rfl hp⟩
set_option maxRecDepth 100000 in
theorem pm_Te_readHead (t_length : Int32) (t_at : Int32) (t_characters : Nat → Int32) (t_draft_length : Int32) (t_draft_site : Int32) (t_draft_exit : Int32) (t_draft_conditional : Int32) (t_draft_steps : Nat → Int32) {Q Q2 : Int32 → (Int32 × Int32 × Int32 × Int32 × Int32 × (Nat → Int32)) → Prop} (hQ : ∀ r u, Q r u → Q2 r u) (hp : WP_Te_readHead t_length t_at t_characters t_draft_length t_draft_site t_draft_exit t_draft_conditional t_draft_steps Q) : WP_Te_readHead t_length t_at t_characters t_draft_length t_draft_site t_draft_exit t_draft_conditional t_draft_steps Q2 := by
  unfold WP_Te_readHead at hp ⊢
  refine ⟨hp.1, ?_⟩
  intro r1 e3
  have g1 := hp.2 r1 e3
  refine ⟨fun c5 => ?_, fun c5 => ?_⟩
  · have g2 := g1.1 c5
    refine ⟨g2.1, ?_⟩
    intro r7 u8 e9
    have g3 := g2.2 r7 u8 e9
    refine ⟨fun c11 => ?_, fun c11 => ?_⟩
    · have g4 := g3.1 c11
      refine ⟨g4.1, ?_⟩
      intro r13 e15
      have g5 := g4.2 r13 e15
      intro r17 e19
      have g6 := g5 r17 e19
      refine ⟨fun c21 => ?_, fun c21 => ?_⟩
      · have g7 := g6.1 c21
        refine ⟨g7.1, ?_⟩
        intro r23 u24 e25
        have g8 := g7.2 r23 u24 e25
        refine ⟨fun c27 => ?_, fun c27 => ?_⟩
        · have g9 := g8.1 c27
          refine ⟨g9.1, ?_⟩
          intro r29 u30 e31
          have g10 := g9.2 r29 u30 e31
          refine ⟨g10.1, ?_⟩
          have g11 := g10.2
          exact hQ _ _ g11
        · have g9 := g8.2 c27
          refine ⟨g9.1, ?_⟩
          intro r33 m36 m37 m38 e35
          have g12 := g9.2 r33 m36 m37 m38 e35
          refine ⟨fun c40 => ?_, fun c40 => ?_⟩
          · have g13 := g12.1 c40
            exact hQ _ _ g13
          · have g13 := g12.2 c40
            refine ⟨g13.1, ?_⟩
            intro r42 u43 e44
            have g14 := g13.2 r42 u43 e44
            refine ⟨fun c46 => ?_, fun c46 => ?_⟩
            · have g15 := g14.1 c46
              refine ⟨g15.1, ?_⟩
              intro m51 m52 e50
              have g16 := g15.2 m51 m52 e50
              refine ⟨g16.1, ?_⟩
              intro r54 u55 e56
              have g17 := g16.2 r54 u55 e56
              refine ⟨g17.1, ?_⟩
              have g18 := g17.2
              exact hQ _ _ g18
            · have g15 := g14.2 c46
              exact hQ _ _ g15
      · have g7 := g6.2 c21
        exact hQ _ _ g7
    · have g4 := g3.2 c11
      refine ⟨g4.1, ?_⟩
      intro r58 u59 e60
      have g19 := g4.2 r58 u59 e60
      refine ⟨fun c62 => ?_, fun c62 => ?_⟩
      · have g20 := g19.1 c62
        refine ⟨g20.1, ?_⟩
        intro r64 e66
        have g21 := g20.2 r64 e66
        intro r68 e70
        have g22 := g21 r68 e70
        refine ⟨fun c72 => ?_, fun c72 => ?_⟩
        · have g23 := g22.1 c72
          refine ⟨g23.1, ?_⟩
          intro r74 u75 e76
          have g24 := g23.2 r74 u75 e76
          refine ⟨fun c78 => ?_, fun c78 => ?_⟩
          · have g25 := g24.1 c78
            refine ⟨g25.1, ?_⟩
            intro r80 u81 e82
            have g26 := g25.2 r80 u81 e82
            refine ⟨g26.1, ?_⟩
            have g27 := g26.2
            exact hQ _ _ g27
          · have g25 := g24.2 c78
            refine ⟨g25.1, ?_⟩
            intro r84 m87 m88 m89 e86
            have g28 := g25.2 r84 m87 m88 m89 e86
            refine ⟨fun c91 => ?_, fun c91 => ?_⟩
            · have g29 := g28.1 c91
              exact hQ _ _ g29
            · have g29 := g28.2 c91
              refine ⟨g29.1, ?_⟩
              intro r93 u94 e95
              have g30 := g29.2 r93 u94 e95
              refine ⟨fun c97 => ?_, fun c97 => ?_⟩
              · have g31 := g30.1 c97
                refine ⟨g31.1, ?_⟩
                intro m102 m103 e101
                have g32 := g31.2 m102 m103 e101
                refine ⟨g32.1, ?_⟩
                intro r105 u106 e107
                have g33 := g32.2 r105 u106 e107
                refine ⟨g33.1, ?_⟩
                have g34 := g33.2
                exact hQ _ _ g34
              · have g31 := g30.2 c97
                exact hQ _ _ g31
        · have g23 := g22.2 c72
          exact hQ _ _ g23
      · have g20 := g19.2 c62
        exact hQ _ _ g20
  · have g2 := g1.2 c5
    refine ⟨g2.1, ?_⟩
    intro r109 u110 e111
    have g35 := g2.2 r109 u110 e111
    refine ⟨fun c113 => ?_, fun c113 => ?_⟩
    · have g36 := g35.1 c113
      refine ⟨g36.1, ?_⟩
      intro r115 e117
      have g37 := g36.2 r115 e117
      intro r119 e121
      have g38 := g37 r119 e121
      refine ⟨fun c123 => ?_, fun c123 => ?_⟩
      · have g39 := g38.1 c123
        refine ⟨g39.1, ?_⟩
        intro r125 u126 e127
        have g40 := g39.2 r125 u126 e127
        refine ⟨fun c129 => ?_, fun c129 => ?_⟩
        · have g41 := g40.1 c129
          refine ⟨g41.1, ?_⟩
          intro r131 u132 e133
          have g42 := g41.2 r131 u132 e133
          refine ⟨g42.1, ?_⟩
          have g43 := g42.2
          exact hQ _ _ g43
        · have g41 := g40.2 c129
          refine ⟨g41.1, ?_⟩
          intro r135 m138 m139 m140 e137
          have g44 := g41.2 r135 m138 m139 m140 e137
          refine ⟨fun c142 => ?_, fun c142 => ?_⟩
          · have g45 := g44.1 c142
            exact hQ _ _ g45
          · have g45 := g44.2 c142
            refine ⟨g45.1, ?_⟩
            intro r144 u145 e146
            have g46 := g45.2 r144 u145 e146
            refine ⟨fun c148 => ?_, fun c148 => ?_⟩
            · have g47 := g46.1 c148
              refine ⟨g47.1, ?_⟩
              intro m153 m154 e152
              have g48 := g47.2 m153 m154 e152
              refine ⟨g48.1, ?_⟩
              intro r156 u157 e158
              have g49 := g48.2 r156 u157 e158
              refine ⟨g49.1, ?_⟩
              have g50 := g49.2
              exact hQ _ _ g50
            · have g47 := g46.2 c148
              exact hQ _ _ g47
      · have g39 := g38.2 c123
        exact hQ _ _ g39
    · have g36 := g35.2 c113
      refine ⟨g36.1, ?_⟩
      intro r160 u161 e162
      have g51 := g36.2 r160 u161 e162
      refine ⟨fun c164 => ?_, fun c164 => ?_⟩
      · have g52 := g51.1 c164
        refine ⟨g52.1, ?_⟩
        intro r166 e168
        have g53 := g52.2 r166 e168
        intro r170 e172
        have g54 := g53 r170 e172
        refine ⟨fun c174 => ?_, fun c174 => ?_⟩
        · have g55 := g54.1 c174
          refine ⟨g55.1, ?_⟩
          intro r176 u177 e178
          have g56 := g55.2 r176 u177 e178
          refine ⟨fun c180 => ?_, fun c180 => ?_⟩
          · have g57 := g56.1 c180
            refine ⟨g57.1, ?_⟩
            intro r182 u183 e184
            have g58 := g57.2 r182 u183 e184
            refine ⟨g58.1, ?_⟩
            have g59 := g58.2
            exact hQ _ _ g59
          · have g57 := g56.2 c180
            refine ⟨g57.1, ?_⟩
            intro r186 m189 m190 m191 e188
            have g60 := g57.2 r186 m189 m190 m191 e188
            refine ⟨fun c193 => ?_, fun c193 => ?_⟩
            · have g61 := g60.1 c193
              exact hQ _ _ g61
            · have g61 := g60.2 c193
              refine ⟨g61.1, ?_⟩
              intro r195 u196 e197
              have g62 := g61.2 r195 u196 e197
              refine ⟨fun c199 => ?_, fun c199 => ?_⟩
              · have g63 := g62.1 c199
                refine ⟨g63.1, ?_⟩
                intro m204 m205 e203
                have g64 := g63.2 m204 m205 e203
                refine ⟨g64.1, ?_⟩
                intro r207 u208 e209
                have g65 := g64.2 r207 u208 e209
                refine ⟨g65.1, ?_⟩
                have g66 := g65.2
                exact hQ _ _ g66
              · have g63 := g62.2 c199
                exact hQ _ _ g63
        · have g55 := g54.2 c174
          exact hQ _ _ g55
      · have g52 := g51.2 c164
        exact hQ _ _ g52
set_option maxRecDepth 100000 in
theorem qm_Te_readHead (t_length : Int32) (t_at : Int32) (t_characters : Nat → Int32) (t_draft_length : Int32) (t_draft_site : Int32) (t_draft_exit : Int32) (t_draft_conditional : Int32) (t_draft_steps : Nat → Int32) {Q : Int32 → (Int32 × Int32 × Int32 × Int32 × Int32 × (Nat → Int32)) → Prop} (tgt : Int32 × Int32 × Int32 × Int32 × Int32 × Int32 × (Nat → Int32)) (f0 : s_Te_readHead t_length t_at t_characters t_draft_length t_draft_site t_draft_exit t_draft_conditional t_draft_steps = tgt) (hp : WP_Te_readHead t_length t_at t_characters t_draft_length t_draft_site t_draft_exit t_draft_conditional t_draft_steps Q) : Q tgt.1 tgt.2 := by
  unfold WP_Te_readHead at hp
  unfold s_Te_readHead at f0
  obtain ⟨r1, e3⟩ := zex1 (s_Te_next t_length t_at t_characters)
  have g1 := hp.2 r1 e3
  have f1 := Eq.trans (Eq.symm (zl1_eq e3)) f0
  by_cases c5 : r1 = (120 : Int32)
  · have f2 := Eq.trans (Eq.symm (if_pos c5)) f1
    have g2 := g1.2 c5
    obtain ⟨r109, u110, e111⟩ := zex2 (s_Te_pass t_length t_at t_characters (101 : Int32))
    have g3 := g2.2 r109 u110 e111
    have f3 := Eq.trans (Eq.symm (zl2_eq e111)) f2
    by_cases c113 : r109 = 0
    · have f4 := Eq.trans (Eq.symm (if_pos c113)) f3
      have g4 := g3.2 c113
      obtain ⟨r160, u161, e162⟩ := zex2 (s_Te_pass t_length u110 t_characters (120 : Int32))
      have g5 := g4.2 r160 u161 e162
      have f5 := Eq.trans (Eq.symm (zl2_eq e162)) f4
      by_cases c164 : r160 = 0
      · have f6 := Eq.trans (Eq.symm (if_pos c164)) f5
        have g6 := g5.2 c164
        subst f6; exact g6
      · have f6 := Eq.trans (Eq.symm (if_neg c164)) f5
        have g6 := g5.1 c164
        obtain ⟨r166, e168⟩ := zex1 (s_Te_next t_length u161 t_characters)
        have g7 := g6.2 r166 e168
        have f7 := Eq.trans (Eq.symm (zl1_eq e168)) f6
        obtain ⟨r170, e172⟩ := zex1 (s_Tr_isWithin (r166 - (48 : Int32)) (8 : Int32))
        have g8 := g7 r170 e172
        have f8 := Eq.trans (Eq.symm (zl1_eq e172)) f7
        by_cases c174 : r170 = 0
        · have f9 := Eq.trans (Eq.symm (if_pos c174)) f8
          have g9 := g8.2 c174
          subst f9; exact g9
        · have f9 := Eq.trans (Eq.symm (if_neg c174)) f8
          have g9 := g8.1 c174
          obtain ⟨r176, u177, e178⟩ := zex2 (s_Te_pass t_length (u161 + (1 : Int32)) t_characters (47 : Int32))
          have g10 := g9.2 r176 u177 e178
          have f10 := Eq.trans (Eq.symm (zl2_eq e178)) f9
          by_cases c180 : r176 = 0
          · have f11 := Eq.trans (Eq.symm (if_pos c180)) f10
            have g11 := g10.1 c180
            obtain ⟨r182, u183, e184⟩ := zex2 (s_Te_pass t_length u177 t_characters (123 : Int32))
            have g12 := g11.2 r182 u183 e184
            have f12 := Eq.trans (Eq.symm (zl2_eq e184)) f11
            have g13 := g12.2
            subst f12; exact g13
          · have f11 := Eq.trans (Eq.symm (if_neg c180)) f10
            have g11 := g10.2 c180
            obtain ⟨r186, m189, m190, m191, e188⟩ := zex4 (s_Te_readLevel t_length u177 t_characters t_draft_length t_draft_steps (0 : Int32) (0 : Int32))
            have g14 := g11.2 r186 m189 m190 m191 e188
            have f14 := Eq.trans (Eq.symm (zl2_eq e188)) f11
            have f14 := Eq.trans (Eq.symm (zl2_eq (Eq.refl (m189, m190, m191)))) f14
            have f14 := Eq.trans (Eq.symm (zl2_eq (Eq.refl (m190, m191)))) f14
            by_cases c193 : r186 = 0
            · have f15 := Eq.trans (Eq.symm (if_pos c193)) f14
              have g15 := g14.1 c193
              subst f15; exact g15
            · have f15 := Eq.trans (Eq.symm (if_neg c193)) f14
              have g15 := g14.2 c193
              obtain ⟨r195, u196, e197⟩ := zex2 (s_Te_pass t_length m189 t_characters (47 : Int32))
              have g16 := g15.2 r195 u196 e197
              have f16 := Eq.trans (Eq.symm (zl2_eq e197)) f15
              by_cases c199 : r195 = 0
              · have f17 := Eq.trans (Eq.symm (if_pos c199)) f16
                have g17 := g16.2 c199
                subst f17; exact g17
              · have f17 := Eq.trans (Eq.symm (if_neg c199)) f16
                have g17 := g16.1 c199
                obtain ⟨m204, m205, e203⟩ := zex2 (s_Ru_add m190 m191 (47 : Int32))
                have g18 := g17.2 m204 m205 e203
                have f18 := Eq.trans (Eq.symm (zl2_eq e203)) f17
                obtain ⟨r207, u208, e209⟩ := zex2 (s_Te_pass t_length u196 t_characters (123 : Int32))
                have g19 := g18.2 r207 u208 e209
                have f19 := Eq.trans (Eq.symm (zl2_eq e209)) f18
                have g20 := g19.2
                subst f19; exact g20
    · have f4 := Eq.trans (Eq.symm (if_neg c113)) f3
      have g4 := g3.1 c113
      obtain ⟨r115, e117⟩ := zex1 (s_Te_next t_length u110 t_characters)
      have g21 := g4.2 r115 e117
      have f21 := Eq.trans (Eq.symm (zl1_eq e117)) f4
      obtain ⟨r119, e121⟩ := zex1 (s_Tr_isWithin (r115 - (48 : Int32)) (8 : Int32))
      have g22 := g21 r119 e121
      have f22 := Eq.trans (Eq.symm (zl1_eq e121)) f21
      by_cases c123 : r119 = 0
      · have f23 := Eq.trans (Eq.symm (if_pos c123)) f22
        have g23 := g22.2 c123
        subst f23; exact g23
      · have f23 := Eq.trans (Eq.symm (if_neg c123)) f22
        have g23 := g22.1 c123
        obtain ⟨r125, u126, e127⟩ := zex2 (s_Te_pass t_length (u110 + (1 : Int32)) t_characters (47 : Int32))
        have g24 := g23.2 r125 u126 e127
        have f24 := Eq.trans (Eq.symm (zl2_eq e127)) f23
        by_cases c129 : r125 = 0
        · have f25 := Eq.trans (Eq.symm (if_pos c129)) f24
          have g25 := g24.1 c129
          obtain ⟨r131, u132, e133⟩ := zex2 (s_Te_pass t_length u126 t_characters (123 : Int32))
          have g26 := g25.2 r131 u132 e133
          have f26 := Eq.trans (Eq.symm (zl2_eq e133)) f25
          have g27 := g26.2
          subst f26; exact g27
        · have f25 := Eq.trans (Eq.symm (if_neg c129)) f24
          have g25 := g24.2 c129
          obtain ⟨r135, m138, m139, m140, e137⟩ := zex4 (s_Te_readLevel t_length u126 t_characters t_draft_length t_draft_steps (0 : Int32) (0 : Int32))
          have g28 := g25.2 r135 m138 m139 m140 e137
          have f28 := Eq.trans (Eq.symm (zl2_eq e137)) f25
          have f28 := Eq.trans (Eq.symm (zl2_eq (Eq.refl (m138, m139, m140)))) f28
          have f28 := Eq.trans (Eq.symm (zl2_eq (Eq.refl (m139, m140)))) f28
          by_cases c142 : r135 = 0
          · have f29 := Eq.trans (Eq.symm (if_pos c142)) f28
            have g29 := g28.1 c142
            subst f29; exact g29
          · have f29 := Eq.trans (Eq.symm (if_neg c142)) f28
            have g29 := g28.2 c142
            obtain ⟨r144, u145, e146⟩ := zex2 (s_Te_pass t_length m138 t_characters (47 : Int32))
            have g30 := g29.2 r144 u145 e146
            have f30 := Eq.trans (Eq.symm (zl2_eq e146)) f29
            by_cases c148 : r144 = 0
            · have f31 := Eq.trans (Eq.symm (if_pos c148)) f30
              have g31 := g30.2 c148
              subst f31; exact g31
            · have f31 := Eq.trans (Eq.symm (if_neg c148)) f30
              have g31 := g30.1 c148
              obtain ⟨m153, m154, e152⟩ := zex2 (s_Ru_add m139 m140 (47 : Int32))
              have g32 := g31.2 m153 m154 e152
              have f32 := Eq.trans (Eq.symm (zl2_eq e152)) f31
              obtain ⟨r156, u157, e158⟩ := zex2 (s_Te_pass t_length u145 t_characters (123 : Int32))
              have g33 := g32.2 r156 u157 e158
              have f33 := Eq.trans (Eq.symm (zl2_eq e158)) f32
              have g34 := g33.2
              subst f33; exact g34
  · have f2 := Eq.trans (Eq.symm (if_neg c5)) f1
    have g2 := g1.1 c5
    obtain ⟨r7, u8, e9⟩ := zex2 (s_Te_pass t_length t_at t_characters (101 : Int32))
    have g35 := g2.2 r7 u8 e9
    have f35 := Eq.trans (Eq.symm (zl2_eq e9)) f2
    by_cases c11 : r7 = 0
    · have f36 := Eq.trans (Eq.symm (if_pos c11)) f35
      have g36 := g35.2 c11
      obtain ⟨r58, u59, e60⟩ := zex2 (s_Te_pass t_length u8 t_characters (120 : Int32))
      have g37 := g36.2 r58 u59 e60
      have f37 := Eq.trans (Eq.symm (zl2_eq e60)) f36
      by_cases c62 : r58 = 0
      · have f38 := Eq.trans (Eq.symm (if_pos c62)) f37
        have g38 := g37.2 c62
        subst f38; exact g38
      · have f38 := Eq.trans (Eq.symm (if_neg c62)) f37
        have g38 := g37.1 c62
        obtain ⟨r64, e66⟩ := zex1 (s_Te_next t_length u59 t_characters)
        have g39 := g38.2 r64 e66
        have f39 := Eq.trans (Eq.symm (zl1_eq e66)) f38
        obtain ⟨r68, e70⟩ := zex1 (s_Tr_isWithin (r64 - (48 : Int32)) (8 : Int32))
        have g40 := g39 r68 e70
        have f40 := Eq.trans (Eq.symm (zl1_eq e70)) f39
        by_cases c72 : r68 = 0
        · have f41 := Eq.trans (Eq.symm (if_pos c72)) f40
          have g41 := g40.2 c72
          subst f41; exact g41
        · have f41 := Eq.trans (Eq.symm (if_neg c72)) f40
          have g41 := g40.1 c72
          obtain ⟨r74, u75, e76⟩ := zex2 (s_Te_pass t_length (u59 + (1 : Int32)) t_characters (47 : Int32))
          have g42 := g41.2 r74 u75 e76
          have f42 := Eq.trans (Eq.symm (zl2_eq e76)) f41
          by_cases c78 : r74 = 0
          · have f43 := Eq.trans (Eq.symm (if_pos c78)) f42
            have g43 := g42.1 c78
            obtain ⟨r80, u81, e82⟩ := zex2 (s_Te_pass t_length u75 t_characters (123 : Int32))
            have g44 := g43.2 r80 u81 e82
            have f44 := Eq.trans (Eq.symm (zl2_eq e82)) f43
            have g45 := g44.2
            subst f44; exact g45
          · have f43 := Eq.trans (Eq.symm (if_neg c78)) f42
            have g43 := g42.2 c78
            obtain ⟨r84, m87, m88, m89, e86⟩ := zex4 (s_Te_readLevel t_length u75 t_characters t_draft_length t_draft_steps (0 : Int32) (0 : Int32))
            have g46 := g43.2 r84 m87 m88 m89 e86
            have f46 := Eq.trans (Eq.symm (zl2_eq e86)) f43
            have f46 := Eq.trans (Eq.symm (zl2_eq (Eq.refl (m87, m88, m89)))) f46
            have f46 := Eq.trans (Eq.symm (zl2_eq (Eq.refl (m88, m89)))) f46
            by_cases c91 : r84 = 0
            · have f47 := Eq.trans (Eq.symm (if_pos c91)) f46
              have g47 := g46.1 c91
              subst f47; exact g47
            · have f47 := Eq.trans (Eq.symm (if_neg c91)) f46
              have g47 := g46.2 c91
              obtain ⟨r93, u94, e95⟩ := zex2 (s_Te_pass t_length m87 t_characters (47 : Int32))
              have g48 := g47.2 r93 u94 e95
              have f48 := Eq.trans (Eq.symm (zl2_eq e95)) f47
              by_cases c97 : r93 = 0
              · have f49 := Eq.trans (Eq.symm (if_pos c97)) f48
                have g49 := g48.2 c97
                subst f49; exact g49
              · have f49 := Eq.trans (Eq.symm (if_neg c97)) f48
                have g49 := g48.1 c97
                obtain ⟨m102, m103, e101⟩ := zex2 (s_Ru_add m88 m89 (47 : Int32))
                have g50 := g49.2 m102 m103 e101
                have f50 := Eq.trans (Eq.symm (zl2_eq e101)) f49
                obtain ⟨r105, u106, e107⟩ := zex2 (s_Te_pass t_length u94 t_characters (123 : Int32))
                have g51 := g50.2 r105 u106 e107
                have f51 := Eq.trans (Eq.symm (zl2_eq e107)) f50
                have g52 := g51.2
                subst f51; exact g52
    · have f36 := Eq.trans (Eq.symm (if_neg c11)) f35
      have g36 := g35.1 c11
      obtain ⟨r13, e15⟩ := zex1 (s_Te_next t_length u8 t_characters)
      have g53 := g36.2 r13 e15
      have f53 := Eq.trans (Eq.symm (zl1_eq e15)) f36
      obtain ⟨r17, e19⟩ := zex1 (s_Tr_isWithin (r13 - (48 : Int32)) (8 : Int32))
      have g54 := g53 r17 e19
      have f54 := Eq.trans (Eq.symm (zl1_eq e19)) f53
      by_cases c21 : r17 = 0
      · have f55 := Eq.trans (Eq.symm (if_pos c21)) f54
        have g55 := g54.2 c21
        subst f55; exact g55
      · have f55 := Eq.trans (Eq.symm (if_neg c21)) f54
        have g55 := g54.1 c21
        obtain ⟨r23, u24, e25⟩ := zex2 (s_Te_pass t_length (u8 + (1 : Int32)) t_characters (47 : Int32))
        have g56 := g55.2 r23 u24 e25
        have f56 := Eq.trans (Eq.symm (zl2_eq e25)) f55
        by_cases c27 : r23 = 0
        · have f57 := Eq.trans (Eq.symm (if_pos c27)) f56
          have g57 := g56.1 c27
          obtain ⟨r29, u30, e31⟩ := zex2 (s_Te_pass t_length u24 t_characters (123 : Int32))
          have g58 := g57.2 r29 u30 e31
          have f58 := Eq.trans (Eq.symm (zl2_eq e31)) f57
          have g59 := g58.2
          subst f58; exact g59
        · have f57 := Eq.trans (Eq.symm (if_neg c27)) f56
          have g57 := g56.2 c27
          obtain ⟨r33, m36, m37, m38, e35⟩ := zex4 (s_Te_readLevel t_length u24 t_characters t_draft_length t_draft_steps (0 : Int32) (0 : Int32))
          have g60 := g57.2 r33 m36 m37 m38 e35
          have f60 := Eq.trans (Eq.symm (zl2_eq e35)) f57
          have f60 := Eq.trans (Eq.symm (zl2_eq (Eq.refl (m36, m37, m38)))) f60
          have f60 := Eq.trans (Eq.symm (zl2_eq (Eq.refl (m37, m38)))) f60
          by_cases c40 : r33 = 0
          · have f61 := Eq.trans (Eq.symm (if_pos c40)) f60
            have g61 := g60.1 c40
            subst f61; exact g61
          · have f61 := Eq.trans (Eq.symm (if_neg c40)) f60
            have g61 := g60.2 c40
            obtain ⟨r42, u43, e44⟩ := zex2 (s_Te_pass t_length m36 t_characters (47 : Int32))
            have g62 := g61.2 r42 u43 e44
            have f62 := Eq.trans (Eq.symm (zl2_eq e44)) f61
            by_cases c46 : r42 = 0
            · have f63 := Eq.trans (Eq.symm (if_pos c46)) f62
              have g63 := g62.2 c46
              subst f63; exact g63
            · have f63 := Eq.trans (Eq.symm (if_neg c46)) f62
              have g63 := g62.1 c46
              obtain ⟨m51, m52, e50⟩ := zex2 (s_Ru_add m37 m38 (47 : Int32))
              have g64 := g63.2 m51 m52 e50
              have f64 := Eq.trans (Eq.symm (zl2_eq e50)) f63
              obtain ⟨r54, u55, e56⟩ := zex2 (s_Te_pass t_length u43 t_characters (123 : Int32))
              have g65 := g64.2 r54 u55 e56
              have f65 := Eq.trans (Eq.symm (zl2_eq e56)) f64
              have g66 := g65.2
              subst f65; exact g66
theorem e_Te_readHead (t_length : Int32) (t_at : Int32) (t_characters : Nat → Int32) (t_draft_length : Int32) (t_draft_site : Int32) (t_draft_exit : Int32) (t_draft_conditional : Int32) (t_draft_steps : Nat → Int32) {Q : Int32 → (Int32 × Int32 × Int32 × Int32 × Int32 × (Nat → Int32)) → Prop} (hp : WP_Te_readHead t_length t_at t_characters t_draft_length t_draft_site t_draft_exit t_draft_conditional t_draft_steps Q) : p_Te_readHead t_length t_at t_characters t_draft_length t_draft_site t_draft_exit t_draft_conditional t_draft_steps ∧ Q (s_Te_readHead t_length t_at t_characters t_draft_length t_draft_site t_draft_exit t_draft_conditional t_draft_steps).1 (s_Te_readHead t_length t_at t_characters t_draft_length t_draft_site t_draft_exit t_draft_conditional t_draft_steps).2 := ⟨pm_Te_readHead t_length t_at t_characters t_draft_length t_draft_site t_draft_exit t_draft_conditional t_draft_steps (fun _ _ _ => trivial) hp, qm_Te_readHead t_length t_at t_characters t_draft_length t_draft_site t_draft_exit t_draft_conditional t_draft_steps _ rfl hp⟩
set_option maxRecDepth 100000 in
theorem pm_Te_read_L23 {Q Q2 : Int32 → (Int32 × Int32 × Int32 × Int32 × Int32 × Int32 × Int32 × Int32 × Int32 × Int32 × (Nat → Int32)) → Prop} (hQ : ∀ r u, Q r u → Q2 r u) : ∀ (n : Nat) (y1 : Int32) (t_length : Int32) (t_at : Int32) (t_draft_length : Int32) (t_draft_actions : Int32) (t_draft_site : Int32) (t_draft_exit : Int32) (t_draft_conditional : Int32) (t_draft_there : Int32) (t_draft_on : Int32) (t_draft_failures : Int32) (t_draft_meetings : Int32) (t_characters : Nat → Int32) (t_draft_steps : Nat → Int32), WP_Te_read_L23 n y1 t_length t_at t_draft_length t_draft_actions t_draft_site t_draft_exit t_draft_conditional t_draft_there t_draft_on t_draft_failures t_draft_meetings t_characters t_draft_steps Q → WP_Te_read_L23 n y1 t_length t_at t_draft_length t_draft_actions t_draft_site t_draft_exit t_draft_conditional t_draft_there t_draft_on t_draft_failures t_draft_meetings t_characters t_draft_steps Q2 := by
  intro n
  induction n with
  | zero => intros; contradiction
  | succ n ih =>
    intro y1 t_length t_at t_draft_length t_draft_actions t_draft_site t_draft_exit t_draft_conditional t_draft_there t_draft_on t_draft_failures t_draft_meetings t_characters t_draft_steps hp
    unfold WP_Te_read_L23 at hp ⊢
    refine ⟨fun c26 => ?_, fun c26 => ?_⟩
    · have g1 := hp.1 c26
      exact hQ _ _ g1
    · have g1 := hp.2 c26
      refine ⟨g1.1, ?_⟩
      intro r28 m31 m32 m33 e30
      have g2 := g1.2 r28 m31 m32 m33 e30
      refine ⟨fun c35 => ?_, fun c35 => ?_⟩
      · have g3 := g2.1 c35
        refine ⟨g3.1, ?_⟩
        intro r37 u38 e39
        have g4 := g3.2 r37 u38 e39
        refine ⟨fun c41 => ?_, fun c41 => ?_⟩
        · have g5 := g4.1 c41
          refine ⟨g5.1, ?_⟩
          intro r43 u44 e45
          have g6 := g5.2 r43 u44 e45
          refine ⟨fun c47 => ?_, fun c47 => ?_⟩
          · have g7 := g6.1 c47
            exact ih _ _ _ _ _ _ _ _ _ _ _ _ _ _ g7
          · have g7 := g6.2 c47
            exact hQ _ _ g7
        · have g5 := g4.2 c41
          refine ⟨fun c49 => ?_, fun c49 => ?_⟩
          · have g8 := g5.1 c49
            exact hQ _ _ g8
          · have g8 := g5.2 c49
            exact hQ _ _ g8
      · have g3 := g2.2 c35
        exact hQ _ _ g3
set_option maxRecDepth 100000 in
theorem qm_Te_read_L23 {Q : Int32 → (Int32 × Int32 × Int32 × Int32 × Int32 × Int32 × Int32 × Int32 × Int32 × Int32 × (Nat → Int32)) → Prop} : ∀ (n : Nat) (y1 : Int32) (t_length : Int32) (t_at : Int32) (t_draft_length : Int32) (t_draft_actions : Int32) (t_draft_site : Int32) (t_draft_exit : Int32) (t_draft_conditional : Int32) (t_draft_there : Int32) (t_draft_on : Int32) (t_draft_failures : Int32) (t_draft_meetings : Int32) (t_characters : Nat → Int32) (t_draft_steps : Nat → Int32) (tgt : Int32 × Int32 × Int32 × Int32 × Int32 × Int32 × Int32 × Int32 × Int32 × Int32 × Int32 × (Nat → Int32)), s_Te_read_L23 n y1 t_length t_at t_draft_length t_draft_actions t_draft_site t_draft_exit t_draft_conditional t_draft_there t_draft_on t_draft_failures t_draft_meetings t_characters t_draft_steps = tgt → WP_Te_read_L23 n y1 t_length t_at t_draft_length t_draft_actions t_draft_site t_draft_exit t_draft_conditional t_draft_there t_draft_on t_draft_failures t_draft_meetings t_characters t_draft_steps Q → Q tgt.1 tgt.2 := by
  intro n
  induction n with
  | zero => intros; contradiction
  | succ n ih =>
    intro y1 t_length t_at t_draft_length t_draft_actions t_draft_site t_draft_exit t_draft_conditional t_draft_there t_draft_on t_draft_failures t_draft_meetings t_characters t_draft_steps tgt f0 hp
    unfold WP_Te_read_L23 at hp
    unfold s_Te_read_L23 at f0
    by_cases c26 : (48 : Int32) ≤ y1
    · have f1 := Eq.trans (Eq.symm (if_pos c26)) f0
      have g1 := hp.1 c26
      subst f1; exact g1
    · have f1 := Eq.trans (Eq.symm (if_neg c26)) f0
      have g1 := hp.2 c26
      obtain ⟨r28, m31, m32, m33, e30⟩ := zex4 (s_Te_readAction t_length t_at t_characters t_draft_length t_draft_steps)
      have g2 := g1.2 r28 m31 m32 m33 e30
      have f2 := Eq.trans (Eq.symm (zl2_eq e30)) f1
      have f2 := Eq.trans (Eq.symm (zl2_eq (Eq.refl (m31, m32, m33)))) f2
      have f2 := Eq.trans (Eq.symm (zl2_eq (Eq.refl (m32, m33)))) f2
      by_cases c35 : r28 = 0
      · have f3 := Eq.trans (Eq.symm (if_pos c35)) f2
        have g3 := g2.2 c35
        subst f3; exact g3
      · have f3 := Eq.trans (Eq.symm (if_neg c35)) f2
        have g3 := g2.1 c35
        obtain ⟨r37, u38, e39⟩ := zex2 (s_Te_pass t_length m31 t_characters (125 : Int32))
        have g4 := g3.2 r37 u38 e39
        have f4 := Eq.trans (Eq.symm (zl2_eq e39)) f3
        by_cases c41 : r37 = 0
        · have f5 := Eq.trans (Eq.symm (if_pos c41)) f4
          have g5 := g4.1 c41
          obtain ⟨r43, u44, e45⟩ := zex2 (s_Te_pass t_length u38 t_characters (59 : Int32))
          have g6 := g5.2 r43 u44 e45
          have f6 := Eq.trans (Eq.symm (zl2_eq e45)) f5
          by_cases c47 : r43 = 0
          · have f7 := Eq.trans (Eq.symm (if_pos c47)) f6
            have g7 := g6.2 c47
            subst f7; exact g7
          · have f7 := Eq.trans (Eq.symm (if_neg c47)) f6
            have g7 := g6.1 c47
            exact ih _ _ _ _ _ _ _ _ _ _ _ _ _ _ _ f7 g7
        · have f5 := Eq.trans (Eq.symm (if_neg c41)) f4
          have g5 := g4.2 c41
          by_cases c49 : u38 = t_length
          · have f8 := Eq.trans (Eq.symm (if_pos c49)) f5
            have g8 := g5.2 c49
            subst f8; exact g8
          · have f8 := Eq.trans (Eq.symm (if_neg c49)) f5
            have g8 := g5.1 c49
            subst f8; exact g8
set_option maxRecDepth 100000 in
theorem pm_Te_read (t_length : Int32) (t_at : Int32) (t_draft_length : Int32) (t_draft_actions : Int32) (t_draft_site : Int32) (t_draft_exit : Int32) (t_draft_conditional : Int32) (t_draft_there : Int32) (t_draft_on : Int32) (t_draft_failures : Int32) (t_draft_meetings : Int32) (t_characters : Nat → Int32) (t_draft_steps : Nat → Int32) {Q Q2 : Int32 → (Int32 × Int32 × Int32 × Int32 × Int32 × Int32 × Int32 × Int32 × Int32 × Int32 × (Nat → Int32)) → Prop} (hQ : ∀ r u, Q r u → Q2 r u) (hp : WP_Te_read t_length t_at t_draft_length t_draft_actions t_draft_site t_draft_exit t_draft_conditional t_draft_there t_draft_on t_draft_failures t_draft_meetings t_characters t_draft_steps Q) : WP_Te_read t_length t_at t_draft_length t_draft_actions t_draft_site t_draft_exit t_draft_conditional t_draft_there t_draft_on t_draft_failures t_draft_meetings t_characters t_draft_steps Q2 := by
  unfold WP_Te_read at hp ⊢
  intro m4 m5 m6 m7 m8 m9 m10 m11 m12 e3
  have g1 := hp m4 m5 m6 m7 m8 m9 m10 m11 m12 e3
  refine ⟨g1.1, ?_⟩
  intro r14 m17 m18 m19 m20 m21 m22 e16
  have g2 := g1.2 r14 m17 m18 m19 m20 m21 m22 e16
  refine ⟨fun c24 => ?_, fun c24 => ?_⟩
  · have g3 := g2.1 c24
    exact pm_Te_read_L23 hQ _ _ _ _ _ _ _ _ _ _ _ _ _ _ _ g3
  · have g3 := g2.2 c24
    exact hQ _ _ g3
set_option maxRecDepth 100000 in
theorem qm_Te_read (t_length : Int32) (t_at : Int32) (t_draft_length : Int32) (t_draft_actions : Int32) (t_draft_site : Int32) (t_draft_exit : Int32) (t_draft_conditional : Int32) (t_draft_there : Int32) (t_draft_on : Int32) (t_draft_failures : Int32) (t_draft_meetings : Int32) (t_characters : Nat → Int32) (t_draft_steps : Nat → Int32) {Q : Int32 → (Int32 × Int32 × Int32 × Int32 × Int32 × Int32 × Int32 × Int32 × Int32 × Int32 × (Nat → Int32)) → Prop} (tgt : Int32 × Int32 × Int32 × Int32 × Int32 × Int32 × Int32 × Int32 × Int32 × Int32 × Int32 × (Nat → Int32)) (f0 : s_Te_read t_length t_at t_draft_length t_draft_actions t_draft_site t_draft_exit t_draft_conditional t_draft_there t_draft_on t_draft_failures t_draft_meetings t_characters t_draft_steps = tgt) (hp : WP_Te_read t_length t_at t_draft_length t_draft_actions t_draft_site t_draft_exit t_draft_conditional t_draft_there t_draft_on t_draft_failures t_draft_meetings t_characters t_draft_steps Q) : Q tgt.1 tgt.2 := by
  unfold WP_Te_read at hp
  unfold s_Te_read at f0
  obtain ⟨m4, m5, m6, m7, m8, m9, m10, m11, m12, e3⟩ := zex9 (s_Ru_clear t_draft_length t_draft_actions t_draft_site t_draft_exit t_draft_conditional t_draft_there t_draft_on t_draft_failures t_draft_meetings)
  have g1 := hp m4 m5 m6 m7 m8 m9 m10 m11 m12 e3
  have f1 := Eq.trans (Eq.symm (zl2_eq e3)) f0
  have f1 := Eq.trans (Eq.symm (zl2_eq (Eq.refl (m5, m6, m7, m8, m9, m10, m11, m12)))) f1
  have f1 := Eq.trans (Eq.symm (zl2_eq (Eq.refl (m6, m7, m8, m9, m10, m11, m12)))) f1
  have f1 := Eq.trans (Eq.symm (zl2_eq (Eq.refl (m7, m8, m9, m10, m11, m12)))) f1
  have f1 := Eq.trans (Eq.symm (zl2_eq (Eq.refl (m8, m9, m10, m11, m12)))) f1
  have f1 := Eq.trans (Eq.symm (zl2_eq (Eq.refl (m9, m10, m11, m12)))) f1
  have f1 := Eq.trans (Eq.symm (zl2_eq (Eq.refl (m10, m11, m12)))) f1
  have f1 := Eq.trans (Eq.symm (zl2_eq (Eq.refl (m11, m12)))) f1
  obtain ⟨r14, m17, m18, m19, m20, m21, m22, e16⟩ := zex7 (s_Te_readHead t_length (0 : Int32) t_characters m4 m6 m7 m8 t_draft_steps)
  have g2 := g1.2 r14 m17 m18 m19 m20 m21 m22 e16
  have f2 := Eq.trans (Eq.symm (zl2_eq e16)) f1
  have f2 := Eq.trans (Eq.symm (zl2_eq (Eq.refl (m17, m18, m19, m20, m21, m22)))) f2
  have f2 := Eq.trans (Eq.symm (zl2_eq (Eq.refl (m18, m19, m20, m21, m22)))) f2
  have f2 := Eq.trans (Eq.symm (zl2_eq (Eq.refl (m19, m20, m21, m22)))) f2
  have f2 := Eq.trans (Eq.symm (zl2_eq (Eq.refl (m20, m21, m22)))) f2
  have f2 := Eq.trans (Eq.symm (zl2_eq (Eq.refl (m21, m22)))) f2
  by_cases c24 : r14 = 0
  · have f3 := Eq.trans (Eq.symm (if_pos c24)) f2
    have g3 := g2.2 c24
    subst f3; exact g3
  · have f3 := Eq.trans (Eq.symm (if_neg c24)) f2
    have g3 := g2.1 c24
    exact qm_Te_read_L23 _ _ _ _ _ _ _ _ _ _ _ _ _ _ _ _ f3 g3
theorem e_Te_read (t_length : Int32) (t_at : Int32) (t_draft_length : Int32) (t_draft_actions : Int32) (t_draft_site : Int32) (t_draft_exit : Int32) (t_draft_conditional : Int32) (t_draft_there : Int32) (t_draft_on : Int32) (t_draft_failures : Int32) (t_draft_meetings : Int32) (t_characters : Nat → Int32) (t_draft_steps : Nat → Int32) {Q : Int32 → (Int32 × Int32 × Int32 × Int32 × Int32 × Int32 × Int32 × Int32 × Int32 × Int32 × (Nat → Int32)) → Prop} (hp : WP_Te_read t_length t_at t_draft_length t_draft_actions t_draft_site t_draft_exit t_draft_conditional t_draft_there t_draft_on t_draft_failures t_draft_meetings t_characters t_draft_steps Q) : p_Te_read t_length t_at t_draft_length t_draft_actions t_draft_site t_draft_exit t_draft_conditional t_draft_there t_draft_on t_draft_failures t_draft_meetings t_characters t_draft_steps ∧ Q (s_Te_read t_length t_at t_draft_length t_draft_actions t_draft_site t_draft_exit t_draft_conditional t_draft_there t_draft_on t_draft_failures t_draft_meetings t_characters t_draft_steps).1 (s_Te_read t_length t_at t_draft_length t_draft_actions t_draft_site t_draft_exit t_draft_conditional t_draft_there t_draft_on t_draft_failures t_draft_meetings t_characters t_draft_steps).2 := ⟨pm_Te_read t_length t_at t_draft_length t_draft_actions t_draft_site t_draft_exit t_draft_conditional t_draft_there t_draft_on t_draft_failures t_draft_meetings t_characters t_draft_steps (fun _ _ _ => trivial) hp, qm_Te_read t_length t_at t_draft_length t_draft_actions t_draft_site t_draft_exit t_draft_conditional t_draft_there t_draft_on t_draft_failures t_draft_meetings t_characters t_draft_steps _ rfl hp⟩
