set_option maxRecDepth 100000 in
theorem pm_Rn_gather (p1_size : Int32) (p1_keys : Nat → Int32) (p1_sums : Nat → UInt64) (p1_values : Nat → Int32) (p1_bins : Nat → Int32) (p1_least : Nat → UInt64) (p1_greatest : Nat → UInt64) (t_dropped : Int32) (t_top : Int32) (t_over : Int32) (t_failed : Int32) (t_stack : Nat → UInt64) {Q Q2 : (Int32 × (Nat → Int32) × (Nat → UInt64) × (Nat → Int32) × (Nat → Int32) × (Nat → UInt64) × (Nat → UInt64) × Int32 × Int32 × Int32 × Int32) → Prop} (hQ : ∀ u, Q u → Q2 u) (hp : WP_Rn_gather p1_size p1_keys p1_sums p1_values p1_bins p1_least p1_greatest t_dropped t_top t_over t_failed t_stack Q) : WP_Rn_gather p1_size p1_keys p1_sums p1_values p1_bins p1_least p1_greatest t_dropped t_top t_over t_failed t_stack Q2 := by
  unfold WP_Rn_gather at hp ⊢
  refine ⟨hp.1, ?_⟩
  intro r1 u2 e3
  have g1 := hp.2 r1 u2 e3
  refine ⟨g1.1, ?_⟩
  intro r5 u6 e7
  have g2 := g1.2 r5 u6 e7
  refine ⟨g2.1, ?_⟩
  intro r9 m12 m13 e11
  have g3 := g2.2 r9 m12 m13 e11
  refine ⟨fun c15 => ?_, fun c15 => ?_⟩
  · have g4 := g3.1 c15
    refine ⟨g4.1, ?_⟩
    have g5 := g4.2
    refine ⟨g5.1, ?_⟩
    have g6 := g5.2
    intro r19 e21
    have g7 := g6 r19 e21
    refine ⟨fun c23 => ?_, fun c23 => ?_⟩
    · have g8 := g7.1 c23
      refine ⟨g8.1, ?_⟩
      intro m28 m29 m30 m31 m32 e27
      have g9 := g8.2 m28 m29 m30 m31 m32 e27
      exact hQ _ g9
    · have g8 := g7.2 c23
      intro m37 m38 e36
      have g10 := g8 m37 m38 e36
      exact hQ _ g10
  · have g4 := g3.2 c15
    exact hQ _ g4
set_option maxRecDepth 100000 in
theorem qm_Rn_gather (p1_size : Int32) (p1_keys : Nat → Int32) (p1_sums : Nat → UInt64) (p1_values : Nat → Int32) (p1_bins : Nat → Int32) (p1_least : Nat → UInt64) (p1_greatest : Nat → UInt64) (t_dropped : Int32) (t_top : Int32) (t_over : Int32) (t_failed : Int32) (t_stack : Nat → UInt64) {Q : (Int32 × (Nat → Int32) × (Nat → UInt64) × (Nat → Int32) × (Nat → Int32) × (Nat → UInt64) × (Nat → UInt64) × Int32 × Int32 × Int32 × Int32) → Prop} (tgt : Int32 × (Nat → Int32) × (Nat → UInt64) × (Nat → Int32) × (Nat → Int32) × (Nat → UInt64) × (Nat → UInt64) × Int32 × Int32 × Int32 × Int32) (f0 : s_Rn_gather p1_size p1_keys p1_sums p1_values p1_bins p1_least p1_greatest t_dropped t_top t_over t_failed t_stack = tgt) (hp : WP_Rn_gather p1_size p1_keys p1_sums p1_values p1_bins p1_least p1_greatest t_dropped t_top t_over t_failed t_stack Q) : Q tgt := by
  unfold WP_Rn_gather at hp
  unfold s_Rn_gather at f0
  obtain ⟨r1, u2, e3⟩ := zex2 (s_Rn_pop t_top t_stack)
  have g1 := hp.2 r1 u2 e3
  have f1 := Eq.trans (Eq.symm (zl2_eq e3)) f0
  obtain ⟨r5, u6, e7⟩ := zex2 (s_Rn_pop u2 t_stack)
  have g2 := g1.2 r5 u6 e7
  have f2 := Eq.trans (Eq.symm (zl2_eq e7)) f1
  obtain ⟨r9, m12, m13, e11⟩ := zex3 (s_Ga_rowFor p1_size p1_keys (FP.d2i r5))
  have g3 := g2.2 r9 m12 m13 e11
  have f3 := Eq.trans (Eq.symm (zl2_eq e11)) f2
  have f3 := Eq.trans (Eq.symm (zl2_eq (Eq.refl (m12, m13)))) f3
  by_cases c15 : 0 ≤ r9
  · have f4 := Eq.trans (Eq.symm (if_pos c15)) f3
    have g4 := g3.1 c15
    have g5 := g4.2
    have g6 := g5.2
    obtain ⟨r19, e21⟩ := zex1 (s_Rn_isOutOfBounds (FP.dadd (p1_sums r9.toNatClampNeg) r1))
    have g7 := g6 r19 e21
    have f7 := Eq.trans (Eq.symm (zl1_eq e21)) f4
    by_cases c23 : r19 = 0
    · have f8 := Eq.trans (Eq.symm (if_pos c23)) f7
      have g8 := g7.1 c23
      obtain ⟨m28, m29, m30, m31, m32, e27⟩ := zex5 (s_Ga_add p1_values p1_sums p1_bins p1_least p1_greatest r9 r1)
      have g9 := g8.2 m28 m29 m30 m31 m32 e27
      have f9 := Eq.trans (Eq.symm (zl2_eq e27)) f8
      have f9 := Eq.trans (Eq.symm (zl2_eq (Eq.refl (m29, m30, m31, m32)))) f9
      have f9 := Eq.trans (Eq.symm (zl2_eq (Eq.refl (m30, m31, m32)))) f9
      have f9 := Eq.trans (Eq.symm (zl2_eq (Eq.refl (m31, m32)))) f9
      subst f9; exact g9
    · have f8 := Eq.trans (Eq.symm (if_neg c23)) f7
      have g8 := g7.2 c23
      obtain ⟨m37, m38, e36⟩ := zex2 (s_Rn_fail t_over t_failed)
      have g10 := g8 m37 m38 e36
      have f10 := Eq.trans (Eq.symm (zl2_eq e36)) f8
      subst f10; exact g10
  · have f4 := Eq.trans (Eq.symm (if_neg c15)) f3
    have g4 := g3.2 c15
    subst f4; exact g4
theorem e_Rn_gather (p1_size : Int32) (p1_keys : Nat → Int32) (p1_sums : Nat → UInt64) (p1_values : Nat → Int32) (p1_bins : Nat → Int32) (p1_least : Nat → UInt64) (p1_greatest : Nat → UInt64) (t_dropped : Int32) (t_top : Int32) (t_over : Int32) (t_failed : Int32) (t_stack : Nat → UInt64) {Q : (Int32 × (Nat → Int32) × (Nat → UInt64) × (Nat → Int32) × (Nat → Int32) × (Nat → UInt64) × (Nat → UInt64) × Int32 × Int32 × Int32 × Int32) → Prop} (hp : WP_Rn_gather p1_size p1_keys p1_sums p1_values p1_bins p1_least p1_greatest t_dropped t_top t_over t_failed t_stack Q) : p_Rn_gather p1_size p1_keys p1_sums p1_values p1_bins p1_least p1_greatest t_dropped t_top t_over t_failed t_stack ∧ Q (s_Rn_gather p1_size p1_keys p1_sums p1_values p1_bins p1_least p1_greatest t_dropped t_top t_over t_failed t_stack) := ⟨pm_Rn_gather p1_size p1_keys p1_sums p1_values p1_bins p1_least p1_greatest t_dropped t_top t_over t_failed t_stack (fun _ _ => trivial) hp, qm_Rn_gather p1_size p1_keys p1_sums p1_values p1_bins p1_least p1_greatest t_dropped t_top t_over t_failed t_stack _ rfl hp⟩
set_option maxRecDepth 100000 in
theorem pm_Rn_doCharacter (t_time : Int32) (t_thread : Int32) (t_handedA : UInt64) (t_handedB : UInt64) (t_handedC : UInt64) (t_top : Int32) (t_over : Int32) (t_failed : Int32) (t_met : Int32) (t_stack : Nat → UInt64) (t_records_oldest : Int32) (t_records_size : Int32) (t_records_lost : Int32) (t_records_ring : Nat → UInt64) (x1 : Int32) {Q Q2 : (Int32 × Int32 × Int32 × Int32 × (Nat → UInt64) × Int32 × Int32 × Int32 × (Nat → UInt64)) → Prop} (hQ : ∀ u, Q u → Q2 u) (hp : WP_Rn_doCharacter t_time t_thread t_handedA t_handedB t_handedC t_top t_over t_failed t_met t_stack t_records_oldest t_records_size t_records_lost t_records_ring x1 Q) : WP_Rn_doCharacter t_time t_thread t_handedA t_handedB t_handedC t_top t_over t_failed t_met t_stack t_records_oldest t_records_size t_records_lost t_records_ring x1 Q2 := by
  unfold WP_Rn_doCharacter at hp ⊢
  refine ⟨fun c1_0 => ?_, fun c1_0 => ?_⟩
  · have g1 := hp.1 c1_0
    refine ⟨g1.1, ?_⟩
    intro r3 u4 e5
    have g2 := g1.2 r3 u4 e5
    refine ⟨g2.1, ?_⟩
    intro m10 m11 m12 m13 e9
    have g3 := g2.2 m10 m11 m12 m13 e9
    exact hQ _ g3
  · have g1 := hp.2 c1_0
    refine ⟨fun c1_1 => ?_, fun c1_1 => ?_⟩
    · have g4 := g1.1 c1_1
      refine ⟨g4.1, ?_⟩
      intro r17 u18 e19
      have g5 := g4.2 r17 u18 e19
      refine ⟨fun c21 => ?_, fun c21 => ?_⟩
      · have g6 := g5.1 c21
        exact hQ _ g6
      · have g6 := g5.2 c21
        exact hQ _ g6
    · have g4 := g1.2 c1_1
      refine ⟨fun c1_2 => ?_, fun c1_2 => ?_⟩
      · have g7 := g4.1 c1_2
        refine ⟨g7.1, ?_⟩
        intro r27 u28 e29
        have g8 := g7.2 r27 u28 e29
        refine ⟨fun c31 => ?_, fun c31 => ?_⟩
        · have g9 := g8.1 c31
          exact hQ _ g9
        · have g9 := g8.2 c31
          exact hQ _ g9
      · have g7 := g4.2 c1_2
        refine ⟨fun c1_3 => ?_, fun c1_3 => ?_⟩
        · have g10 := g7.1 c1_3
          refine ⟨g10.1, ?_⟩
          intro m38 m39 e37
          have g11 := g10.2 m38 m39 e37
          exact hQ _ g11
        · have g10 := g7.2 c1_3
          refine ⟨fun c1_4 => ?_, fun c1_4 => ?_⟩
          · have g12 := g10.1 c1_4
            refine ⟨g12.1, ?_⟩
            intro m46 m47 e45
            have g13 := g12.2 m46 m47 e45
            exact hQ _ g13
          · have g12 := g10.2 c1_4
            refine ⟨fun c1_5 => ?_, fun c1_5 => ?_⟩
            · have g14 := g12.1 c1_5
              refine ⟨g14.1, ?_⟩
              intro m54 m55 e53
              have g15 := g14.2 m54 m55 e53
              exact hQ _ g15
            · have g14 := g12.2 c1_5
              refine ⟨fun c1_6 => ?_, fun c1_6 => ?_⟩
              · have g16 := g14.1 c1_6
                refine ⟨g16.1, ?_⟩
                intro m62 m63 e61
                have g17 := g16.2 m62 m63 e61
                exact hQ _ g17
              · have g16 := g14.2 c1_6
                refine ⟨fun c1_7 => ?_, fun c1_7 => ?_⟩
                · have g18 := g16.1 c1_7
                  refine ⟨g18.1, ?_⟩
                  intro m70 m71 e69
                  have g19 := g18.2 m70 m71 e69
                  exact hQ _ g19
                · have g18 := g16.2 c1_7
                  refine ⟨fun c1_8 => ?_, fun c1_8 => ?_⟩
                  · have g20 := g18.1 c1_8
                    refine ⟨g20.1, ?_⟩
                    intro r75 u76 e77
                    have g21 := g20.2 r75 u76 e77
                    refine ⟨g21.1, ?_⟩
                    intro m82 m83 e81
                    have g22 := g21.2 m82 m83 e81
                    exact hQ _ g22
                  · have g20 := g18.2 c1_8
                    refine ⟨g20.1, ?_⟩
                    intro m89 m90 m91 m92 e88
                    have g23 := g20.2 m89 m90 m91 m92 e88
                    exact hQ _ g23
set_option maxRecDepth 100000 in
theorem qm_Rn_doCharacter (t_time : Int32) (t_thread : Int32) (t_handedA : UInt64) (t_handedB : UInt64) (t_handedC : UInt64) (t_top : Int32) (t_over : Int32) (t_failed : Int32) (t_met : Int32) (t_stack : Nat → UInt64) (t_records_oldest : Int32) (t_records_size : Int32) (t_records_lost : Int32) (t_records_ring : Nat → UInt64) (x1 : Int32) {Q : (Int32 × Int32 × Int32 × Int32 × (Nat → UInt64) × Int32 × Int32 × Int32 × (Nat → UInt64)) → Prop} (tgt : Int32 × Int32 × Int32 × Int32 × (Nat → UInt64) × Int32 × Int32 × Int32 × (Nat → UInt64)) (f0 : s_Rn_doCharacter t_time t_thread t_handedA t_handedB t_handedC t_top t_over t_failed t_met t_stack t_records_oldest t_records_size t_records_lost t_records_ring x1 = tgt) (hp : WP_Rn_doCharacter t_time t_thread t_handedA t_handedB t_handedC t_top t_over t_failed t_met t_stack t_records_oldest t_records_size t_records_lost t_records_ring x1 Q) : Q tgt := by
  unfold WP_Rn_doCharacter at hp
  unfold s_Rn_doCharacter at f0
  by_cases c1_0 : x1 = (33 : Int32)
  · have f1 := Eq.trans (Eq.symm (if_pos c1_0)) f0
    have g1 := hp.1 c1_0
    obtain ⟨r3, u4, e5⟩ := zex2 (s_Rn_pop t_top t_stack)
    have g2 := g1.2 r3 u4 e5
    have f2 := Eq.trans (Eq.symm (zl2_eq e5)) f1
    obtain ⟨m10, m11, m12, m13, e9⟩ := zex4 (s_Re_put t_records_oldest t_records_size t_records_lost t_records_ring r3)
    have g3 := g2.2 m10 m11 m12 m13 e9
    have f3 := Eq.trans (Eq.symm (zl2_eq e9)) f2
    have f3 := Eq.trans (Eq.symm (zl2_eq (Eq.refl (m11, m12, m13)))) f3
    have f3 := Eq.trans (Eq.symm (zl2_eq (Eq.refl (m12, m13)))) f3
    subst f3; exact g3
  · have f1 := Eq.trans (Eq.symm (if_neg c1_0)) f0
    have g1 := hp.2 c1_0
    by_cases c1_1 : x1 = (47 : Int32)
    · have f4 := Eq.trans (Eq.symm (if_pos c1_1)) f1
      have g4 := g1.1 c1_1
      obtain ⟨r17, u18, e19⟩ := zex2 (s_Rn_pop t_top t_stack)
      have g5 := g4.2 r17 u18 e19
      have f5 := Eq.trans (Eq.symm (zl2_eq e19)) f4
      by_cases c21 : (Op.cmpValue (FP.dcmp r17 FP.dconst0) .l) = 0
      · have f6 := Eq.trans (Eq.symm (if_pos c21)) f5
        have g6 := g5.1 c21
        subst f6; exact g6
      · have f6 := Eq.trans (Eq.symm (if_neg c21)) f5
        have g6 := g5.2 c21
        subst f6; exact g6
    · have f4 := Eq.trans (Eq.symm (if_neg c1_1)) f1
      have g4 := g1.2 c1_1
      by_cases c1_2 : x1 = (63 : Int32)
      · have f7 := Eq.trans (Eq.symm (if_pos c1_2)) f4
        have g7 := g4.1 c1_2
        obtain ⟨r27, u28, e29⟩ := zex2 (s_Rn_pop t_top t_stack)
        have g8 := g7.2 r27 u28 e29
        have f8 := Eq.trans (Eq.symm (zl2_eq e29)) f7
        by_cases c31 : (Op.cmpValue (FP.dcmp r27 FP.dconst0) .l) = 0
        · have f9 := Eq.trans (Eq.symm (if_pos c31)) f8
          have g9 := g8.2 c31
          subst f9; exact g9
        · have f9 := Eq.trans (Eq.symm (if_neg c31)) f8
          have g9 := g8.1 c31
          subst f9; exact g9
      · have f7 := Eq.trans (Eq.symm (if_neg c1_2)) f4
        have g7 := g4.2 c1_2
        by_cases c1_3 : x1 = (97 : Int32)
        · have f10 := Eq.trans (Eq.symm (if_pos c1_3)) f7
          have g10 := g7.1 c1_3
          obtain ⟨m38, m39, e37⟩ := zex2 (s_Rn_push t_top t_stack t_handedA)
          have g11 := g10.2 m38 m39 e37
          have f11 := Eq.trans (Eq.symm (zl2_eq e37)) f10
          subst f11; exact g11
        · have f10 := Eq.trans (Eq.symm (if_neg c1_3)) f7
          have g10 := g7.2 c1_3
          by_cases c1_4 : x1 = (98 : Int32)
          · have f12 := Eq.trans (Eq.symm (if_pos c1_4)) f10
            have g12 := g10.1 c1_4
            obtain ⟨m46, m47, e45⟩ := zex2 (s_Rn_push t_top t_stack t_handedB)
            have g13 := g12.2 m46 m47 e45
            have f13 := Eq.trans (Eq.symm (zl2_eq e45)) f12
            subst f13; exact g13
          · have f12 := Eq.trans (Eq.symm (if_neg c1_4)) f10
            have g12 := g10.2 c1_4
            by_cases c1_5 : x1 = (99 : Int32)
            · have f14 := Eq.trans (Eq.symm (if_pos c1_5)) f12
              have g14 := g12.1 c1_5
              obtain ⟨m54, m55, e53⟩ := zex2 (s_Rn_push t_top t_stack t_handedC)
              have g15 := g14.2 m54 m55 e53
              have f15 := Eq.trans (Eq.symm (zl2_eq e53)) f14
              subst f15; exact g15
            · have f14 := Eq.trans (Eq.symm (if_neg c1_5)) f12
              have g14 := g12.2 c1_5
              by_cases c1_6 : x1 = (107 : Int32)
              · have f16 := Eq.trans (Eq.symm (if_pos c1_6)) f14
                have g16 := g14.1 c1_6
                obtain ⟨m62, m63, e61⟩ := zex2 (s_Rn_push t_top t_stack (FP.i2d t_thread))
                have g17 := g16.2 m62 m63 e61
                have f17 := Eq.trans (Eq.symm (zl2_eq e61)) f16
                subst f17; exact g17
              · have f16 := Eq.trans (Eq.symm (if_neg c1_6)) f14
                have g16 := g14.2 c1_6
                by_cases c1_7 : x1 = (116 : Int32)
                · have f18 := Eq.trans (Eq.symm (if_pos c1_7)) f16
                  have g18 := g16.1 c1_7
                  obtain ⟨m70, m71, e69⟩ := zex2 (s_Rn_push t_top t_stack (FP.i2d t_time))
                  have g19 := g18.2 m70 m71 e69
                  have f19 := Eq.trans (Eq.symm (zl2_eq e69)) f18
                  subst f19; exact g19
                · have f18 := Eq.trans (Eq.symm (if_neg c1_7)) f16
                  have g18 := g16.2 c1_7
                  by_cases c1_8 : x1 = (126 : Int32)
                  · have f20 := Eq.trans (Eq.symm (if_pos c1_8)) f18
                    have g20 := g18.1 c1_8
                    obtain ⟨r75, u76, e77⟩ := zex2 (s_Rn_pop t_top t_stack)
                    have g21 := g20.2 r75 u76 e77
                    have f21 := Eq.trans (Eq.symm (zl2_eq e77)) f20
                    obtain ⟨m82, m83, e81⟩ := zex2 (s_Rn_push u76 t_stack (FP.dneg r75))
                    have g22 := g21.2 m82 m83 e81
                    have f22 := Eq.trans (Eq.symm (zl2_eq e81)) f21
                    subst f22; exact g22
                  · have f20 := Eq.trans (Eq.symm (if_neg c1_8)) f18
                    have g20 := g18.2 c1_8
                    obtain ⟨m89, m90, m91, m92, e88⟩ := zex4 (s_Rn_operate t_top t_over t_failed t_stack x1)
                    have g23 := g20.2 m89 m90 m91 m92 e88
                    have f23 := Eq.trans (Eq.symm (zl2_eq e88)) f20
                    have f23 := Eq.trans (Eq.symm (zl2_eq (Eq.refl (m90, m91, m92)))) f23
                    have f23 := Eq.trans (Eq.symm (zl2_eq (Eq.refl (m91, m92)))) f23
                    subst f23; exact g23
theorem e_Rn_doCharacter (t_time : Int32) (t_thread : Int32) (t_handedA : UInt64) (t_handedB : UInt64) (t_handedC : UInt64) (t_top : Int32) (t_over : Int32) (t_failed : Int32) (t_met : Int32) (t_stack : Nat → UInt64) (t_records_oldest : Int32) (t_records_size : Int32) (t_records_lost : Int32) (t_records_ring : Nat → UInt64) (x1 : Int32) {Q : (Int32 × Int32 × Int32 × Int32 × (Nat → UInt64) × Int32 × Int32 × Int32 × (Nat → UInt64)) → Prop} (hp : WP_Rn_doCharacter t_time t_thread t_handedA t_handedB t_handedC t_top t_over t_failed t_met t_stack t_records_oldest t_records_size t_records_lost t_records_ring x1 Q) : p_Rn_doCharacter t_time t_thread t_handedA t_handedB t_handedC t_top t_over t_failed t_met t_stack t_records_oldest t_records_size t_records_lost t_records_ring x1 ∧ Q (s_Rn_doCharacter t_time t_thread t_handedA t_handedB t_handedC t_top t_over t_failed t_met t_stack t_records_oldest t_records_size t_records_lost t_records_ring x1) := ⟨pm_Rn_doCharacter t_time t_thread t_handedA t_handedB t_handedC t_top t_over t_failed t_met t_stack t_records_oldest t_records_size t_records_lost t_records_ring x1 (fun _ _ => trivial) hp, qm_Rn_doCharacter t_time t_thread t_handedA t_handedB t_handedC t_top t_over t_failed t_met t_stack t_records_oldest t_records_size t_records_lost t_records_ring x1 _ rfl hp⟩
set_option maxRecDepth 100000 in
theorem pm_Rn_doStep (t_time : Int32) (t_dropped : Int32) (t_thread : Int32) (t_handedA : UInt64) (t_handedB : UInt64) (t_handedC : UInt64) (t_top : Int32) (t_over : Int32) (t_failed : Int32) (t_met : Int32) (t_stack : Nat → UInt64) (t_variables : Nat → UInt64) (t_gatherers_e_size : Nat → Int32) (t_records_oldest : Int32) (t_records_size : Int32) (t_records_lost : Int32) (t_gatherers_e_keys : Nat → Nat → Int32) (t_gatherers_e_sums : Nat → Nat → UInt64) (t_gatherers_e_values : Nat → Nat → Int32) (t_gatherers_e_bins : Nat → Nat → Int32) (t_gatherers_e_least : Nat → Nat → UInt64) (t_gatherers_e_greatest : Nat → Nat → UInt64) (t_records_ring : Nat → UInt64) (x1 : Int32) {Q Q2 : (Int32 × Int32 × Int32 × Int32 × Int32 × (Nat → UInt64) × (Nat → UInt64) × (Nat → Int32) × Int32 × Int32 × Int32 × (Nat → Nat → Int32) × (Nat → Nat → UInt64) × (Nat → Nat → Int32) × (Nat → Nat → Int32) × (Nat → Nat → UInt64) × (Nat → Nat → UInt64) × (Nat → UInt64)) → Prop} (hQ : ∀ u, Q u → Q2 u) (hp : WP_Rn_doStep t_time t_dropped t_thread t_handedA t_handedB t_handedC t_top t_over t_failed t_met t_stack t_variables t_gatherers_e_size t_records_oldest t_records_size t_records_lost t_gatherers_e_keys t_gatherers_e_sums t_gatherers_e_values t_gatherers_e_bins t_gatherers_e_least t_gatherers_e_greatest t_records_ring x1 Q) : WP_Rn_doStep t_time t_dropped t_thread t_handedA t_handedB t_handedC t_top t_over t_failed t_met t_stack t_variables t_gatherers_e_size t_records_oldest t_records_size t_records_lost t_gatherers_e_keys t_gatherers_e_sums t_gatherers_e_values t_gatherers_e_bins t_gatherers_e_least t_gatherers_e_greatest t_records_ring x1 Q2 := by
  unfold WP_Rn_doStep at hp ⊢
  refine ⟨fun c1 => ?_, fun c1 => ?_⟩
  · have g1 := hp.1 c1
    refine ⟨fun c3 => ?_, fun c3 => ?_⟩
    · have g2 := g1.1 c3
      refine ⟨fun c5 => ?_, fun c5 => ?_⟩
      · have g3 := g2.1 c5
        refine ⟨fun c7 => ?_, fun c7 => ?_⟩
        · have g4 := g3.1 c7
          refine ⟨g4.1, ?_⟩
          intro m12 m13 m14 m15 m16 m17 m18 m19 m20 e11
          have g5 := g4.2 m12 m13 m14 m15 m16 m17 m18 m19 m20 e11
          exact hQ _ g5
        · have g4 := g3.2 c7
          refine ⟨fun c22 => ?_, fun c22 => ?_⟩
          · have g6 := g4.1 c22
            refine ⟨g6.1, ?_⟩
            intro m27 m28 m29 m30 m31 m32 m33 m34 m35 e26
            have g7 := g6.2 m27 m28 m29 m30 m31 m32 m33 m34 m35 e26
            exact hQ _ g7
          · have g6 := g4.2 c22
            refine ⟨g6.1, fun j38 hj37 hlt_ => ?_⟩
            have g8 := g6.2 j38 hj37 hlt_
            refine ⟨g8.1, ?_⟩
            intro m90 m91 m92 m93 m94 m95 m96 m97 m98 m99 m100 e89
            have g9 := g8.2 m90 m91 m92 m93 m94 m95 m96 m97 m98 m99 m100 e89
            exact hQ _ g9
      · have g3 := g2.2 c5
        refine ⟨fun c102 => ?_, fun c102 => ?_⟩
        · have g10 := g3.1 c102
          refine ⟨fun c104 => ?_, fun c104 => ?_⟩
          · have g11 := g10.1 c104
            refine ⟨g11.1, ?_⟩
            intro m109 m110 m111 m112 m113 m114 m115 m116 m117 e108
            have g12 := g11.2 m109 m110 m111 m112 m113 m114 m115 m116 m117 e108
            exact hQ _ g12
          · have g11 := g10.2 c104
            refine ⟨fun c119 => ?_, fun c119 => ?_⟩
            · have g13 := g11.1 c119
              refine ⟨g13.1, ?_⟩
              intro m124 m125 m126 m127 m128 m129 m130 m131 m132 e123
              have g14 := g13.2 m124 m125 m126 m127 m128 m129 m130 m131 m132 e123
              exact hQ _ g14
            · have g13 := g11.2 c119
              refine ⟨g13.1, fun j135 hj134 hlt_ => ?_⟩
              have g15 := g13.2 j135 hj134 hlt_
              refine ⟨g15.1, ?_⟩
              intro m187 m188 m189 m190 m191 m192 m193 m194 m195 m196 m197 e186
              have g16 := g15.2 m187 m188 m189 m190 m191 m192 m193 m194 m195 m196 m197 e186
              exact hQ _ g16
        · have g10 := g3.2 c102
          refine ⟨g10.1, ?_⟩
          intro r199 u200 e201
          have g17 := g10.2 r199 u200 e201
          refine ⟨g17.1, ?_⟩
          intro u204 e205
          have g18 := g17.2 u204 e205
          exact hQ _ g18
    · have g2 := g1.2 c3
      refine ⟨fun c207 => ?_, fun c207 => ?_⟩
      · have g19 := g2.1 c207
        refine ⟨fun c209 => ?_, fun c209 => ?_⟩
        · have g20 := g19.1 c209
          refine ⟨fun c211 => ?_, fun c211 => ?_⟩
          · have g21 := g20.1 c211
            refine ⟨g21.1, ?_⟩
            intro m216 m217 m218 m219 m220 m221 m222 m223 m224 e215
            have g22 := g21.2 m216 m217 m218 m219 m220 m221 m222 m223 m224 e215
            exact hQ _ g22
          · have g21 := g20.2 c211
            refine ⟨fun c226 => ?_, fun c226 => ?_⟩
            · have g23 := g21.1 c226
              refine ⟨g23.1, ?_⟩
              intro m231 m232 m233 m234 m235 m236 m237 m238 m239 e230
              have g24 := g23.2 m231 m232 m233 m234 m235 m236 m237 m238 m239 e230
              exact hQ _ g24
            · have g23 := g21.2 c226
              refine ⟨g23.1, fun j242 hj241 hlt_ => ?_⟩
              have g25 := g23.2 j242 hj241 hlt_
              refine ⟨g25.1, ?_⟩
              intro m294 m295 m296 m297 m298 m299 m300 m301 m302 m303 m304 e293
              have g26 := g25.2 m294 m295 m296 m297 m298 m299 m300 m301 m302 m303 m304 e293
              exact hQ _ g26
        · have g20 := g19.2 c209
          refine ⟨fun c306 => ?_, fun c306 => ?_⟩
          · have g27 := g20.1 c306
            refine ⟨fun c308 => ?_, fun c308 => ?_⟩
            · have g28 := g27.1 c308
              refine ⟨g28.1, ?_⟩
              intro m313 m314 m315 m316 m317 m318 m319 m320 m321 e312
              have g29 := g28.2 m313 m314 m315 m316 m317 m318 m319 m320 m321 e312
              exact hQ _ g29
            · have g28 := g27.2 c308
              refine ⟨fun c323 => ?_, fun c323 => ?_⟩
              · have g30 := g28.1 c323
                refine ⟨g30.1, ?_⟩
                intro m328 m329 m330 m331 m332 m333 m334 m335 m336 e327
                have g31 := g30.2 m328 m329 m330 m331 m332 m333 m334 m335 m336 e327
                exact hQ _ g31
              · have g30 := g28.2 c323
                refine ⟨g30.1, fun j339 hj338 hlt_ => ?_⟩
                have g32 := g30.2 j339 hj338 hlt_
                refine ⟨g32.1, ?_⟩
                intro m391 m392 m393 m394 m395 m396 m397 m398 m399 m400 m401 e390
                have g33 := g32.2 m391 m392 m393 m394 m395 m396 m397 m398 m399 m400 m401 e390
                exact hQ _ g33
          · have g27 := g20.2 c306
            refine ⟨g27.1, ?_⟩
            intro r403 u404 e405
            have g34 := g27.2 r403 u404 e405
            refine ⟨g34.1, ?_⟩
            intro u408 e409
            have g35 := g34.2 u408 e409
            exact hQ _ g35
      · have g19 := g2.2 c207
        refine ⟨g19.1, ?_⟩
        intro r411 e413
        have g36 := g19.2 r411 e413
        refine ⟨g36.1, ?_⟩
        intro m418 m419 e417
        have g37 := g36.2 m418 m419 e417
        exact hQ _ g37
  · have g1 := hp.2 c1
    refine ⟨g1.1, ?_⟩
    intro m424 m425 e423
    have g38 := g1.2 m424 m425 e423
    exact hQ _ g38
set_option maxRecDepth 100000 in
theorem qm_Rn_doStep (t_time : Int32) (t_dropped : Int32) (t_thread : Int32) (t_handedA : UInt64) (t_handedB : UInt64) (t_handedC : UInt64) (t_top : Int32) (t_over : Int32) (t_failed : Int32) (t_met : Int32) (t_stack : Nat → UInt64) (t_variables : Nat → UInt64) (t_gatherers_e_size : Nat → Int32) (t_records_oldest : Int32) (t_records_size : Int32) (t_records_lost : Int32) (t_gatherers_e_keys : Nat → Nat → Int32) (t_gatherers_e_sums : Nat → Nat → UInt64) (t_gatherers_e_values : Nat → Nat → Int32) (t_gatherers_e_bins : Nat → Nat → Int32) (t_gatherers_e_least : Nat → Nat → UInt64) (t_gatherers_e_greatest : Nat → Nat → UInt64) (t_records_ring : Nat → UInt64) (x1 : Int32) {Q : (Int32 × Int32 × Int32 × Int32 × Int32 × (Nat → UInt64) × (Nat → UInt64) × (Nat → Int32) × Int32 × Int32 × Int32 × (Nat → Nat → Int32) × (Nat → Nat → UInt64) × (Nat → Nat → Int32) × (Nat → Nat → Int32) × (Nat → Nat → UInt64) × (Nat → Nat → UInt64) × (Nat → UInt64)) → Prop} (tgt : Int32 × Int32 × Int32 × Int32 × Int32 × (Nat → UInt64) × (Nat → UInt64) × (Nat → Int32) × Int32 × Int32 × Int32 × (Nat → Nat → Int32) × (Nat → Nat → UInt64) × (Nat → Nat → Int32) × (Nat → Nat → Int32) × (Nat → Nat → UInt64) × (Nat → Nat → UInt64) × (Nat → UInt64)) (f0 : s_Rn_doStep t_time t_dropped t_thread t_handedA t_handedB t_handedC t_top t_over t_failed t_met t_stack t_variables t_gatherers_e_size t_records_oldest t_records_size t_records_lost t_gatherers_e_keys t_gatherers_e_sums t_gatherers_e_values t_gatherers_e_bins t_gatherers_e_least t_gatherers_e_greatest t_records_ring x1 = tgt) (hp : WP_Rn_doStep t_time t_dropped t_thread t_handedA t_handedB t_handedC t_top t_over t_failed t_met t_stack t_variables t_gatherers_e_size t_records_oldest t_records_size t_records_lost t_gatherers_e_keys t_gatherers_e_sums t_gatherers_e_values t_gatherers_e_bins t_gatherers_e_least t_gatherers_e_greatest t_records_ring x1 Q) : Q tgt := by
  unfold WP_Rn_doStep at hp
  unfold s_Rn_doStep at f0
  by_cases c1 : x1 < (256 : Int32)
  · have f1 := Eq.trans (Eq.symm (if_pos c1)) f0
    have g1 := hp.1 c1
    by_cases c3 : x1 < (117 : Int32)
    · have f2 := Eq.trans (Eq.symm (if_pos c3)) f1
      have g2 := g1.1 c3
      by_cases c5 : x1 < (85 : Int32)
      · have f3 := Eq.trans (Eq.symm (if_pos c5)) f2
        have g3 := g2.1 c5
        by_cases c7 : x1 < (65 : Int32)
        · have f4 := Eq.trans (Eq.symm (if_pos c7)) f3
          have g4 := g3.1 c7
          obtain ⟨m12, m13, m14, m15, m16, m17, m18, m19, m20, e11⟩ := zex9 (s_Rn_doCharacter t_time t_thread t_handedA t_handedB t_handedC t_top t_over t_failed t_met t_stack t_records_oldest t_records_size t_records_lost t_records_ring x1)
          have g5 := g4.2 m12 m13 m14 m15 m16 m17 m18 m19 m20 e11
          have f5 := Eq.trans (Eq.symm (zl2_eq e11)) f4
          have f5 := Eq.trans (Eq.symm (zl2_eq (Eq.refl (m13, m14, m15, m16, m17, m18, m19, m20)))) f5
          have f5 := Eq.trans (Eq.symm (zl2_eq (Eq.refl (m14, m15, m16, m17, m18, m19, m20)))) f5
          have f5 := Eq.trans (Eq.symm (zl2_eq (Eq.refl (m15, m16, m17, m18, m19, m20)))) f5
          have f5 := Eq.trans (Eq.symm (zl2_eq (Eq.refl (m16, m17, m18, m19, m20)))) f5
          have f5 := Eq.trans (Eq.symm (zl2_eq (Eq.refl (m17, m18, m19, m20)))) f5
          have f5 := Eq.trans (Eq.symm (zl2_eq (Eq.refl (m18, m19, m20)))) f5
          have f5 := Eq.trans (Eq.symm (zl2_eq (Eq.refl (m19, m20)))) f5
          subst f5; exact g5
        · have f4 := Eq.trans (Eq.symm (if_neg c7)) f3
          have g4 := g3.2 c7
          by_cases c22 : (68 : Int32) ≤ x1
          · have f6 := Eq.trans (Eq.symm (if_pos c22)) f4
            have g6 := g4.1 c22
            obtain ⟨m27, m28, m29, m30, m31, m32, m33, m34, m35, e26⟩ := zex9 (s_Rn_doCharacter t_time t_thread t_handedA t_handedB t_handedC t_top t_over t_failed t_met t_stack t_records_oldest t_records_size t_records_lost t_records_ring x1)
            have g7 := g6.2 m27 m28 m29 m30 m31 m32 m33 m34 m35 e26
            have f7 := Eq.trans (Eq.symm (zl2_eq e26)) f6
            have f7 := Eq.trans (Eq.symm (zl2_eq (Eq.refl (m28, m29, m30, m31, m32, m33, m34, m35)))) f7
            have f7 := Eq.trans (Eq.symm (zl2_eq (Eq.refl (m29, m30, m31, m32, m33, m34, m35)))) f7
            have f7 := Eq.trans (Eq.symm (zl2_eq (Eq.refl (m30, m31, m32, m33, m34, m35)))) f7
            have f7 := Eq.trans (Eq.symm (zl2_eq (Eq.refl (m31, m32, m33, m34, m35)))) f7
            have f7 := Eq.trans (Eq.symm (zl2_eq (Eq.refl (m32, m33, m34, m35)))) f7
            have f7 := Eq.trans (Eq.symm (zl2_eq (Eq.refl (m33, m34, m35)))) f7
            have f7 := Eq.trans (Eq.symm (zl2_eq (Eq.refl (m34, m35)))) f7
            subst f7; exact g7
          · have f6 := Eq.trans (Eq.symm (if_neg c22)) f4
            have g6 := g4.2 c22
            obtain ⟨j38, hlt_, hj37⟩ := vp_in_of g6.1 (by decide)
            have g8 := g6.2 j38 hj37 hlt_
            have f8 := Eq.trans (Eq.symm (zl1_eq (zix_cl hj37 (Nat.lt_trans hlt_ (by decide : 3 < 2 ^ 31))))) f6
            obtain ⟨m90, m91, m92, m93, m94, m95, m96, m97, m98, m99, m100, e89⟩ := zex11 (s_Rn_gather (t_gatherers_e_size j38) (t_gatherers_e_keys j38) (t_gatherers_e_sums j38) (t_gatherers_e_values j38) (t_gatherers_e_bins j38) (t_gatherers_e_least j38) (t_gatherers_e_greatest j38) t_dropped t_top t_over t_failed t_stack)
            have g9 := g8.2 m90 m91 m92 m93 m94 m95 m96 m97 m98 m99 m100 e89
            have f9 := Eq.trans (Eq.symm (zl2_eq e89)) f8
            have f9 := Eq.trans (Eq.symm (zl2_eq (Eq.refl (m91, m92, m93, m94, m95, m96, m97, m98, m99, m100)))) f9
            have f9 := Eq.trans (Eq.symm (zl2_eq (Eq.refl (m92, m93, m94, m95, m96, m97, m98, m99, m100)))) f9
            have f9 := Eq.trans (Eq.symm (zl2_eq (Eq.refl (m93, m94, m95, m96, m97, m98, m99, m100)))) f9
            have f9 := Eq.trans (Eq.symm (zl2_eq (Eq.refl (m94, m95, m96, m97, m98, m99, m100)))) f9
            have f9 := Eq.trans (Eq.symm (zl2_eq (Eq.refl (m95, m96, m97, m98, m99, m100)))) f9
            have f9 := Eq.trans (Eq.symm (zl2_eq (Eq.refl (m96, m97, m98, m99, m100)))) f9
            have f9 := Eq.trans (Eq.symm (zl2_eq (Eq.refl (m97, m98, m99, m100)))) f9
            have f9 := Eq.trans (Eq.symm (zl2_eq (Eq.refl (m98, m99, m100)))) f9
            have f9 := Eq.trans (Eq.symm (zl2_eq (Eq.refl (m99, m100)))) f9
            subst f9; exact g9
      · have f3 := Eq.trans (Eq.symm (if_neg c5)) f2
        have g3 := g2.2 c5
        by_cases c102 : (91 : Int32) ≤ x1
        · have f10 := Eq.trans (Eq.symm (if_pos c102)) f3
          have g10 := g3.1 c102
          by_cases c104 : x1 < (65 : Int32)
          · have f11 := Eq.trans (Eq.symm (if_pos c104)) f10
            have g11 := g10.1 c104
            obtain ⟨m109, m110, m111, m112, m113, m114, m115, m116, m117, e108⟩ := zex9 (s_Rn_doCharacter t_time t_thread t_handedA t_handedB t_handedC t_top t_over t_failed t_met t_stack t_records_oldest t_records_size t_records_lost t_records_ring x1)
            have g12 := g11.2 m109 m110 m111 m112 m113 m114 m115 m116 m117 e108
            have f12 := Eq.trans (Eq.symm (zl2_eq e108)) f11
            have f12 := Eq.trans (Eq.symm (zl2_eq (Eq.refl (m110, m111, m112, m113, m114, m115, m116, m117)))) f12
            have f12 := Eq.trans (Eq.symm (zl2_eq (Eq.refl (m111, m112, m113, m114, m115, m116, m117)))) f12
            have f12 := Eq.trans (Eq.symm (zl2_eq (Eq.refl (m112, m113, m114, m115, m116, m117)))) f12
            have f12 := Eq.trans (Eq.symm (zl2_eq (Eq.refl (m113, m114, m115, m116, m117)))) f12
            have f12 := Eq.trans (Eq.symm (zl2_eq (Eq.refl (m114, m115, m116, m117)))) f12
            have f12 := Eq.trans (Eq.symm (zl2_eq (Eq.refl (m115, m116, m117)))) f12
            have f12 := Eq.trans (Eq.symm (zl2_eq (Eq.refl (m116, m117)))) f12
            subst f12; exact g12
          · have f11 := Eq.trans (Eq.symm (if_neg c104)) f10
            have g11 := g10.2 c104
            by_cases c119 : (68 : Int32) ≤ x1
            · have f13 := Eq.trans (Eq.symm (if_pos c119)) f11
              have g13 := g11.1 c119
              obtain ⟨m124, m125, m126, m127, m128, m129, m130, m131, m132, e123⟩ := zex9 (s_Rn_doCharacter t_time t_thread t_handedA t_handedB t_handedC t_top t_over t_failed t_met t_stack t_records_oldest t_records_size t_records_lost t_records_ring x1)
              have g14 := g13.2 m124 m125 m126 m127 m128 m129 m130 m131 m132 e123
              have f14 := Eq.trans (Eq.symm (zl2_eq e123)) f13
              have f14 := Eq.trans (Eq.symm (zl2_eq (Eq.refl (m125, m126, m127, m128, m129, m130, m131, m132)))) f14
              have f14 := Eq.trans (Eq.symm (zl2_eq (Eq.refl (m126, m127, m128, m129, m130, m131, m132)))) f14
              have f14 := Eq.trans (Eq.symm (zl2_eq (Eq.refl (m127, m128, m129, m130, m131, m132)))) f14
              have f14 := Eq.trans (Eq.symm (zl2_eq (Eq.refl (m128, m129, m130, m131, m132)))) f14
              have f14 := Eq.trans (Eq.symm (zl2_eq (Eq.refl (m129, m130, m131, m132)))) f14
              have f14 := Eq.trans (Eq.symm (zl2_eq (Eq.refl (m130, m131, m132)))) f14
              have f14 := Eq.trans (Eq.symm (zl2_eq (Eq.refl (m131, m132)))) f14
              subst f14; exact g14
            · have f13 := Eq.trans (Eq.symm (if_neg c119)) f11
              have g13 := g11.2 c119
              obtain ⟨j135, hlt_, hj134⟩ := vp_in_of g13.1 (by decide)
              have g15 := g13.2 j135 hj134 hlt_
              have f15 := Eq.trans (Eq.symm (zl1_eq (zix_cl hj134 (Nat.lt_trans hlt_ (by decide : 3 < 2 ^ 31))))) f13
              obtain ⟨m187, m188, m189, m190, m191, m192, m193, m194, m195, m196, m197, e186⟩ := zex11 (s_Rn_gather (t_gatherers_e_size j135) (t_gatherers_e_keys j135) (t_gatherers_e_sums j135) (t_gatherers_e_values j135) (t_gatherers_e_bins j135) (t_gatherers_e_least j135) (t_gatherers_e_greatest j135) t_dropped t_top t_over t_failed t_stack)
              have g16 := g15.2 m187 m188 m189 m190 m191 m192 m193 m194 m195 m196 m197 e186
              have f16 := Eq.trans (Eq.symm (zl2_eq e186)) f15
              have f16 := Eq.trans (Eq.symm (zl2_eq (Eq.refl (m188, m189, m190, m191, m192, m193, m194, m195, m196, m197)))) f16
              have f16 := Eq.trans (Eq.symm (zl2_eq (Eq.refl (m189, m190, m191, m192, m193, m194, m195, m196, m197)))) f16
              have f16 := Eq.trans (Eq.symm (zl2_eq (Eq.refl (m190, m191, m192, m193, m194, m195, m196, m197)))) f16
              have f16 := Eq.trans (Eq.symm (zl2_eq (Eq.refl (m191, m192, m193, m194, m195, m196, m197)))) f16
              have f16 := Eq.trans (Eq.symm (zl2_eq (Eq.refl (m192, m193, m194, m195, m196, m197)))) f16
              have f16 := Eq.trans (Eq.symm (zl2_eq (Eq.refl (m193, m194, m195, m196, m197)))) f16
              have f16 := Eq.trans (Eq.symm (zl2_eq (Eq.refl (m194, m195, m196, m197)))) f16
              have f16 := Eq.trans (Eq.symm (zl2_eq (Eq.refl (m195, m196, m197)))) f16
              have f16 := Eq.trans (Eq.symm (zl2_eq (Eq.refl (m196, m197)))) f16
              subst f16; exact g16
        · have f10 := Eq.trans (Eq.symm (if_neg c102)) f3
          have g10 := g3.2 c102
          obtain ⟨r199, u200, e201⟩ := zex2 (s_Rn_pop t_top t_stack)
          have g17 := g10.2 r199 u200 e201
          have f17 := Eq.trans (Eq.symm (zl2_eq e201)) f10
          obtain ⟨u204, e205⟩ := zex1 (s_Rn_set t_thread t_variables (x1 - (85 : Int32)) r199)
          have g18 := g17.2 u204 e205
          have f18 := Eq.trans (Eq.symm (zl1_eq e205)) f17
          subst f18; exact g18
    · have f2 := Eq.trans (Eq.symm (if_neg c3)) f1
      have g2 := g1.2 c3
      by_cases c207 : (122 : Int32) < x1
      · have f19 := Eq.trans (Eq.symm (if_pos c207)) f2
        have g19 := g2.1 c207
        by_cases c209 : x1 < (85 : Int32)
        · have f20 := Eq.trans (Eq.symm (if_pos c209)) f19
          have g20 := g19.1 c209
          by_cases c211 : x1 < (65 : Int32)
          · have f21 := Eq.trans (Eq.symm (if_pos c211)) f20
            have g21 := g20.1 c211
            obtain ⟨m216, m217, m218, m219, m220, m221, m222, m223, m224, e215⟩ := zex9 (s_Rn_doCharacter t_time t_thread t_handedA t_handedB t_handedC t_top t_over t_failed t_met t_stack t_records_oldest t_records_size t_records_lost t_records_ring x1)
            have g22 := g21.2 m216 m217 m218 m219 m220 m221 m222 m223 m224 e215
            have f22 := Eq.trans (Eq.symm (zl2_eq e215)) f21
            have f22 := Eq.trans (Eq.symm (zl2_eq (Eq.refl (m217, m218, m219, m220, m221, m222, m223, m224)))) f22
            have f22 := Eq.trans (Eq.symm (zl2_eq (Eq.refl (m218, m219, m220, m221, m222, m223, m224)))) f22
            have f22 := Eq.trans (Eq.symm (zl2_eq (Eq.refl (m219, m220, m221, m222, m223, m224)))) f22
            have f22 := Eq.trans (Eq.symm (zl2_eq (Eq.refl (m220, m221, m222, m223, m224)))) f22
            have f22 := Eq.trans (Eq.symm (zl2_eq (Eq.refl (m221, m222, m223, m224)))) f22
            have f22 := Eq.trans (Eq.symm (zl2_eq (Eq.refl (m222, m223, m224)))) f22
            have f22 := Eq.trans (Eq.symm (zl2_eq (Eq.refl (m223, m224)))) f22
            subst f22; exact g22
          · have f21 := Eq.trans (Eq.symm (if_neg c211)) f20
            have g21 := g20.2 c211
            by_cases c226 : (68 : Int32) ≤ x1
            · have f23 := Eq.trans (Eq.symm (if_pos c226)) f21
              have g23 := g21.1 c226
              obtain ⟨m231, m232, m233, m234, m235, m236, m237, m238, m239, e230⟩ := zex9 (s_Rn_doCharacter t_time t_thread t_handedA t_handedB t_handedC t_top t_over t_failed t_met t_stack t_records_oldest t_records_size t_records_lost t_records_ring x1)
              have g24 := g23.2 m231 m232 m233 m234 m235 m236 m237 m238 m239 e230
              have f24 := Eq.trans (Eq.symm (zl2_eq e230)) f23
              have f24 := Eq.trans (Eq.symm (zl2_eq (Eq.refl (m232, m233, m234, m235, m236, m237, m238, m239)))) f24
              have f24 := Eq.trans (Eq.symm (zl2_eq (Eq.refl (m233, m234, m235, m236, m237, m238, m239)))) f24
              have f24 := Eq.trans (Eq.symm (zl2_eq (Eq.refl (m234, m235, m236, m237, m238, m239)))) f24
              have f24 := Eq.trans (Eq.symm (zl2_eq (Eq.refl (m235, m236, m237, m238, m239)))) f24
              have f24 := Eq.trans (Eq.symm (zl2_eq (Eq.refl (m236, m237, m238, m239)))) f24
              have f24 := Eq.trans (Eq.symm (zl2_eq (Eq.refl (m237, m238, m239)))) f24
              have f24 := Eq.trans (Eq.symm (zl2_eq (Eq.refl (m238, m239)))) f24
              subst f24; exact g24
            · have f23 := Eq.trans (Eq.symm (if_neg c226)) f21
              have g23 := g21.2 c226
              obtain ⟨j242, hlt_, hj241⟩ := vp_in_of g23.1 (by decide)
              have g25 := g23.2 j242 hj241 hlt_
              have f25 := Eq.trans (Eq.symm (zl1_eq (zix_cl hj241 (Nat.lt_trans hlt_ (by decide : 3 < 2 ^ 31))))) f23
              obtain ⟨m294, m295, m296, m297, m298, m299, m300, m301, m302, m303, m304, e293⟩ := zex11 (s_Rn_gather (t_gatherers_e_size j242) (t_gatherers_e_keys j242) (t_gatherers_e_sums j242) (t_gatherers_e_values j242) (t_gatherers_e_bins j242) (t_gatherers_e_least j242) (t_gatherers_e_greatest j242) t_dropped t_top t_over t_failed t_stack)
              have g26 := g25.2 m294 m295 m296 m297 m298 m299 m300 m301 m302 m303 m304 e293
              have f26 := Eq.trans (Eq.symm (zl2_eq e293)) f25
              have f26 := Eq.trans (Eq.symm (zl2_eq (Eq.refl (m295, m296, m297, m298, m299, m300, m301, m302, m303, m304)))) f26
              have f26 := Eq.trans (Eq.symm (zl2_eq (Eq.refl (m296, m297, m298, m299, m300, m301, m302, m303, m304)))) f26
              have f26 := Eq.trans (Eq.symm (zl2_eq (Eq.refl (m297, m298, m299, m300, m301, m302, m303, m304)))) f26
              have f26 := Eq.trans (Eq.symm (zl2_eq (Eq.refl (m298, m299, m300, m301, m302, m303, m304)))) f26
              have f26 := Eq.trans (Eq.symm (zl2_eq (Eq.refl (m299, m300, m301, m302, m303, m304)))) f26
              have f26 := Eq.trans (Eq.symm (zl2_eq (Eq.refl (m300, m301, m302, m303, m304)))) f26
              have f26 := Eq.trans (Eq.symm (zl2_eq (Eq.refl (m301, m302, m303, m304)))) f26
              have f26 := Eq.trans (Eq.symm (zl2_eq (Eq.refl (m302, m303, m304)))) f26
              have f26 := Eq.trans (Eq.symm (zl2_eq (Eq.refl (m303, m304)))) f26
              subst f26; exact g26
        · have f20 := Eq.trans (Eq.symm (if_neg c209)) f19
          have g20 := g19.2 c209
          by_cases c306 : (91 : Int32) ≤ x1
          · have f27 := Eq.trans (Eq.symm (if_pos c306)) f20
            have g27 := g20.1 c306
            by_cases c308 : x1 < (65 : Int32)
            · have f28 := Eq.trans (Eq.symm (if_pos c308)) f27
              have g28 := g27.1 c308
              obtain ⟨m313, m314, m315, m316, m317, m318, m319, m320, m321, e312⟩ := zex9 (s_Rn_doCharacter t_time t_thread t_handedA t_handedB t_handedC t_top t_over t_failed t_met t_stack t_records_oldest t_records_size t_records_lost t_records_ring x1)
              have g29 := g28.2 m313 m314 m315 m316 m317 m318 m319 m320 m321 e312
              have f29 := Eq.trans (Eq.symm (zl2_eq e312)) f28
              have f29 := Eq.trans (Eq.symm (zl2_eq (Eq.refl (m314, m315, m316, m317, m318, m319, m320, m321)))) f29
              have f29 := Eq.trans (Eq.symm (zl2_eq (Eq.refl (m315, m316, m317, m318, m319, m320, m321)))) f29
              have f29 := Eq.trans (Eq.symm (zl2_eq (Eq.refl (m316, m317, m318, m319, m320, m321)))) f29
              have f29 := Eq.trans (Eq.symm (zl2_eq (Eq.refl (m317, m318, m319, m320, m321)))) f29
              have f29 := Eq.trans (Eq.symm (zl2_eq (Eq.refl (m318, m319, m320, m321)))) f29
              have f29 := Eq.trans (Eq.symm (zl2_eq (Eq.refl (m319, m320, m321)))) f29
              have f29 := Eq.trans (Eq.symm (zl2_eq (Eq.refl (m320, m321)))) f29
              subst f29; exact g29
            · have f28 := Eq.trans (Eq.symm (if_neg c308)) f27
              have g28 := g27.2 c308
              by_cases c323 : (68 : Int32) ≤ x1
              · have f30 := Eq.trans (Eq.symm (if_pos c323)) f28
                have g30 := g28.1 c323
                obtain ⟨m328, m329, m330, m331, m332, m333, m334, m335, m336, e327⟩ := zex9 (s_Rn_doCharacter t_time t_thread t_handedA t_handedB t_handedC t_top t_over t_failed t_met t_stack t_records_oldest t_records_size t_records_lost t_records_ring x1)
                have g31 := g30.2 m328 m329 m330 m331 m332 m333 m334 m335 m336 e327
                have f31 := Eq.trans (Eq.symm (zl2_eq e327)) f30
                have f31 := Eq.trans (Eq.symm (zl2_eq (Eq.refl (m329, m330, m331, m332, m333, m334, m335, m336)))) f31
                have f31 := Eq.trans (Eq.symm (zl2_eq (Eq.refl (m330, m331, m332, m333, m334, m335, m336)))) f31
                have f31 := Eq.trans (Eq.symm (zl2_eq (Eq.refl (m331, m332, m333, m334, m335, m336)))) f31
                have f31 := Eq.trans (Eq.symm (zl2_eq (Eq.refl (m332, m333, m334, m335, m336)))) f31
                have f31 := Eq.trans (Eq.symm (zl2_eq (Eq.refl (m333, m334, m335, m336)))) f31
                have f31 := Eq.trans (Eq.symm (zl2_eq (Eq.refl (m334, m335, m336)))) f31
                have f31 := Eq.trans (Eq.symm (zl2_eq (Eq.refl (m335, m336)))) f31
                subst f31; exact g31
              · have f30 := Eq.trans (Eq.symm (if_neg c323)) f28
                have g30 := g28.2 c323
                obtain ⟨j339, hlt_, hj338⟩ := vp_in_of g30.1 (by decide)
                have g32 := g30.2 j339 hj338 hlt_
                have f32 := Eq.trans (Eq.symm (zl1_eq (zix_cl hj338 (Nat.lt_trans hlt_ (by decide : 3 < 2 ^ 31))))) f30
                obtain ⟨m391, m392, m393, m394, m395, m396, m397, m398, m399, m400, m401, e390⟩ := zex11 (s_Rn_gather (t_gatherers_e_size j339) (t_gatherers_e_keys j339) (t_gatherers_e_sums j339) (t_gatherers_e_values j339) (t_gatherers_e_bins j339) (t_gatherers_e_least j339) (t_gatherers_e_greatest j339) t_dropped t_top t_over t_failed t_stack)
                have g33 := g32.2 m391 m392 m393 m394 m395 m396 m397 m398 m399 m400 m401 e390
                have f33 := Eq.trans (Eq.symm (zl2_eq e390)) f32
                have f33 := Eq.trans (Eq.symm (zl2_eq (Eq.refl (m392, m393, m394, m395, m396, m397, m398, m399, m400, m401)))) f33
                have f33 := Eq.trans (Eq.symm (zl2_eq (Eq.refl (m393, m394, m395, m396, m397, m398, m399, m400, m401)))) f33
                have f33 := Eq.trans (Eq.symm (zl2_eq (Eq.refl (m394, m395, m396, m397, m398, m399, m400, m401)))) f33
                have f33 := Eq.trans (Eq.symm (zl2_eq (Eq.refl (m395, m396, m397, m398, m399, m400, m401)))) f33
                have f33 := Eq.trans (Eq.symm (zl2_eq (Eq.refl (m396, m397, m398, m399, m400, m401)))) f33
                have f33 := Eq.trans (Eq.symm (zl2_eq (Eq.refl (m397, m398, m399, m400, m401)))) f33
                have f33 := Eq.trans (Eq.symm (zl2_eq (Eq.refl (m398, m399, m400, m401)))) f33
                have f33 := Eq.trans (Eq.symm (zl2_eq (Eq.refl (m399, m400, m401)))) f33
                have f33 := Eq.trans (Eq.symm (zl2_eq (Eq.refl (m400, m401)))) f33
                subst f33; exact g33
          · have f27 := Eq.trans (Eq.symm (if_neg c306)) f20
            have g27 := g20.2 c306
            obtain ⟨r403, u404, e405⟩ := zex2 (s_Rn_pop t_top t_stack)
            have g34 := g27.2 r403 u404 e405
            have f34 := Eq.trans (Eq.symm (zl2_eq e405)) f27
            obtain ⟨u408, e409⟩ := zex1 (s_Rn_set t_thread t_variables (x1 - (85 : Int32)) r403)
            have g35 := g34.2 u408 e409
            have f35 := Eq.trans (Eq.symm (zl1_eq e409)) f34
            subst f35; exact g35
      · have f19 := Eq.trans (Eq.symm (if_neg c207)) f2
        have g19 := g2.2 c207
        obtain ⟨r411, e413⟩ := zex1 (s_Rn_get t_variables (x1 - (117 : Int32)) t_thread)
        have g36 := g19.2 r411 e413
        have f36 := Eq.trans (Eq.symm (zl1_eq e413)) f19
        obtain ⟨m418, m419, e417⟩ := zex2 (s_Rn_push t_top t_stack r411)
        have g37 := g36.2 m418 m419 e417
        have f37 := Eq.trans (Eq.symm (zl2_eq e417)) f36
        subst f37; exact g37
  · have f1 := Eq.trans (Eq.symm (if_neg c1)) f0
    have g1 := hp.2 c1
    obtain ⟨m424, m425, e423⟩ := zex2 (s_Rn_push t_top t_stack (FP.i2d (x1 - (256 : Int32))))
    have g38 := g1.2 m424 m425 e423
    have f38 := Eq.trans (Eq.symm (zl2_eq e423)) f1
    subst f38; exact g38
theorem e_Rn_doStep (t_time : Int32) (t_dropped : Int32) (t_thread : Int32) (t_handedA : UInt64) (t_handedB : UInt64) (t_handedC : UInt64) (t_top : Int32) (t_over : Int32) (t_failed : Int32) (t_met : Int32) (t_stack : Nat → UInt64) (t_variables : Nat → UInt64) (t_gatherers_e_size : Nat → Int32) (t_records_oldest : Int32) (t_records_size : Int32) (t_records_lost : Int32) (t_gatherers_e_keys : Nat → Nat → Int32) (t_gatherers_e_sums : Nat → Nat → UInt64) (t_gatherers_e_values : Nat → Nat → Int32) (t_gatherers_e_bins : Nat → Nat → Int32) (t_gatherers_e_least : Nat → Nat → UInt64) (t_gatherers_e_greatest : Nat → Nat → UInt64) (t_records_ring : Nat → UInt64) (x1 : Int32) {Q : (Int32 × Int32 × Int32 × Int32 × Int32 × (Nat → UInt64) × (Nat → UInt64) × (Nat → Int32) × Int32 × Int32 × Int32 × (Nat → Nat → Int32) × (Nat → Nat → UInt64) × (Nat → Nat → Int32) × (Nat → Nat → Int32) × (Nat → Nat → UInt64) × (Nat → Nat → UInt64) × (Nat → UInt64)) → Prop} (hp : WP_Rn_doStep t_time t_dropped t_thread t_handedA t_handedB t_handedC t_top t_over t_failed t_met t_stack t_variables t_gatherers_e_size t_records_oldest t_records_size t_records_lost t_gatherers_e_keys t_gatherers_e_sums t_gatherers_e_values t_gatherers_e_bins t_gatherers_e_least t_gatherers_e_greatest t_records_ring x1 Q) : p_Rn_doStep t_time t_dropped t_thread t_handedA t_handedB t_handedC t_top t_over t_failed t_met t_stack t_variables t_gatherers_e_size t_records_oldest t_records_size t_records_lost t_gatherers_e_keys t_gatherers_e_sums t_gatherers_e_values t_gatherers_e_bins t_gatherers_e_least t_gatherers_e_greatest t_records_ring x1 ∧ Q (s_Rn_doStep t_time t_dropped t_thread t_handedA t_handedB t_handedC t_top t_over t_failed t_met t_stack t_variables t_gatherers_e_size t_records_oldest t_records_size t_records_lost t_gatherers_e_keys t_gatherers_e_sums t_gatherers_e_values t_gatherers_e_bins t_gatherers_e_least t_gatherers_e_greatest t_records_ring x1) := ⟨pm_Rn_doStep t_time t_dropped t_thread t_handedA t_handedB t_handedC t_top t_over t_failed t_met t_stack t_variables t_gatherers_e_size t_records_oldest t_records_size t_records_lost t_gatherers_e_keys t_gatherers_e_sums t_gatherers_e_values t_gatherers_e_bins t_gatherers_e_least t_gatherers_e_greatest t_records_ring x1 (fun _ _ => trivial) hp, qm_Rn_doStep t_time t_dropped t_thread t_handedA t_handedB t_handedC t_top t_over t_failed t_met t_stack t_variables t_gatherers_e_size t_records_oldest t_records_size t_records_lost t_gatherers_e_keys t_gatherers_e_sums t_gatherers_e_values t_gatherers_e_bins t_gatherers_e_least t_gatherers_e_greatest t_records_ring x1 _ rfl hp⟩
set_option maxRecDepth 100000 in
theorem pm_Rn_run_L33 {Q Q2 : Int32 → (Int32 × Int32 × Int32 × Int32 × Int32 × Int32 × Int32 × (Nat → UInt64) × (Nat → UInt64) × (Nat → Int32) × Int32 × Int32 × Int32 × (Nat → Nat → Int32) × (Nat → Nat → UInt64) × (Nat → Nat → Int32) × (Nat → Nat → Int32) × (Nat → Nat → UInt64) × (Nat → Nat → UInt64) × (Nat → UInt64)) → Prop} (hQ : ∀ r u, Q r u → Q2 r u) : ∀ (n : Nat) (y2 : Int32) (p1_length : Int32) (p1_conditional : Int32) (p1_failures : Int32) (p1_meetings : Int32) (p1_steps : Nat → Int32) (t_time : Int32) (t_dropped : Int32) (t_thread : Int32) (t_handedA : UInt64) (t_handedB : UInt64) (t_handedC : UInt64) (t_top : Int32) (t_over : Int32) (t_failed : Int32) (t_met : Int32) (t_stack : Nat → UInt64) (t_variables : Nat → UInt64) (t_gatherers_e_size : Nat → Int32) (t_records_oldest : Int32) (t_records_size : Int32) (t_records_lost : Int32) (t_gatherers_e_keys : Nat → Nat → Int32) (t_gatherers_e_sums : Nat → Nat → UInt64) (t_gatherers_e_values : Nat → Nat → Int32) (t_gatherers_e_bins : Nat → Nat → Int32) (t_gatherers_e_least : Nat → Nat → UInt64) (t_gatherers_e_greatest : Nat → Nat → UInt64) (t_records_ring : Nat → UInt64), WP_Rn_run_L33 n y2 p1_length p1_conditional p1_failures p1_meetings p1_steps t_time t_dropped t_thread t_handedA t_handedB t_handedC t_top t_over t_failed t_met t_stack t_variables t_gatherers_e_size t_records_oldest t_records_size t_records_lost t_gatherers_e_keys t_gatherers_e_sums t_gatherers_e_values t_gatherers_e_bins t_gatherers_e_least t_gatherers_e_greatest t_records_ring Q → WP_Rn_run_L33 n y2 p1_length p1_conditional p1_failures p1_meetings p1_steps t_time t_dropped t_thread t_handedA t_handedB t_handedC t_top t_over t_failed t_met t_stack t_variables t_gatherers_e_size t_records_oldest t_records_size t_records_lost t_gatherers_e_keys t_gatherers_e_sums t_gatherers_e_values t_gatherers_e_bins t_gatherers_e_least t_gatherers_e_greatest t_records_ring Q2 := by
  intro n
  induction n with
  | zero => intros; contradiction
  | succ n ih =>
    intro y2 p1_length p1_conditional p1_failures p1_meetings p1_steps t_time t_dropped t_thread t_handedA t_handedB t_handedC t_top t_over t_failed t_met t_stack t_variables t_gatherers_e_size t_records_oldest t_records_size t_records_lost t_gatherers_e_keys t_gatherers_e_sums t_gatherers_e_values t_gatherers_e_bins t_gatherers_e_least t_gatherers_e_greatest t_records_ring hp
    unfold WP_Rn_run_L33 at hp ⊢
    refine ⟨fun c3 => ?_, fun c3 => ?_⟩
    · have g1 := hp.1 c3
      refine ⟨fun c5 => ?_, fun c5 => ?_⟩
      · have g2 := g1.1 c5
        refine ⟨fun c7 => ?_, fun c7 => ?_⟩
        · have g3 := g2.1 c7
          refine ⟨g3.1, ?_⟩
          have g4 := g3.2
          exact hQ _ _ g4
        · have g3 := g2.2 c7
          refine ⟨g3.1, ?_⟩
          have g5 := g3.2
          exact hQ _ _ g5
      · have g2 := g1.2 c5
        refine ⟨fun c9 => ?_, fun c9 => ?_⟩
        · have g6 := g2.1 c9
          refine ⟨g6.1, ?_⟩
          have g7 := g6.2
          exact hQ _ _ g7
        · have g6 := g2.2 c9
          refine ⟨g6.1, ?_⟩
          have g8 := g6.2
          exact hQ _ _ g8
    · have g1 := hp.2 c3
      refine ⟨fun c11 => ?_, fun c11 => ?_⟩
      · have g9 := g1.1 c11
        refine ⟨fun c13 => ?_, fun c13 => ?_⟩
        · have g10 := g9.1 c13
          refine ⟨fun c15 => ?_, fun c15 => ?_⟩
          · have g11 := g10.1 c15
            refine ⟨g11.1, ?_⟩
            have g12 := g11.2
            exact hQ _ _ g12
          · have g11 := g10.2 c15
            refine ⟨g11.1, ?_⟩
            have g13 := g11.2
            exact hQ _ _ g13
        · have g10 := g9.2 c13
          refine ⟨fun c17 => ?_, fun c17 => ?_⟩
          · have g14 := g10.1 c17
            refine ⟨g14.1, ?_⟩
            have g15 := g14.2
            exact hQ _ _ g15
          · have g14 := g10.2 c17
            refine ⟨g14.1, ?_⟩
            have g16 := g14.2
            exact hQ _ _ g16
      · have g9 := g1.2 c11
        refine ⟨fun c19 => ?_, fun c19 => ?_⟩
        · have g17 := g9.1 c19
          refine ⟨fun c21 => ?_, fun c21 => ?_⟩
          · have g18 := g17.1 c21
            refine ⟨fun c23 => ?_, fun c23 => ?_⟩
            · have g19 := g18.1 c23
              refine ⟨g19.1, ?_⟩
              have g20 := g19.2
              exact hQ _ _ g20
            · have g19 := g18.2 c23
              refine ⟨g19.1, ?_⟩
              have g21 := g19.2
              exact hQ _ _ g21
          · have g18 := g17.2 c21
            refine ⟨fun c25 => ?_, fun c25 => ?_⟩
            · have g22 := g18.1 c25
              refine ⟨g22.1, ?_⟩
              have g23 := g22.2
              exact hQ _ _ g23
            · have g22 := g18.2 c25
              refine ⟨g22.1, ?_⟩
              have g24 := g22.2
              exact hQ _ _ g24
        · have g17 := g9.2 c19
          refine ⟨g17.1, ?_⟩
          have g25 := g17.2
          refine ⟨g25.1, ?_⟩
          intro m31 m32 m33 m34 m35 m36 m37 m38 m39 m40 m41 m42 m43 m44 m45 m46 m47 m48 e30
          have g26 := g25.2 m31 m32 m33 m34 m35 m36 m37 m38 m39 m40 m41 m42 m43 m44 m45 m46 m47 m48 e30
          exact ih _ _ _ _ _ _ _ _ _ _ _ _ _ _ _ _ _ _ _ _ _ _ _ _ _ _ _ _ _ g26
set_option maxRecDepth 100000 in
theorem qm_Rn_run_L33 {Q : Int32 → (Int32 × Int32 × Int32 × Int32 × Int32 × Int32 × Int32 × (Nat → UInt64) × (Nat → UInt64) × (Nat → Int32) × Int32 × Int32 × Int32 × (Nat → Nat → Int32) × (Nat → Nat → UInt64) × (Nat → Nat → Int32) × (Nat → Nat → Int32) × (Nat → Nat → UInt64) × (Nat → Nat → UInt64) × (Nat → UInt64)) → Prop} : ∀ (n : Nat) (y2 : Int32) (p1_length : Int32) (p1_conditional : Int32) (p1_failures : Int32) (p1_meetings : Int32) (p1_steps : Nat → Int32) (t_time : Int32) (t_dropped : Int32) (t_thread : Int32) (t_handedA : UInt64) (t_handedB : UInt64) (t_handedC : UInt64) (t_top : Int32) (t_over : Int32) (t_failed : Int32) (t_met : Int32) (t_stack : Nat → UInt64) (t_variables : Nat → UInt64) (t_gatherers_e_size : Nat → Int32) (t_records_oldest : Int32) (t_records_size : Int32) (t_records_lost : Int32) (t_gatherers_e_keys : Nat → Nat → Int32) (t_gatherers_e_sums : Nat → Nat → UInt64) (t_gatherers_e_values : Nat → Nat → Int32) (t_gatherers_e_bins : Nat → Nat → Int32) (t_gatherers_e_least : Nat → Nat → UInt64) (t_gatherers_e_greatest : Nat → Nat → UInt64) (t_records_ring : Nat → UInt64) (tgt : Int32 × Int32 × Int32 × Int32 × Int32 × Int32 × Int32 × Int32 × (Nat → UInt64) × (Nat → UInt64) × (Nat → Int32) × Int32 × Int32 × Int32 × (Nat → Nat → Int32) × (Nat → Nat → UInt64) × (Nat → Nat → Int32) × (Nat → Nat → Int32) × (Nat → Nat → UInt64) × (Nat → Nat → UInt64) × (Nat → UInt64)), s_Rn_run_L33 n y2 p1_length p1_conditional p1_failures p1_meetings p1_steps t_time t_dropped t_thread t_handedA t_handedB t_handedC t_top t_over t_failed t_met t_stack t_variables t_gatherers_e_size t_records_oldest t_records_size t_records_lost t_gatherers_e_keys t_gatherers_e_sums t_gatherers_e_values t_gatherers_e_bins t_gatherers_e_least t_gatherers_e_greatest t_records_ring = tgt → WP_Rn_run_L33 n y2 p1_length p1_conditional p1_failures p1_meetings p1_steps t_time t_dropped t_thread t_handedA t_handedB t_handedC t_top t_over t_failed t_met t_stack t_variables t_gatherers_e_size t_records_oldest t_records_size t_records_lost t_gatherers_e_keys t_gatherers_e_sums t_gatherers_e_values t_gatherers_e_bins t_gatherers_e_least t_gatherers_e_greatest t_records_ring Q → Q tgt.1 tgt.2 := by
  intro n
  induction n with
  | zero => intros; contradiction
  | succ n ih =>
    intro y2 p1_length p1_conditional p1_failures p1_meetings p1_steps t_time t_dropped t_thread t_handedA t_handedB t_handedC t_top t_over t_failed t_met t_stack t_variables t_gatherers_e_size t_records_oldest t_records_size t_records_lost t_gatherers_e_keys t_gatherers_e_sums t_gatherers_e_values t_gatherers_e_bins t_gatherers_e_least t_gatherers_e_greatest t_records_ring tgt f0 hp
    unfold WP_Rn_run_L33 at hp
    unfold s_Rn_run_L33 at f0
    by_cases c3 : p1_length ≤ y2
    · have f1 := Eq.trans (Eq.symm (if_pos c3)) f0
      have g1 := hp.1 c3
      by_cases c5 : t_failed = 0
      · have f2 := Eq.trans (Eq.symm (if_pos c5)) f1
        have g2 := g1.1 c5
        by_cases c7 : t_met = 0
        · have f3 := Eq.trans (Eq.symm (if_pos c7)) f2
          have g3 := g2.1 c7
          have g4 := g3.2
          subst f3; exact g4
        · have f3 := Eq.trans (Eq.symm (if_neg c7)) f2
          have g3 := g2.2 c7
          have g5 := g3.2
          subst f3; exact g5
      · have f2 := Eq.trans (Eq.symm (if_neg c5)) f1
        have g2 := g1.2 c5
        by_cases c9 : t_met = 0
        · have f6 := Eq.trans (Eq.symm (if_pos c9)) f2
          have g6 := g2.1 c9
          have g7 := g6.2
          subst f6; exact g7
        · have f6 := Eq.trans (Eq.symm (if_neg c9)) f2
          have g6 := g2.2 c9
          have g8 := g6.2
          subst f6; exact g8
    · have f1 := Eq.trans (Eq.symm (if_neg c3)) f0
      have g1 := hp.2 c3
      by_cases c11 : (48 : Int32) ≤ y2
      · have f9 := Eq.trans (Eq.symm (if_pos c11)) f1
        have g9 := g1.1 c11
        by_cases c13 : t_failed = 0
        · have f10 := Eq.trans (Eq.symm (if_pos c13)) f9
          have g10 := g9.1 c13
          by_cases c15 : t_met = 0
          · have f11 := Eq.trans (Eq.symm (if_pos c15)) f10
            have g11 := g10.1 c15
            have g12 := g11.2
            subst f11; exact g12
          · have f11 := Eq.trans (Eq.symm (if_neg c15)) f10
            have g11 := g10.2 c15
            have g13 := g11.2
            subst f11; exact g13
        · have f10 := Eq.trans (Eq.symm (if_neg c13)) f9
          have g10 := g9.2 c13
          by_cases c17 : t_met = 0
          · have f14 := Eq.trans (Eq.symm (if_pos c17)) f10
            have g14 := g10.1 c17
            have g15 := g14.2
            subst f14; exact g15
          · have f14 := Eq.trans (Eq.symm (if_neg c17)) f10
            have g14 := g10.2 c17
            have g16 := g14.2
            subst f14; exact g16
      · have f9 := Eq.trans (Eq.symm (if_neg c11)) f1
        have g9 := g1.2 c11
        by_cases c19 : t_over = 0
        · have f17 := Eq.trans (Eq.symm (if_pos c19)) f9
          have g17 := g9.2 c19
          have g18 := g17.2
          obtain ⟨m31, m32, m33, m34, m35, m36, m37, m38, m39, m40, m41, m42, m43, m44, m45, m46, m47, m48, e30⟩ := zex18 (s_Rn_doStep t_time t_dropped t_thread t_handedA t_handedB t_handedC t_top t_over t_failed t_met t_stack t_variables t_gatherers_e_size t_records_oldest t_records_size t_records_lost t_gatherers_e_keys t_gatherers_e_sums t_gatherers_e_values t_gatherers_e_bins t_gatherers_e_least t_gatherers_e_greatest t_records_ring (p1_steps y2.toNatClampNeg))
          have g19 := g18.2 m31 m32 m33 m34 m35 m36 m37 m38 m39 m40 m41 m42 m43 m44 m45 m46 m47 m48 e30
          have f19 := Eq.trans (Eq.symm (zl2_eq e30)) f17
          have f19 := Eq.trans (Eq.symm (zl2_eq (Eq.refl (m32, m33, m34, m35, m36, m37, m38, m39, m40, m41, m42, m43, m44, m45, m46, m47, m48)))) f19
          have f19 := Eq.trans (Eq.symm (zl2_eq (Eq.refl (m33, m34, m35, m36, m37, m38, m39, m40, m41, m42, m43, m44, m45, m46, m47, m48)))) f19
          have f19 := Eq.trans (Eq.symm (zl2_eq (Eq.refl (m34, m35, m36, m37, m38, m39, m40, m41, m42, m43, m44, m45, m46, m47, m48)))) f19
          have f19 := Eq.trans (Eq.symm (zl2_eq (Eq.refl (m35, m36, m37, m38, m39, m40, m41, m42, m43, m44, m45, m46, m47, m48)))) f19
          have f19 := Eq.trans (Eq.symm (zl2_eq (Eq.refl (m36, m37, m38, m39, m40, m41, m42, m43, m44, m45, m46, m47, m48)))) f19
          have f19 := Eq.trans (Eq.symm (zl2_eq (Eq.refl (m37, m38, m39, m40, m41, m42, m43, m44, m45, m46, m47, m48)))) f19
          have f19 := Eq.trans (Eq.symm (zl2_eq (Eq.refl (m38, m39, m40, m41, m42, m43, m44, m45, m46, m47, m48)))) f19
          have f19 := Eq.trans (Eq.symm (zl2_eq (Eq.refl (m39, m40, m41, m42, m43, m44, m45, m46, m47, m48)))) f19
          have f19 := Eq.trans (Eq.symm (zl2_eq (Eq.refl (m40, m41, m42, m43, m44, m45, m46, m47, m48)))) f19
          have f19 := Eq.trans (Eq.symm (zl2_eq (Eq.refl (m41, m42, m43, m44, m45, m46, m47, m48)))) f19
          have f19 := Eq.trans (Eq.symm (zl2_eq (Eq.refl (m42, m43, m44, m45, m46, m47, m48)))) f19
          have f19 := Eq.trans (Eq.symm (zl2_eq (Eq.refl (m43, m44, m45, m46, m47, m48)))) f19
          have f19 := Eq.trans (Eq.symm (zl2_eq (Eq.refl (m44, m45, m46, m47, m48)))) f19
          have f19 := Eq.trans (Eq.symm (zl2_eq (Eq.refl (m45, m46, m47, m48)))) f19
          have f19 := Eq.trans (Eq.symm (zl2_eq (Eq.refl (m46, m47, m48)))) f19
          have f19 := Eq.trans (Eq.symm (zl2_eq (Eq.refl (m47, m48)))) f19
          exact ih _ _ _ _ _ _ _ _ _ _ _ _ _ _ _ _ _ _ _ _ _ _ _ _ _ _ _ _ _ _ f19 g19
        · have f17 := Eq.trans (Eq.symm (if_neg c19)) f9
          have g17 := g9.1 c19
          by_cases c21 : t_failed = 0
          · have f20 := Eq.trans (Eq.symm (if_pos c21)) f17
            have g20 := g17.1 c21
            by_cases c23 : t_met = 0
            · have f21 := Eq.trans (Eq.symm (if_pos c23)) f20
              have g21 := g20.1 c23
              have g22 := g21.2
              subst f21; exact g22
            · have f21 := Eq.trans (Eq.symm (if_neg c23)) f20
              have g21 := g20.2 c23
              have g23 := g21.2
              subst f21; exact g23
          · have f20 := Eq.trans (Eq.symm (if_neg c21)) f17
            have g20 := g17.2 c21
            by_cases c25 : t_met = 0
            · have f24 := Eq.trans (Eq.symm (if_pos c25)) f20
              have g24 := g20.1 c25
              have g25 := g24.2
              subst f24; exact g25
            · have f24 := Eq.trans (Eq.symm (if_neg c25)) f20
              have g24 := g20.2 c25
              have g26 := g24.2
              subst f24; exact g26
set_option maxRecDepth 100000 in
theorem pm_Rn_run (p1_length : Int32) (p1_conditional : Int32) (p1_failures : Int32) (p1_meetings : Int32) (p1_steps : Nat → Int32) (t_time : Int32) (t_dropped : Int32) (t_thread : Int32) (t_handedA : UInt64) (t_handedB : UInt64) (t_handedC : UInt64) (t_top : Int32) (t_over : Int32) (t_failed : Int32) (t_met : Int32) (t_stack : Nat → UInt64) (t_variables : Nat → UInt64) (t_gatherers_e_size : Nat → Int32) (t_records_oldest : Int32) (t_records_size : Int32) (t_records_lost : Int32) (t_gatherers_e_keys : Nat → Nat → Int32) (t_gatherers_e_sums : Nat → Nat → UInt64) (t_gatherers_e_values : Nat → Nat → Int32) (t_gatherers_e_bins : Nat → Nat → Int32) (t_gatherers_e_least : Nat → Nat → UInt64) (t_gatherers_e_greatest : Nat → Nat → UInt64) (t_records_ring : Nat → UInt64) {Q Q2 : Int32 → (Int32 × Int32 × Int32 × Int32 × Int32 × Int32 × Int32 × (Nat → UInt64) × (Nat → UInt64) × (Nat → Int32) × Int32 × Int32 × Int32 × (Nat → Nat → Int32) × (Nat → Nat → UInt64) × (Nat → Nat → Int32) × (Nat → Nat → Int32) × (Nat → Nat → UInt64) × (Nat → Nat → UInt64) × (Nat → UInt64)) → Prop} (hQ : ∀ r u, Q r u → Q2 r u) (hp : WP_Rn_run p1_length p1_conditional p1_failures p1_meetings p1_steps t_time t_dropped t_thread t_handedA t_handedB t_handedC t_top t_over t_failed t_met t_stack t_variables t_gatherers_e_size t_records_oldest t_records_size t_records_lost t_gatherers_e_keys t_gatherers_e_sums t_gatherers_e_values t_gatherers_e_bins t_gatherers_e_least t_gatherers_e_greatest t_records_ring Q) : WP_Rn_run p1_length p1_conditional p1_failures p1_meetings p1_steps t_time t_dropped t_thread t_handedA t_handedB t_handedC t_top t_over t_failed t_met t_stack t_variables t_gatherers_e_size t_records_oldest t_records_size t_records_lost t_gatherers_e_keys t_gatherers_e_sums t_gatherers_e_values t_gatherers_e_bins t_gatherers_e_least t_gatherers_e_greatest t_records_ring Q2 := by
  unfold WP_Rn_run at hp ⊢
  refine ⟨fun c1 => ?_, fun c1 => ?_⟩
  · have g1 := hp.1 c1
    exact pm_Rn_run_L33 hQ _ _ _ _ _ _ _ _ _ _ _ _ _ _ _ _ _ _ _ _ _ _ _ _ _ _ _ _ _ _ g1
  · have g1 := hp.2 c1
    exact pm_Rn_run_L33 hQ _ _ _ _ _ _ _ _ _ _ _ _ _ _ _ _ _ _ _ _ _ _ _ _ _ _ _ _ _ _ g1
set_option maxRecDepth 100000 in
theorem qm_Rn_run (p1_length : Int32) (p1_conditional : Int32) (p1_failures : Int32) (p1_meetings : Int32) (p1_steps : Nat → Int32) (t_time : Int32) (t_dropped : Int32) (t_thread : Int32) (t_handedA : UInt64) (t_handedB : UInt64) (t_handedC : UInt64) (t_top : Int32) (t_over : Int32) (t_failed : Int32) (t_met : Int32) (t_stack : Nat → UInt64) (t_variables : Nat → UInt64) (t_gatherers_e_size : Nat → Int32) (t_records_oldest : Int32) (t_records_size : Int32) (t_records_lost : Int32) (t_gatherers_e_keys : Nat → Nat → Int32) (t_gatherers_e_sums : Nat → Nat → UInt64) (t_gatherers_e_values : Nat → Nat → Int32) (t_gatherers_e_bins : Nat → Nat → Int32) (t_gatherers_e_least : Nat → Nat → UInt64) (t_gatherers_e_greatest : Nat → Nat → UInt64) (t_records_ring : Nat → UInt64) {Q : Int32 → (Int32 × Int32 × Int32 × Int32 × Int32 × Int32 × Int32 × (Nat → UInt64) × (Nat → UInt64) × (Nat → Int32) × Int32 × Int32 × Int32 × (Nat → Nat → Int32) × (Nat → Nat → UInt64) × (Nat → Nat → Int32) × (Nat → Nat → Int32) × (Nat → Nat → UInt64) × (Nat → Nat → UInt64) × (Nat → UInt64)) → Prop} (tgt : Int32 × Int32 × Int32 × Int32 × Int32 × Int32 × Int32 × Int32 × (Nat → UInt64) × (Nat → UInt64) × (Nat → Int32) × Int32 × Int32 × Int32 × (Nat → Nat → Int32) × (Nat → Nat → UInt64) × (Nat → Nat → Int32) × (Nat → Nat → Int32) × (Nat → Nat → UInt64) × (Nat → Nat → UInt64) × (Nat → UInt64)) (f0 : s_Rn_run p1_length p1_conditional p1_failures p1_meetings p1_steps t_time t_dropped t_thread t_handedA t_handedB t_handedC t_top t_over t_failed t_met t_stack t_variables t_gatherers_e_size t_records_oldest t_records_size t_records_lost t_gatherers_e_keys t_gatherers_e_sums t_gatherers_e_values t_gatherers_e_bins t_gatherers_e_least t_gatherers_e_greatest t_records_ring = tgt) (hp : WP_Rn_run p1_length p1_conditional p1_failures p1_meetings p1_steps t_time t_dropped t_thread t_handedA t_handedB t_handedC t_top t_over t_failed t_met t_stack t_variables t_gatherers_e_size t_records_oldest t_records_size t_records_lost t_gatherers_e_keys t_gatherers_e_sums t_gatherers_e_values t_gatherers_e_bins t_gatherers_e_least t_gatherers_e_greatest t_records_ring Q) : Q tgt.1 tgt.2 := by
  unfold WP_Rn_run at hp
  unfold s_Rn_run at f0
  by_cases c1 : p1_conditional = 0
  · have f1 := Eq.trans (Eq.symm (if_pos c1)) f0
    have g1 := hp.2 c1
    exact qm_Rn_run_L33 _ _ _ _ _ _ _ _ _ _ _ _ _ _ _ _ _ _ _ _ _ _ _ _ _ _ _ _ _ _ _ f1 g1
  · have f1 := Eq.trans (Eq.symm (if_neg c1)) f0
    have g1 := hp.1 c1
    exact qm_Rn_run_L33 _ _ _ _ _ _ _ _ _ _ _ _ _ _ _ _ _ _ _ _ _ _ _ _ _ _ _ _ _ _ _ f1 g1
theorem e_Rn_run (p1_length : Int32) (p1_conditional : Int32) (p1_failures : Int32) (p1_meetings : Int32) (p1_steps : Nat → Int32) (t_time : Int32) (t_dropped : Int32) (t_thread : Int32) (t_handedA : UInt64) (t_handedB : UInt64) (t_handedC : UInt64) (t_top : Int32) (t_over : Int32) (t_failed : Int32) (t_met : Int32) (t_stack : Nat → UInt64) (t_variables : Nat → UInt64) (t_gatherers_e_size : Nat → Int32) (t_records_oldest : Int32) (t_records_size : Int32) (t_records_lost : Int32) (t_gatherers_e_keys : Nat → Nat → Int32) (t_gatherers_e_sums : Nat → Nat → UInt64) (t_gatherers_e_values : Nat → Nat → Int32) (t_gatherers_e_bins : Nat → Nat → Int32) (t_gatherers_e_least : Nat → Nat → UInt64) (t_gatherers_e_greatest : Nat → Nat → UInt64) (t_records_ring : Nat → UInt64) {Q : Int32 → (Int32 × Int32 × Int32 × Int32 × Int32 × Int32 × Int32 × (Nat → UInt64) × (Nat → UInt64) × (Nat → Int32) × Int32 × Int32 × Int32 × (Nat → Nat → Int32) × (Nat → Nat → UInt64) × (Nat → Nat → Int32) × (Nat → Nat → Int32) × (Nat → Nat → UInt64) × (Nat → Nat → UInt64) × (Nat → UInt64)) → Prop} (hp : WP_Rn_run p1_length p1_conditional p1_failures p1_meetings p1_steps t_time t_dropped t_thread t_handedA t_handedB t_handedC t_top t_over t_failed t_met t_stack t_variables t_gatherers_e_size t_records_oldest t_records_size t_records_lost t_gatherers_e_keys t_gatherers_e_sums t_gatherers_e_values t_gatherers_e_bins t_gatherers_e_least t_gatherers_e_greatest t_records_ring Q) : p_Rn_run p1_length p1_conditional p1_failures p1_meetings p1_steps t_time t_dropped t_thread t_handedA t_handedB t_handedC t_top t_over t_failed t_met t_stack t_variables t_gatherers_e_size t_records_oldest t_records_size t_records_lost t_gatherers_e_keys t_gatherers_e_sums t_gatherers_e_values t_gatherers_e_bins t_gatherers_e_least t_gatherers_e_greatest t_records_ring ∧ Q (s_Rn_run p1_length p1_conditional p1_failures p1_meetings p1_steps t_time t_dropped t_thread t_handedA t_handedB t_handedC t_top t_over t_failed t_met t_stack t_variables t_gatherers_e_size t_records_oldest t_records_size t_records_lost t_gatherers_e_keys t_gatherers_e_sums t_gatherers_e_values t_gatherers_e_bins t_gatherers_e_least t_gatherers_e_greatest t_records_ring).1 (s_Rn_run p1_length p1_conditional p1_failures p1_meetings p1_steps t_time t_dropped t_thread t_handedA t_handedB t_handedC t_top t_over t_failed t_met t_stack t_variables t_gatherers_e_size t_records_oldest t_records_size t_records_lost t_gatherers_e_keys t_gatherers_e_sums t_gatherers_e_values t_gatherers_e_bins t_gatherers_e_least t_gatherers_e_greatest t_records_ring).2 := ⟨pm_Rn_run p1_length p1_conditional p1_failures p1_meetings p1_steps t_time t_dropped t_thread t_handedA t_handedB t_handedC t_top t_over t_failed t_met t_stack t_variables t_gatherers_e_size t_records_oldest t_records_size t_records_lost t_gatherers_e_keys t_gatherers_e_sums t_gatherers_e_values t_gatherers_e_bins t_gatherers_e_least t_gatherers_e_greatest t_records_ring (fun _ _ _ => trivial) hp, qm_Rn_run p1_length p1_conditional p1_failures p1_meetings p1_steps t_time t_dropped t_thread t_handedA t_handedB t_handedC t_top t_over t_failed t_met t_stack t_variables t_gatherers_e_size t_records_oldest t_records_size t_records_lost t_gatherers_e_keys t_gatherers_e_sums t_gatherers_e_values t_gatherers_e_bins t_gatherers_e_least t_gatherers_e_greatest t_records_ring _ rfl hp⟩
set_option maxRecDepth 100000 in
theorem pm_Tr_rulesThere_L4 {Q Q2 : Int32 → Unit → Prop} (hQ : ∀ r u, Q r u → Q2 r u) : ∀ (n : Nat) (y1 : Int32) (y2 : Int32) (t_rules_e_there : Nat → Int32), WP_Tr_rulesThere_L4 n y1 y2 t_rules_e_there Q → WP_Tr_rulesThere_L4 n y1 y2 t_rules_e_there Q2 := by
  intro n
  induction n with
  | zero => intros; contradiction
  | succ n ih =>
    intro y1 y2 t_rules_e_there hp
    unfold WP_Tr_rulesThere_L4 at hp ⊢
    refine ⟨fun c1 => ?_, fun c1 => ?_⟩
    · have g1 := hp.1 c1
      exact hQ _ _ g1
    · have g1 := hp.2 c1
      refine ⟨g1.1, fun j4 hj3 hlt_ => ?_⟩
      have g2 := g1.2 j4 hj3 hlt_
      refine ⟨fun c23 => ?_, fun c23 => ?_⟩
      · have g3 := g2.1 c23
        exact ih _ _ _ g3
      · have g3 := g2.2 c23
        exact ih _ _ _ g3
set_option maxRecDepth 100000 in
theorem qm_Tr_rulesThere_L4 {Q : Int32 → Unit → Prop} : ∀ (n : Nat) (y1 : Int32) (y2 : Int32) (t_rules_e_there : Nat → Int32) (tgt : Int32), s_Tr_rulesThere_L4 n y1 y2 t_rules_e_there = tgt → WP_Tr_rulesThere_L4 n y1 y2 t_rules_e_there Q → Q tgt () := by
  intro n
  induction n with
  | zero => intros; contradiction
  | succ n ih =>
    intro y1 y2 t_rules_e_there tgt f0 hp
    unfold WP_Tr_rulesThere_L4 at hp
    unfold s_Tr_rulesThere_L4 at f0
    by_cases c1 : (6 : Int32) ≤ y2
    · have f1 := Eq.trans (Eq.symm (if_pos c1)) f0
      have g1 := hp.1 c1
      subst f1; exact g1
    · have f1 := Eq.trans (Eq.symm (if_neg c1)) f0
      have g1 := hp.2 c1
      obtain ⟨j4, hlt_, hj3⟩ := vp_in_of g1.1 (by decide)
      have g2 := g1.2 j4 hj3 hlt_
      have f2 := Eq.trans (Eq.symm (zl1_eq (zix_cl hj3 (Nat.lt_trans hlt_ (by decide : 6 < 2 ^ 31))))) f1
      by_cases c23 : (t_rules_e_there j4) = 0
      · have f3 := Eq.trans (Eq.symm (if_pos c23)) f2
        have g3 := g2.1 c23
        exact ih _ _ _ _ f3 g3
      · have f3 := Eq.trans (Eq.symm (if_neg c23)) f2
        have g3 := g2.2 c23
        exact ih _ _ _ _ f3 g3
set_option maxRecDepth 100000 in
theorem pm_Tr_rulesThere (t_rules_e_there : Nat → Int32) {Q Q2 : Int32 → Unit → Prop} (hQ : ∀ r u, Q r u → Q2 r u) (hp : WP_Tr_rulesThere t_rules_e_there Q) : WP_Tr_rulesThere t_rules_e_there Q2 := by
  unfold WP_Tr_rulesThere at hp ⊢
  exact pm_Tr_rulesThere_L4 hQ _ _ _ _ hp
set_option maxRecDepth 100000 in
theorem qm_Tr_rulesThere (t_rules_e_there : Nat → Int32) {Q : Int32 → Unit → Prop} (tgt : Int32) (f0 : s_Tr_rulesThere t_rules_e_there = tgt) (hp : WP_Tr_rulesThere t_rules_e_there Q) : Q tgt () := by
  unfold WP_Tr_rulesThere at hp
  unfold s_Tr_rulesThere at f0
  exact qm_Tr_rulesThere_L4 _ _ _ _ _ f0 hp
theorem e_Tr_rulesThere (t_rules_e_there : Nat → Int32) {Q : Int32 → Unit → Prop} (hp : WP_Tr_rulesThere t_rules_e_there Q) : p_Tr_rulesThere t_rules_e_there ∧ Q (s_Tr_rulesThere t_rules_e_there) () := ⟨pm_Tr_rulesThere t_rules_e_there (fun _ _ _ => trivial) hp, qm_Tr_rulesThere t_rules_e_there _ rfl hp⟩
set_option maxRecDepth 100000 in
theorem pm_Tr_rulesOn_L4 {Q Q2 : Int32 → Unit → Prop} (hQ : ∀ r u, Q r u → Q2 r u) : ∀ (n : Nat) (y1 : Int32) (y2 : Int32) (t_rules_e_on : Nat → Int32), WP_Tr_rulesOn_L4 n y1 y2 t_rules_e_on Q → WP_Tr_rulesOn_L4 n y1 y2 t_rules_e_on Q2 := by
  intro n
  induction n with
  | zero => intros; contradiction
  | succ n ih =>
    intro y1 y2 t_rules_e_on hp
    unfold WP_Tr_rulesOn_L4 at hp ⊢
    refine ⟨fun c1 => ?_, fun c1 => ?_⟩
    · have g1 := hp.1 c1
      exact hQ _ _ g1
    · have g1 := hp.2 c1
      refine ⟨g1.1, fun j4 hj3 hlt_ => ?_⟩
      have g2 := g1.2 j4 hj3 hlt_
      refine ⟨fun c23 => ?_, fun c23 => ?_⟩
      · have g3 := g2.1 c23
        exact ih _ _ _ g3
      · have g3 := g2.2 c23
        exact ih _ _ _ g3
set_option maxRecDepth 100000 in
theorem qm_Tr_rulesOn_L4 {Q : Int32 → Unit → Prop} : ∀ (n : Nat) (y1 : Int32) (y2 : Int32) (t_rules_e_on : Nat → Int32) (tgt : Int32), s_Tr_rulesOn_L4 n y1 y2 t_rules_e_on = tgt → WP_Tr_rulesOn_L4 n y1 y2 t_rules_e_on Q → Q tgt () := by
  intro n
  induction n with
  | zero => intros; contradiction
  | succ n ih =>
    intro y1 y2 t_rules_e_on tgt f0 hp
    unfold WP_Tr_rulesOn_L4 at hp
    unfold s_Tr_rulesOn_L4 at f0
    by_cases c1 : (6 : Int32) ≤ y2
    · have f1 := Eq.trans (Eq.symm (if_pos c1)) f0
      have g1 := hp.1 c1
      subst f1; exact g1
    · have f1 := Eq.trans (Eq.symm (if_neg c1)) f0
      have g1 := hp.2 c1
      obtain ⟨j4, hlt_, hj3⟩ := vp_in_of g1.1 (by decide)
      have g2 := g1.2 j4 hj3 hlt_
      have f2 := Eq.trans (Eq.symm (zl1_eq (zix_cl hj3 (Nat.lt_trans hlt_ (by decide : 6 < 2 ^ 31))))) f1
      by_cases c23 : (t_rules_e_on j4) = 0
      · have f3 := Eq.trans (Eq.symm (if_pos c23)) f2
        have g3 := g2.1 c23
        exact ih _ _ _ _ f3 g3
      · have f3 := Eq.trans (Eq.symm (if_neg c23)) f2
        have g3 := g2.2 c23
        exact ih _ _ _ _ f3 g3
set_option maxRecDepth 100000 in
theorem pm_Tr_rulesOn (t_rules_e_on : Nat → Int32) {Q Q2 : Int32 → Unit → Prop} (hQ : ∀ r u, Q r u → Q2 r u) (hp : WP_Tr_rulesOn t_rules_e_on Q) : WP_Tr_rulesOn t_rules_e_on Q2 := by
  unfold WP_Tr_rulesOn at hp ⊢
  exact pm_Tr_rulesOn_L4 hQ _ _ _ _ hp
set_option maxRecDepth 100000 in
theorem qm_Tr_rulesOn (t_rules_e_on : Nat → Int32) {Q : Int32 → Unit → Prop} (tgt : Int32) (f0 : s_Tr_rulesOn t_rules_e_on = tgt) (hp : WP_Tr_rulesOn t_rules_e_on Q) : Q tgt () := by
  unfold WP_Tr_rulesOn at hp
  unfold s_Tr_rulesOn at f0
  exact qm_Tr_rulesOn_L4 _ _ _ _ _ f0 hp
theorem e_Tr_rulesOn (t_rules_e_on : Nat → Int32) {Q : Int32 → Unit → Prop} (hp : WP_Tr_rulesOn t_rules_e_on Q) : p_Tr_rulesOn t_rules_e_on ∧ Q (s_Tr_rulesOn t_rules_e_on) () := ⟨pm_Tr_rulesOn t_rules_e_on (fun _ _ _ => trivial) hp, qm_Tr_rulesOn t_rules_e_on _ rfl hp⟩
set_option maxRecDepth 100000 in
theorem pm_Tr_count (t_place : Int32) (t_firings : Int32) (t_rules_e_there : Nat → Int32) (t_rules_e_on : Nat → Int32) (t_rules_e_failures : Nat → Int32) (t_rules_e_meetings : Nat → Int32) (t_runner_dropped : Int32) (t_text_length : Int32) (t_runner_gatherers_e_size : Nat → Int32) (t_runner_records_size : Int32) (t_runner_records_lost : Int32) (x1 : Int32) {Q Q2 : Int32 → Unit → Prop} (hQ : ∀ r u, Q r u → Q2 r u) (hp : WP_Tr_count t_place t_firings t_rules_e_there t_rules_e_on t_rules_e_failures t_rules_e_meetings t_runner_dropped t_text_length t_runner_gatherers_e_size t_runner_records_size t_runner_records_lost x1 Q) : WP_Tr_count t_place t_firings t_rules_e_there t_rules_e_on t_rules_e_failures t_rules_e_meetings t_runner_dropped t_text_length t_runner_gatherers_e_size t_runner_records_size t_runner_records_lost x1 Q2 := by
  unfold WP_Tr_count at hp ⊢
  refine ⟨fun c1 => ?_, fun c1 => ?_⟩
  · have g1 := hp.1 c1
    refine ⟨fun c3 => ?_, fun c3 => ?_⟩
    · have g2 := g1.1 c3
      refine ⟨fun c5 => ?_, fun c5 => ?_⟩
      · have g3 := g2.1 c5
        refine ⟨fun c7_0 => ?_, fun c7_0 => ?_⟩
        · have g4 := g3.1 c7_0
          exact hQ _ _ g4
        · have g4 := g3.2 c7_0
          refine ⟨fun c7_1 => ?_, fun c7_1 => ?_⟩
          · have g5 := g4.1 c7_1
            exact hQ _ _ g5
          · have g5 := g4.2 c7_1
            refine ⟨fun c7_2 => ?_, fun c7_2 => ?_⟩
            · have g6 := g5.1 c7_2
              refine ⟨g6.1, ?_⟩
              intro r13 e15
              have g7 := g6.2 r13 e15
              exact hQ _ _ g7
            · have g6 := g5.2 c7_2
              refine ⟨fun c7_3 => ?_, fun c7_3 => ?_⟩
              · have g8 := g6.1 c7_3
                refine ⟨g8.1, ?_⟩
                intro r19 e21
                have g9 := g8.2 r19 e21
                exact hQ _ _ g9
              · have g8 := g6.2 c7_3
                refine ⟨fun c7_4 => ?_, fun c7_4 => ?_⟩
                · have g10 := g8.1 c7_4
                  exact hQ _ _ g10
                · have g10 := g8.2 c7_4
                  refine ⟨fun c7_5 => ?_, fun c7_5 => ?_⟩
                  · have g11 := g10.1 c7_5
                    exact hQ _ _ g11
                  · have g11 := g10.2 c7_5
                    refine ⟨fun c7_6 => ?_, fun c7_6 => ?_⟩
                    · have g12 := g11.1 c7_6
                      exact hQ _ _ g12
                    · have g12 := g11.2 c7_6
                      refine ⟨fun c7_7 => ?_, fun c7_7 => ?_⟩
                      · have g13 := g12.1 c7_7
                        exact hQ _ _ g13
                      · have g13 := g12.2 c7_7
                        exact hQ _ _ g13
      · have g3 := g2.2 c5
        refine ⟨fun c32 => ?_, fun c32 => ?_⟩
        · have g14 := g3.1 c32
          refine ⟨fun c34_0 => ?_, fun c34_0 => ?_⟩
          · have g15 := g14.1 c34_0
            exact hQ _ _ g15
          · have g15 := g14.2 c34_0
            refine ⟨fun c34_1 => ?_, fun c34_1 => ?_⟩
            · have g16 := g15.1 c34_1
              exact hQ _ _ g16
            · have g16 := g15.2 c34_1
              refine ⟨fun c34_2 => ?_, fun c34_2 => ?_⟩
              · have g17 := g16.1 c34_2
                refine ⟨g17.1, ?_⟩
                intro r40 e42
                have g18 := g17.2 r40 e42
                exact hQ _ _ g18
              · have g17 := g16.2 c34_2
                refine ⟨fun c34_3 => ?_, fun c34_3 => ?_⟩
                · have g19 := g17.1 c34_3
                  refine ⟨g19.1, ?_⟩
                  intro r46 e48
                  have g20 := g19.2 r46 e48
                  exact hQ _ _ g20
                · have g19 := g17.2 c34_3
                  refine ⟨fun c34_4 => ?_, fun c34_4 => ?_⟩
                  · have g21 := g19.1 c34_4
                    exact hQ _ _ g21
                  · have g21 := g19.2 c34_4
                    refine ⟨fun c34_5 => ?_, fun c34_5 => ?_⟩
                    · have g22 := g21.1 c34_5
                      exact hQ _ _ g22
                    · have g22 := g21.2 c34_5
                      refine ⟨fun c34_6 => ?_, fun c34_6 => ?_⟩
                      · have g23 := g22.1 c34_6
                        exact hQ _ _ g23
                      · have g23 := g22.2 c34_6
                        refine ⟨fun c34_7 => ?_, fun c34_7 => ?_⟩
                        · have g24 := g23.1 c34_7
                          exact hQ _ _ g24
                        · have g24 := g23.2 c34_7
                          exact hQ _ _ g24
        · have g14 := g3.2 c32
          refine ⟨g14.1, fun j60 hj59 hlt_ => ?_⟩
          have g25 := g14.2 j60 hj59 hlt_
          exact hQ _ _ g25
    · have g2 := g1.2 c3
      refine ⟨fun c64 => ?_, fun c64 => ?_⟩
      · have g26 := g2.1 c64
        refine ⟨fun c66 => ?_, fun c66 => ?_⟩
        · have g27 := g26.1 c66
          refine ⟨fun c68_0 => ?_, fun c68_0 => ?_⟩
          · have g28 := g27.1 c68_0
            exact hQ _ _ g28
          · have g28 := g27.2 c68_0
            refine ⟨fun c68_1 => ?_, fun c68_1 => ?_⟩
            · have g29 := g28.1 c68_1
              exact hQ _ _ g29
            · have g29 := g28.2 c68_1
              refine ⟨fun c68_2 => ?_, fun c68_2 => ?_⟩
              · have g30 := g29.1 c68_2
                refine ⟨g30.1, ?_⟩
                intro r74 e76
                have g31 := g30.2 r74 e76
                exact hQ _ _ g31
              · have g30 := g29.2 c68_2
                refine ⟨fun c68_3 => ?_, fun c68_3 => ?_⟩
                · have g32 := g30.1 c68_3
                  refine ⟨g32.1, ?_⟩
                  intro r80 e82
                  have g33 := g32.2 r80 e82
                  exact hQ _ _ g33
                · have g32 := g30.2 c68_3
                  refine ⟨fun c68_4 => ?_, fun c68_4 => ?_⟩
                  · have g34 := g32.1 c68_4
                    exact hQ _ _ g34
                  · have g34 := g32.2 c68_4
                    refine ⟨fun c68_5 => ?_, fun c68_5 => ?_⟩
                    · have g35 := g34.1 c68_5
                      exact hQ _ _ g35
                    · have g35 := g34.2 c68_5
                      refine ⟨fun c68_6 => ?_, fun c68_6 => ?_⟩
                      · have g36 := g35.1 c68_6
                        exact hQ _ _ g36
                      · have g36 := g35.2 c68_6
                        refine ⟨fun c68_7 => ?_, fun c68_7 => ?_⟩
                        · have g37 := g36.1 c68_7
                          exact hQ _ _ g37
                        · have g37 := g36.2 c68_7
                          exact hQ _ _ g37
        · have g27 := g26.2 c66
          refine ⟨fun c93 => ?_, fun c93 => ?_⟩
          · have g38 := g27.1 c93
            refine ⟨fun c95_0 => ?_, fun c95_0 => ?_⟩
            · have g39 := g38.1 c95_0
              exact hQ _ _ g39
            · have g39 := g38.2 c95_0
              refine ⟨fun c95_1 => ?_, fun c95_1 => ?_⟩
              · have g40 := g39.1 c95_1
                exact hQ _ _ g40
              · have g40 := g39.2 c95_1
                refine ⟨fun c95_2 => ?_, fun c95_2 => ?_⟩
                · have g41 := g40.1 c95_2
                  refine ⟨g41.1, ?_⟩
                  intro r101 e103
                  have g42 := g41.2 r101 e103
                  exact hQ _ _ g42
                · have g41 := g40.2 c95_2
                  refine ⟨fun c95_3 => ?_, fun c95_3 => ?_⟩
                  · have g43 := g41.1 c95_3
                    refine ⟨g43.1, ?_⟩
                    intro r107 e109
                    have g44 := g43.2 r107 e109
                    exact hQ _ _ g44
                  · have g43 := g41.2 c95_3
                    refine ⟨fun c95_4 => ?_, fun c95_4 => ?_⟩
                    · have g45 := g43.1 c95_4
                      exact hQ _ _ g45
                    · have g45 := g43.2 c95_4
                      refine ⟨fun c95_5 => ?_, fun c95_5 => ?_⟩
                      · have g46 := g45.1 c95_5
                        exact hQ _ _ g46
                      · have g46 := g45.2 c95_5
                        refine ⟨fun c95_6 => ?_, fun c95_6 => ?_⟩
                        · have g47 := g46.1 c95_6
                          exact hQ _ _ g47
                        · have g47 := g46.2 c95_6
                          refine ⟨fun c95_7 => ?_, fun c95_7 => ?_⟩
                          · have g48 := g47.1 c95_7
                            exact hQ _ _ g48
                          · have g48 := g47.2 c95_7
                            exact hQ _ _ g48
          · have g38 := g27.2 c93
            refine ⟨g38.1, fun j121 hj120 hlt_ => ?_⟩
            have g49 := g38.2 j121 hj120 hlt_
            exact hQ _ _ g49
      · have g26 := g2.2 c64
        refine ⟨g26.1, fun j126 hj125 hlt_ => ?_⟩
        have g50 := g26.2 j126 hj125 hlt_
        refine ⟨fun c145 => ?_, fun c145 => ?_⟩
        · have g51 := g50.1 c145
          exact hQ _ _ g51
        · have g51 := g50.2 c145
          exact hQ _ _ g51
  · have g1 := hp.2 c1
    refine ⟨fun c147 => ?_, fun c147 => ?_⟩
    · have g52 := g1.1 c147
      refine ⟨fun c149 => ?_, fun c149 => ?_⟩
      · have g53 := g52.1 c149
        refine ⟨fun c151 => ?_, fun c151 => ?_⟩
        · have g54 := g53.1 c151
          refine ⟨fun c153_0 => ?_, fun c153_0 => ?_⟩
          · have g55 := g54.1 c153_0
            exact hQ _ _ g55
          · have g55 := g54.2 c153_0
            refine ⟨fun c153_1 => ?_, fun c153_1 => ?_⟩
            · have g56 := g55.1 c153_1
              exact hQ _ _ g56
            · have g56 := g55.2 c153_1
              refine ⟨fun c153_2 => ?_, fun c153_2 => ?_⟩
              · have g57 := g56.1 c153_2
                refine ⟨g57.1, ?_⟩
                intro r159 e161
                have g58 := g57.2 r159 e161
                exact hQ _ _ g58
              · have g57 := g56.2 c153_2
                refine ⟨fun c153_3 => ?_, fun c153_3 => ?_⟩
                · have g59 := g57.1 c153_3
                  refine ⟨g59.1, ?_⟩
                  intro r165 e167
                  have g60 := g59.2 r165 e167
                  exact hQ _ _ g60
                · have g59 := g57.2 c153_3
                  refine ⟨fun c153_4 => ?_, fun c153_4 => ?_⟩
                  · have g61 := g59.1 c153_4
                    exact hQ _ _ g61
                  · have g61 := g59.2 c153_4
                    refine ⟨fun c153_5 => ?_, fun c153_5 => ?_⟩
                    · have g62 := g61.1 c153_5
                      exact hQ _ _ g62
                    · have g62 := g61.2 c153_5
                      refine ⟨fun c153_6 => ?_, fun c153_6 => ?_⟩
                      · have g63 := g62.1 c153_6
                        exact hQ _ _ g63
                      · have g63 := g62.2 c153_6
                        refine ⟨fun c153_7 => ?_, fun c153_7 => ?_⟩
                        · have g64 := g63.1 c153_7
                          exact hQ _ _ g64
                        · have g64 := g63.2 c153_7
                          exact hQ _ _ g64
        · have g54 := g53.2 c151
          refine ⟨fun c178 => ?_, fun c178 => ?_⟩
          · have g65 := g54.1 c178
            refine ⟨fun c180_0 => ?_, fun c180_0 => ?_⟩
            · have g66 := g65.1 c180_0
              exact hQ _ _ g66
            · have g66 := g65.2 c180_0
              refine ⟨fun c180_1 => ?_, fun c180_1 => ?_⟩
              · have g67 := g66.1 c180_1
                exact hQ _ _ g67
              · have g67 := g66.2 c180_1
                refine ⟨fun c180_2 => ?_, fun c180_2 => ?_⟩
                · have g68 := g67.1 c180_2
                  refine ⟨g68.1, ?_⟩
                  intro r186 e188
                  have g69 := g68.2 r186 e188
                  exact hQ _ _ g69
                · have g68 := g67.2 c180_2
                  refine ⟨fun c180_3 => ?_, fun c180_3 => ?_⟩
                  · have g70 := g68.1 c180_3
                    refine ⟨g70.1, ?_⟩
                    intro r192 e194
                    have g71 := g70.2 r192 e194
                    exact hQ _ _ g71
                  · have g70 := g68.2 c180_3
                    refine ⟨fun c180_4 => ?_, fun c180_4 => ?_⟩
                    · have g72 := g70.1 c180_4
                      exact hQ _ _ g72
                    · have g72 := g70.2 c180_4
                      refine ⟨fun c180_5 => ?_, fun c180_5 => ?_⟩
                      · have g73 := g72.1 c180_5
                        exact hQ _ _ g73
                      · have g73 := g72.2 c180_5
                        refine ⟨fun c180_6 => ?_, fun c180_6 => ?_⟩
                        · have g74 := g73.1 c180_6
                          exact hQ _ _ g74
                        · have g74 := g73.2 c180_6
                          refine ⟨fun c180_7 => ?_, fun c180_7 => ?_⟩
                          · have g75 := g74.1 c180_7
                            exact hQ _ _ g75
                          · have g75 := g74.2 c180_7
                            exact hQ _ _ g75
          · have g65 := g54.2 c178
            refine ⟨g65.1, fun j206 hj205 hlt_ => ?_⟩
            have g76 := g65.2 j206 hj205 hlt_
            exact hQ _ _ g76
      · have g53 := g52.2 c149
        refine ⟨fun c210 => ?_, fun c210 => ?_⟩
        · have g77 := g53.1 c210
          refine ⟨fun c212 => ?_, fun c212 => ?_⟩
          · have g78 := g77.1 c212
            refine ⟨fun c214_0 => ?_, fun c214_0 => ?_⟩
            · have g79 := g78.1 c214_0
              exact hQ _ _ g79
            · have g79 := g78.2 c214_0
              refine ⟨fun c214_1 => ?_, fun c214_1 => ?_⟩
              · have g80 := g79.1 c214_1
                exact hQ _ _ g80
              · have g80 := g79.2 c214_1
                refine ⟨fun c214_2 => ?_, fun c214_2 => ?_⟩
                · have g81 := g80.1 c214_2
                  refine ⟨g81.1, ?_⟩
                  intro r220 e222
                  have g82 := g81.2 r220 e222
                  exact hQ _ _ g82
                · have g81 := g80.2 c214_2
                  refine ⟨fun c214_3 => ?_, fun c214_3 => ?_⟩
                  · have g83 := g81.1 c214_3
                    refine ⟨g83.1, ?_⟩
                    intro r226 e228
                    have g84 := g83.2 r226 e228
                    exact hQ _ _ g84
                  · have g83 := g81.2 c214_3
                    refine ⟨fun c214_4 => ?_, fun c214_4 => ?_⟩
                    · have g85 := g83.1 c214_4
                      exact hQ _ _ g85
                    · have g85 := g83.2 c214_4
                      refine ⟨fun c214_5 => ?_, fun c214_5 => ?_⟩
                      · have g86 := g85.1 c214_5
                        exact hQ _ _ g86
                      · have g86 := g85.2 c214_5
                        refine ⟨fun c214_6 => ?_, fun c214_6 => ?_⟩
                        · have g87 := g86.1 c214_6
                          exact hQ _ _ g87
                        · have g87 := g86.2 c214_6
                          refine ⟨fun c214_7 => ?_, fun c214_7 => ?_⟩
                          · have g88 := g87.1 c214_7
                            exact hQ _ _ g88
                          · have g88 := g87.2 c214_7
                            exact hQ _ _ g88
          · have g78 := g77.2 c212
            refine ⟨fun c239 => ?_, fun c239 => ?_⟩
            · have g89 := g78.1 c239
              refine ⟨fun c241_0 => ?_, fun c241_0 => ?_⟩
              · have g90 := g89.1 c241_0
                exact hQ _ _ g90
              · have g90 := g89.2 c241_0
                refine ⟨fun c241_1 => ?_, fun c241_1 => ?_⟩
                · have g91 := g90.1 c241_1
                  exact hQ _ _ g91
                · have g91 := g90.2 c241_1
                  refine ⟨fun c241_2 => ?_, fun c241_2 => ?_⟩
                  · have g92 := g91.1 c241_2
                    refine ⟨g92.1, ?_⟩
                    intro r247 e249
                    have g93 := g92.2 r247 e249
                    exact hQ _ _ g93
                  · have g92 := g91.2 c241_2
                    refine ⟨fun c241_3 => ?_, fun c241_3 => ?_⟩
                    · have g94 := g92.1 c241_3
                      refine ⟨g94.1, ?_⟩
                      intro r253 e255
                      have g95 := g94.2 r253 e255
                      exact hQ _ _ g95
                    · have g94 := g92.2 c241_3
                      refine ⟨fun c241_4 => ?_, fun c241_4 => ?_⟩
                      · have g96 := g94.1 c241_4
                        exact hQ _ _ g96
                      · have g96 := g94.2 c241_4
                        refine ⟨fun c241_5 => ?_, fun c241_5 => ?_⟩
                        · have g97 := g96.1 c241_5
                          exact hQ _ _ g97
                        · have g97 := g96.2 c241_5
                          refine ⟨fun c241_6 => ?_, fun c241_6 => ?_⟩
                          · have g98 := g97.1 c241_6
                            exact hQ _ _ g98
                          · have g98 := g97.2 c241_6
                            refine ⟨fun c241_7 => ?_, fun c241_7 => ?_⟩
                            · have g99 := g98.1 c241_7
                              exact hQ _ _ g99
                            · have g99 := g98.2 c241_7
                              exact hQ _ _ g99
            · have g89 := g78.2 c239
              refine ⟨g89.1, fun j267 hj266 hlt_ => ?_⟩
              have g100 := g89.2 j267 hj266 hlt_
              exact hQ _ _ g100
        · have g77 := g53.2 c210
          refine ⟨g77.1, fun j272 hj271 hlt_ => ?_⟩
          have g101 := g77.2 j272 hj271 hlt_
          refine ⟨fun c291 => ?_, fun c291 => ?_⟩
          · have g102 := g101.1 c291
            exact hQ _ _ g102
          · have g102 := g101.2 c291
            exact hQ _ _ g102
    · have g52 := g1.2 c147
      refine ⟨g52.1, fun j294 hj293 hlt_ => ?_⟩
      have g103 := g52.2 j294 hj293 hlt_
      refine ⟨fun c313 => ?_, fun c313 => ?_⟩
      · have g104 := g103.1 c313
        exact hQ _ _ g104
      · have g104 := g103.2 c313
        exact hQ _ _ g104
set_option maxRecDepth 100000 in
theorem qm_Tr_count (t_place : Int32) (t_firings : Int32) (t_rules_e_there : Nat → Int32) (t_rules_e_on : Nat → Int32) (t_rules_e_failures : Nat → Int32) (t_rules_e_meetings : Nat → Int32) (t_runner_dropped : Int32) (t_text_length : Int32) (t_runner_gatherers_e_size : Nat → Int32) (t_runner_records_size : Int32) (t_runner_records_lost : Int32) (x1 : Int32) {Q : Int32 → Unit → Prop} (tgt : Int32) (f0 : s_Tr_count t_place t_firings t_rules_e_there t_rules_e_on t_rules_e_failures t_rules_e_meetings t_runner_dropped t_text_length t_runner_gatherers_e_size t_runner_records_size t_runner_records_lost x1 = tgt) (hp : WP_Tr_count t_place t_firings t_rules_e_there t_rules_e_on t_rules_e_failures t_rules_e_meetings t_runner_dropped t_text_length t_runner_gatherers_e_size t_runner_records_size t_runner_records_lost x1 Q) : Q tgt () := by
  unfold WP_Tr_count at hp
  unfold s_Tr_count at f0
  by_cases c1 : x1 < (20 : Int32)
  · have f1 := Eq.trans (Eq.symm (if_pos c1)) f0
    have g1 := hp.1 c1
    by_cases c3 : x1 < (30 : Int32)
    · have f2 := Eq.trans (Eq.symm (if_pos c3)) f1
      have g2 := g1.1 c3
      by_cases c5 : x1 < (8 : Int32)
      · have f3 := Eq.trans (Eq.symm (if_pos c5)) f2
        have g3 := g2.1 c5
        by_cases c7_0 : x1 = (0 : Int32)
        · have f4 := Eq.trans (Eq.symm (if_pos c7_0)) f3
          have g4 := g3.1 c7_0
          subst f4; exact g4
        · have f4 := Eq.trans (Eq.symm (if_neg c7_0)) f3
          have g4 := g3.2 c7_0
          by_cases c7_1 : x1 = (1 : Int32)
          · have f5 := Eq.trans (Eq.symm (if_pos c7_1)) f4
            have g5 := g4.1 c7_1
            subst f5; exact g5
          · have f5 := Eq.trans (Eq.symm (if_neg c7_1)) f4
            have g5 := g4.2 c7_1
            by_cases c7_2 : x1 = (2 : Int32)
            · have f6 := Eq.trans (Eq.symm (if_pos c7_2)) f5
              have g6 := g5.1 c7_2
              obtain ⟨r13, e15⟩ := zex1 (s_Tr_rulesThere t_rules_e_there)
              have g7 := g6.2 r13 e15
              have f7 := Eq.trans (Eq.symm (zl1_eq e15)) f6
              subst f7; exact g7
            · have f6 := Eq.trans (Eq.symm (if_neg c7_2)) f5
              have g6 := g5.2 c7_2
              by_cases c7_3 : x1 = (3 : Int32)
              · have f8 := Eq.trans (Eq.symm (if_pos c7_3)) f6
                have g8 := g6.1 c7_3
                obtain ⟨r19, e21⟩ := zex1 (s_Tr_rulesOn t_rules_e_on)
                have g9 := g8.2 r19 e21
                have f9 := Eq.trans (Eq.symm (zl1_eq e21)) f8
                subst f9; exact g9
              · have f8 := Eq.trans (Eq.symm (if_neg c7_3)) f6
                have g8 := g6.2 c7_3
                by_cases c7_4 : x1 = (4 : Int32)
                · have f10 := Eq.trans (Eq.symm (if_pos c7_4)) f8
                  have g10 := g8.1 c7_4
                  subst f10; exact g10
                · have f10 := Eq.trans (Eq.symm (if_neg c7_4)) f8
                  have g10 := g8.2 c7_4
                  by_cases c7_5 : x1 = (5 : Int32)
                  · have f11 := Eq.trans (Eq.symm (if_pos c7_5)) f10
                    have g11 := g10.1 c7_5
                    subst f11; exact g11
                  · have f11 := Eq.trans (Eq.symm (if_neg c7_5)) f10
                    have g11 := g10.2 c7_5
                    by_cases c7_6 : x1 = (6 : Int32)
                    · have f12 := Eq.trans (Eq.symm (if_pos c7_6)) f11
                      have g12 := g11.1 c7_6
                      subst f12; exact g12
                    · have f12 := Eq.trans (Eq.symm (if_neg c7_6)) f11
                      have g12 := g11.2 c7_6
                      by_cases c7_7 : x1 = (7 : Int32)
                      · have f13 := Eq.trans (Eq.symm (if_pos c7_7)) f12
                        have g13 := g12.1 c7_7
                        subst f13; exact g13
                      · have f13 := Eq.trans (Eq.symm (if_neg c7_7)) f12
                        have g13 := g12.2 c7_7
                        subst f13; exact g13
      · have f3 := Eq.trans (Eq.symm (if_neg c5)) f2
        have g3 := g2.2 c5
        by_cases c32 : (11 : Int32) ≤ x1
        · have f14 := Eq.trans (Eq.symm (if_pos c32)) f3
          have g14 := g3.1 c32
          by_cases c34_0 : x1 = (0 : Int32)
          · have f15 := Eq.trans (Eq.symm (if_pos c34_0)) f14
            have g15 := g14.1 c34_0
            subst f15; exact g15
          · have f15 := Eq.trans (Eq.symm (if_neg c34_0)) f14
            have g15 := g14.2 c34_0
            by_cases c34_1 : x1 = (1 : Int32)
            · have f16 := Eq.trans (Eq.symm (if_pos c34_1)) f15
              have g16 := g15.1 c34_1
              subst f16; exact g16
            · have f16 := Eq.trans (Eq.symm (if_neg c34_1)) f15
              have g16 := g15.2 c34_1
              by_cases c34_2 : x1 = (2 : Int32)
              · have f17 := Eq.trans (Eq.symm (if_pos c34_2)) f16
                have g17 := g16.1 c34_2
                obtain ⟨r40, e42⟩ := zex1 (s_Tr_rulesThere t_rules_e_there)
                have g18 := g17.2 r40 e42
                have f18 := Eq.trans (Eq.symm (zl1_eq e42)) f17
                subst f18; exact g18
              · have f17 := Eq.trans (Eq.symm (if_neg c34_2)) f16
                have g17 := g16.2 c34_2
                by_cases c34_3 : x1 = (3 : Int32)
                · have f19 := Eq.trans (Eq.symm (if_pos c34_3)) f17
                  have g19 := g17.1 c34_3
                  obtain ⟨r46, e48⟩ := zex1 (s_Tr_rulesOn t_rules_e_on)
                  have g20 := g19.2 r46 e48
                  have f20 := Eq.trans (Eq.symm (zl1_eq e48)) f19
                  subst f20; exact g20
                · have f19 := Eq.trans (Eq.symm (if_neg c34_3)) f17
                  have g19 := g17.2 c34_3
                  by_cases c34_4 : x1 = (4 : Int32)
                  · have f21 := Eq.trans (Eq.symm (if_pos c34_4)) f19
                    have g21 := g19.1 c34_4
                    subst f21; exact g21
                  · have f21 := Eq.trans (Eq.symm (if_neg c34_4)) f19
                    have g21 := g19.2 c34_4
                    by_cases c34_5 : x1 = (5 : Int32)
                    · have f22 := Eq.trans (Eq.symm (if_pos c34_5)) f21
                      have g22 := g21.1 c34_5
                      subst f22; exact g22
                    · have f22 := Eq.trans (Eq.symm (if_neg c34_5)) f21
                      have g22 := g21.2 c34_5
                      by_cases c34_6 : x1 = (6 : Int32)
                      · have f23 := Eq.trans (Eq.symm (if_pos c34_6)) f22
                        have g23 := g22.1 c34_6
                        subst f23; exact g23
                      · have f23 := Eq.trans (Eq.symm (if_neg c34_6)) f22
                        have g23 := g22.2 c34_6
                        by_cases c34_7 : x1 = (7 : Int32)
                        · have f24 := Eq.trans (Eq.symm (if_pos c34_7)) f23
                          have g24 := g23.1 c34_7
                          subst f24; exact g24
                        · have f24 := Eq.trans (Eq.symm (if_neg c34_7)) f23
                          have g24 := g23.2 c34_7
                          subst f24; exact g24
        · have f14 := Eq.trans (Eq.symm (if_neg c32)) f3
          have g14 := g3.2 c32
          obtain ⟨j60, hlt_, hj59⟩ := vp_in_of g14.1 (by decide)
          have g25 := g14.2 j60 hj59 hlt_
          have f25 := Eq.trans (Eq.symm (zl1_eq (zix_cl hj59 (Nat.lt_trans hlt_ (by decide : 3 < 2 ^ 31))))) f14
          subst f25; exact g25
    · have f2 := Eq.trans (Eq.symm (if_neg c3)) f1
      have g2 := g1.2 c3
      by_cases c64 : (36 : Int32) ≤ x1
      · have f26 := Eq.trans (Eq.symm (if_pos c64)) f2
        have g26 := g2.1 c64
        by_cases c66 : x1 < (8 : Int32)
        · have f27 := Eq.trans (Eq.symm (if_pos c66)) f26
          have g27 := g26.1 c66
          by_cases c68_0 : x1 = (0 : Int32)
          · have f28 := Eq.trans (Eq.symm (if_pos c68_0)) f27
            have g28 := g27.1 c68_0
            subst f28; exact g28
          · have f28 := Eq.trans (Eq.symm (if_neg c68_0)) f27
            have g28 := g27.2 c68_0
            by_cases c68_1 : x1 = (1 : Int32)
            · have f29 := Eq.trans (Eq.symm (if_pos c68_1)) f28
              have g29 := g28.1 c68_1
              subst f29; exact g29
            · have f29 := Eq.trans (Eq.symm (if_neg c68_1)) f28
              have g29 := g28.2 c68_1
              by_cases c68_2 : x1 = (2 : Int32)
              · have f30 := Eq.trans (Eq.symm (if_pos c68_2)) f29
                have g30 := g29.1 c68_2
                obtain ⟨r74, e76⟩ := zex1 (s_Tr_rulesThere t_rules_e_there)
                have g31 := g30.2 r74 e76
                have f31 := Eq.trans (Eq.symm (zl1_eq e76)) f30
                subst f31; exact g31
              · have f30 := Eq.trans (Eq.symm (if_neg c68_2)) f29
                have g30 := g29.2 c68_2
                by_cases c68_3 : x1 = (3 : Int32)
                · have f32 := Eq.trans (Eq.symm (if_pos c68_3)) f30
                  have g32 := g30.1 c68_3
                  obtain ⟨r80, e82⟩ := zex1 (s_Tr_rulesOn t_rules_e_on)
                  have g33 := g32.2 r80 e82
                  have f33 := Eq.trans (Eq.symm (zl1_eq e82)) f32
                  subst f33; exact g33
                · have f32 := Eq.trans (Eq.symm (if_neg c68_3)) f30
                  have g32 := g30.2 c68_3
                  by_cases c68_4 : x1 = (4 : Int32)
                  · have f34 := Eq.trans (Eq.symm (if_pos c68_4)) f32
                    have g34 := g32.1 c68_4
                    subst f34; exact g34
                  · have f34 := Eq.trans (Eq.symm (if_neg c68_4)) f32
                    have g34 := g32.2 c68_4
                    by_cases c68_5 : x1 = (5 : Int32)
                    · have f35 := Eq.trans (Eq.symm (if_pos c68_5)) f34
                      have g35 := g34.1 c68_5
                      subst f35; exact g35
                    · have f35 := Eq.trans (Eq.symm (if_neg c68_5)) f34
                      have g35 := g34.2 c68_5
                      by_cases c68_6 : x1 = (6 : Int32)
                      · have f36 := Eq.trans (Eq.symm (if_pos c68_6)) f35
                        have g36 := g35.1 c68_6
                        subst f36; exact g36
                      · have f36 := Eq.trans (Eq.symm (if_neg c68_6)) f35
                        have g36 := g35.2 c68_6
                        by_cases c68_7 : x1 = (7 : Int32)
                        · have f37 := Eq.trans (Eq.symm (if_pos c68_7)) f36
                          have g37 := g36.1 c68_7
                          subst f37; exact g37
                        · have f37 := Eq.trans (Eq.symm (if_neg c68_7)) f36
                          have g37 := g36.2 c68_7
                          subst f37; exact g37
        · have f27 := Eq.trans (Eq.symm (if_neg c66)) f26
          have g27 := g26.2 c66
          by_cases c93 : (11 : Int32) ≤ x1
          · have f38 := Eq.trans (Eq.symm (if_pos c93)) f27
            have g38 := g27.1 c93
            by_cases c95_0 : x1 = (0 : Int32)
            · have f39 := Eq.trans (Eq.symm (if_pos c95_0)) f38
              have g39 := g38.1 c95_0
              subst f39; exact g39
            · have f39 := Eq.trans (Eq.symm (if_neg c95_0)) f38
              have g39 := g38.2 c95_0
              by_cases c95_1 : x1 = (1 : Int32)
              · have f40 := Eq.trans (Eq.symm (if_pos c95_1)) f39
                have g40 := g39.1 c95_1
                subst f40; exact g40
              · have f40 := Eq.trans (Eq.symm (if_neg c95_1)) f39
                have g40 := g39.2 c95_1
                by_cases c95_2 : x1 = (2 : Int32)
                · have f41 := Eq.trans (Eq.symm (if_pos c95_2)) f40
                  have g41 := g40.1 c95_2
                  obtain ⟨r101, e103⟩ := zex1 (s_Tr_rulesThere t_rules_e_there)
                  have g42 := g41.2 r101 e103
                  have f42 := Eq.trans (Eq.symm (zl1_eq e103)) f41
                  subst f42; exact g42
                · have f41 := Eq.trans (Eq.symm (if_neg c95_2)) f40
                  have g41 := g40.2 c95_2
                  by_cases c95_3 : x1 = (3 : Int32)
                  · have f43 := Eq.trans (Eq.symm (if_pos c95_3)) f41
                    have g43 := g41.1 c95_3
                    obtain ⟨r107, e109⟩ := zex1 (s_Tr_rulesOn t_rules_e_on)
                    have g44 := g43.2 r107 e109
                    have f44 := Eq.trans (Eq.symm (zl1_eq e109)) f43
                    subst f44; exact g44
                  · have f43 := Eq.trans (Eq.symm (if_neg c95_3)) f41
                    have g43 := g41.2 c95_3
                    by_cases c95_4 : x1 = (4 : Int32)
                    · have f45 := Eq.trans (Eq.symm (if_pos c95_4)) f43
                      have g45 := g43.1 c95_4
                      subst f45; exact g45
                    · have f45 := Eq.trans (Eq.symm (if_neg c95_4)) f43
                      have g45 := g43.2 c95_4
                      by_cases c95_5 : x1 = (5 : Int32)
                      · have f46 := Eq.trans (Eq.symm (if_pos c95_5)) f45
                        have g46 := g45.1 c95_5
                        subst f46; exact g46
                      · have f46 := Eq.trans (Eq.symm (if_neg c95_5)) f45
                        have g46 := g45.2 c95_5
                        by_cases c95_6 : x1 = (6 : Int32)
                        · have f47 := Eq.trans (Eq.symm (if_pos c95_6)) f46
                          have g47 := g46.1 c95_6
                          subst f47; exact g47
                        · have f47 := Eq.trans (Eq.symm (if_neg c95_6)) f46
                          have g47 := g46.2 c95_6
                          by_cases c95_7 : x1 = (7 : Int32)
                          · have f48 := Eq.trans (Eq.symm (if_pos c95_7)) f47
                            have g48 := g47.1 c95_7
                            subst f48; exact g48
                          · have f48 := Eq.trans (Eq.symm (if_neg c95_7)) f47
                            have g48 := g47.2 c95_7
                            subst f48; exact g48
          · have f38 := Eq.trans (Eq.symm (if_neg c93)) f27
            have g38 := g27.2 c93
            obtain ⟨j121, hlt_, hj120⟩ := vp_in_of g38.1 (by decide)
            have g49 := g38.2 j121 hj120 hlt_
            have f49 := Eq.trans (Eq.symm (zl1_eq (zix_cl hj120 (Nat.lt_trans hlt_ (by decide : 3 < 2 ^ 31))))) f38
            subst f49; exact g49
      · have f26 := Eq.trans (Eq.symm (if_neg c64)) f2
        have g26 := g2.2 c64
        obtain ⟨j126, hlt_, hj125⟩ := vp_in_of g26.1 (by decide)
        have g50 := g26.2 j126 hj125 hlt_
        have f50 := Eq.trans (Eq.symm (zl1_eq (zix_cl hj125 (Nat.lt_trans hlt_ (by decide : 6 < 2 ^ 31))))) f26
        by_cases c145 : (t_rules_e_there j126) = 0
        · have f51 := Eq.trans (Eq.symm (if_pos c145)) f50
          have g51 := g50.1 c145
          subst f51; exact g51
        · have f51 := Eq.trans (Eq.symm (if_neg c145)) f50
          have g51 := g50.2 c145
          subst f51; exact g51
  · have f1 := Eq.trans (Eq.symm (if_neg c1)) f0
    have g1 := hp.2 c1
    by_cases c147 : (26 : Int32) ≤ x1
    · have f52 := Eq.trans (Eq.symm (if_pos c147)) f1
      have g52 := g1.1 c147
      by_cases c149 : x1 < (30 : Int32)
      · have f53 := Eq.trans (Eq.symm (if_pos c149)) f52
        have g53 := g52.1 c149
        by_cases c151 : x1 < (8 : Int32)
        · have f54 := Eq.trans (Eq.symm (if_pos c151)) f53
          have g54 := g53.1 c151
          by_cases c153_0 : x1 = (0 : Int32)
          · have f55 := Eq.trans (Eq.symm (if_pos c153_0)) f54
            have g55 := g54.1 c153_0
            subst f55; exact g55
          · have f55 := Eq.trans (Eq.symm (if_neg c153_0)) f54
            have g55 := g54.2 c153_0
            by_cases c153_1 : x1 = (1 : Int32)
            · have f56 := Eq.trans (Eq.symm (if_pos c153_1)) f55
              have g56 := g55.1 c153_1
              subst f56; exact g56
            · have f56 := Eq.trans (Eq.symm (if_neg c153_1)) f55
              have g56 := g55.2 c153_1
              by_cases c153_2 : x1 = (2 : Int32)
              · have f57 := Eq.trans (Eq.symm (if_pos c153_2)) f56
                have g57 := g56.1 c153_2
                obtain ⟨r159, e161⟩ := zex1 (s_Tr_rulesThere t_rules_e_there)
                have g58 := g57.2 r159 e161
                have f58 := Eq.trans (Eq.symm (zl1_eq e161)) f57
                subst f58; exact g58
              · have f57 := Eq.trans (Eq.symm (if_neg c153_2)) f56
                have g57 := g56.2 c153_2
                by_cases c153_3 : x1 = (3 : Int32)
                · have f59 := Eq.trans (Eq.symm (if_pos c153_3)) f57
                  have g59 := g57.1 c153_3
                  obtain ⟨r165, e167⟩ := zex1 (s_Tr_rulesOn t_rules_e_on)
                  have g60 := g59.2 r165 e167
                  have f60 := Eq.trans (Eq.symm (zl1_eq e167)) f59
                  subst f60; exact g60
                · have f59 := Eq.trans (Eq.symm (if_neg c153_3)) f57
                  have g59 := g57.2 c153_3
                  by_cases c153_4 : x1 = (4 : Int32)
                  · have f61 := Eq.trans (Eq.symm (if_pos c153_4)) f59
                    have g61 := g59.1 c153_4
                    subst f61; exact g61
                  · have f61 := Eq.trans (Eq.symm (if_neg c153_4)) f59
                    have g61 := g59.2 c153_4
                    by_cases c153_5 : x1 = (5 : Int32)
                    · have f62 := Eq.trans (Eq.symm (if_pos c153_5)) f61
                      have g62 := g61.1 c153_5
                      subst f62; exact g62
                    · have f62 := Eq.trans (Eq.symm (if_neg c153_5)) f61
                      have g62 := g61.2 c153_5
                      by_cases c153_6 : x1 = (6 : Int32)
                      · have f63 := Eq.trans (Eq.symm (if_pos c153_6)) f62
                        have g63 := g62.1 c153_6
                        subst f63; exact g63
                      · have f63 := Eq.trans (Eq.symm (if_neg c153_6)) f62
                        have g63 := g62.2 c153_6
                        by_cases c153_7 : x1 = (7 : Int32)
                        · have f64 := Eq.trans (Eq.symm (if_pos c153_7)) f63
                          have g64 := g63.1 c153_7
                          subst f64; exact g64
                        · have f64 := Eq.trans (Eq.symm (if_neg c153_7)) f63
                          have g64 := g63.2 c153_7
                          subst f64; exact g64
        · have f54 := Eq.trans (Eq.symm (if_neg c151)) f53
          have g54 := g53.2 c151
          by_cases c178 : (11 : Int32) ≤ x1
          · have f65 := Eq.trans (Eq.symm (if_pos c178)) f54
            have g65 := g54.1 c178
            by_cases c180_0 : x1 = (0 : Int32)
            · have f66 := Eq.trans (Eq.symm (if_pos c180_0)) f65
              have g66 := g65.1 c180_0
              subst f66; exact g66
            · have f66 := Eq.trans (Eq.symm (if_neg c180_0)) f65
              have g66 := g65.2 c180_0
              by_cases c180_1 : x1 = (1 : Int32)
              · have f67 := Eq.trans (Eq.symm (if_pos c180_1)) f66
                have g67 := g66.1 c180_1
                subst f67; exact g67
              · have f67 := Eq.trans (Eq.symm (if_neg c180_1)) f66
                have g67 := g66.2 c180_1
                by_cases c180_2 : x1 = (2 : Int32)
                · have f68 := Eq.trans (Eq.symm (if_pos c180_2)) f67
                  have g68 := g67.1 c180_2
                  obtain ⟨r186, e188⟩ := zex1 (s_Tr_rulesThere t_rules_e_there)
                  have g69 := g68.2 r186 e188
                  have f69 := Eq.trans (Eq.symm (zl1_eq e188)) f68
                  subst f69; exact g69
                · have f68 := Eq.trans (Eq.symm (if_neg c180_2)) f67
                  have g68 := g67.2 c180_2
                  by_cases c180_3 : x1 = (3 : Int32)
                  · have f70 := Eq.trans (Eq.symm (if_pos c180_3)) f68
                    have g70 := g68.1 c180_3
                    obtain ⟨r192, e194⟩ := zex1 (s_Tr_rulesOn t_rules_e_on)
                    have g71 := g70.2 r192 e194
                    have f71 := Eq.trans (Eq.symm (zl1_eq e194)) f70
                    subst f71; exact g71
                  · have f70 := Eq.trans (Eq.symm (if_neg c180_3)) f68
                    have g70 := g68.2 c180_3
                    by_cases c180_4 : x1 = (4 : Int32)
                    · have f72 := Eq.trans (Eq.symm (if_pos c180_4)) f70
                      have g72 := g70.1 c180_4
                      subst f72; exact g72
                    · have f72 := Eq.trans (Eq.symm (if_neg c180_4)) f70
                      have g72 := g70.2 c180_4
                      by_cases c180_5 : x1 = (5 : Int32)
                      · have f73 := Eq.trans (Eq.symm (if_pos c180_5)) f72
                        have g73 := g72.1 c180_5
                        subst f73; exact g73
                      · have f73 := Eq.trans (Eq.symm (if_neg c180_5)) f72
                        have g73 := g72.2 c180_5
                        by_cases c180_6 : x1 = (6 : Int32)
                        · have f74 := Eq.trans (Eq.symm (if_pos c180_6)) f73
                          have g74 := g73.1 c180_6
                          subst f74; exact g74
                        · have f74 := Eq.trans (Eq.symm (if_neg c180_6)) f73
                          have g74 := g73.2 c180_6
                          by_cases c180_7 : x1 = (7 : Int32)
                          · have f75 := Eq.trans (Eq.symm (if_pos c180_7)) f74
                            have g75 := g74.1 c180_7
                            subst f75; exact g75
                          · have f75 := Eq.trans (Eq.symm (if_neg c180_7)) f74
                            have g75 := g74.2 c180_7
                            subst f75; exact g75
          · have f65 := Eq.trans (Eq.symm (if_neg c178)) f54
            have g65 := g54.2 c178
            obtain ⟨j206, hlt_, hj205⟩ := vp_in_of g65.1 (by decide)
            have g76 := g65.2 j206 hj205 hlt_
            have f76 := Eq.trans (Eq.symm (zl1_eq (zix_cl hj205 (Nat.lt_trans hlt_ (by decide : 3 < 2 ^ 31))))) f65
            subst f76; exact g76
      · have f53 := Eq.trans (Eq.symm (if_neg c149)) f52
        have g53 := g52.2 c149
        by_cases c210 : (36 : Int32) ≤ x1
        · have f77 := Eq.trans (Eq.symm (if_pos c210)) f53
          have g77 := g53.1 c210
          by_cases c212 : x1 < (8 : Int32)
          · have f78 := Eq.trans (Eq.symm (if_pos c212)) f77
            have g78 := g77.1 c212
            by_cases c214_0 : x1 = (0 : Int32)
            · have f79 := Eq.trans (Eq.symm (if_pos c214_0)) f78
              have g79 := g78.1 c214_0
              subst f79; exact g79
            · have f79 := Eq.trans (Eq.symm (if_neg c214_0)) f78
              have g79 := g78.2 c214_0
              by_cases c214_1 : x1 = (1 : Int32)
              · have f80 := Eq.trans (Eq.symm (if_pos c214_1)) f79
                have g80 := g79.1 c214_1
                subst f80; exact g80
              · have f80 := Eq.trans (Eq.symm (if_neg c214_1)) f79
                have g80 := g79.2 c214_1
                by_cases c214_2 : x1 = (2 : Int32)
                · have f81 := Eq.trans (Eq.symm (if_pos c214_2)) f80
                  have g81 := g80.1 c214_2
                  obtain ⟨r220, e222⟩ := zex1 (s_Tr_rulesThere t_rules_e_there)
                  have g82 := g81.2 r220 e222
                  have f82 := Eq.trans (Eq.symm (zl1_eq e222)) f81
                  subst f82; exact g82
                · have f81 := Eq.trans (Eq.symm (if_neg c214_2)) f80
                  have g81 := g80.2 c214_2
                  by_cases c214_3 : x1 = (3 : Int32)
                  · have f83 := Eq.trans (Eq.symm (if_pos c214_3)) f81
                    have g83 := g81.1 c214_3
                    obtain ⟨r226, e228⟩ := zex1 (s_Tr_rulesOn t_rules_e_on)
                    have g84 := g83.2 r226 e228
                    have f84 := Eq.trans (Eq.symm (zl1_eq e228)) f83
                    subst f84; exact g84
                  · have f83 := Eq.trans (Eq.symm (if_neg c214_3)) f81
                    have g83 := g81.2 c214_3
                    by_cases c214_4 : x1 = (4 : Int32)
                    · have f85 := Eq.trans (Eq.symm (if_pos c214_4)) f83
                      have g85 := g83.1 c214_4
                      subst f85; exact g85
                    · have f85 := Eq.trans (Eq.symm (if_neg c214_4)) f83
                      have g85 := g83.2 c214_4
                      by_cases c214_5 : x1 = (5 : Int32)
                      · have f86 := Eq.trans (Eq.symm (if_pos c214_5)) f85
                        have g86 := g85.1 c214_5
                        subst f86; exact g86
                      · have f86 := Eq.trans (Eq.symm (if_neg c214_5)) f85
                        have g86 := g85.2 c214_5
                        by_cases c214_6 : x1 = (6 : Int32)
                        · have f87 := Eq.trans (Eq.symm (if_pos c214_6)) f86
                          have g87 := g86.1 c214_6
                          subst f87; exact g87
                        · have f87 := Eq.trans (Eq.symm (if_neg c214_6)) f86
                          have g87 := g86.2 c214_6
                          by_cases c214_7 : x1 = (7 : Int32)
                          · have f88 := Eq.trans (Eq.symm (if_pos c214_7)) f87
                            have g88 := g87.1 c214_7
                            subst f88; exact g88
                          · have f88 := Eq.trans (Eq.symm (if_neg c214_7)) f87
                            have g88 := g87.2 c214_7
                            subst f88; exact g88
          · have f78 := Eq.trans (Eq.symm (if_neg c212)) f77
            have g78 := g77.2 c212
            by_cases c239 : (11 : Int32) ≤ x1
            · have f89 := Eq.trans (Eq.symm (if_pos c239)) f78
              have g89 := g78.1 c239
              by_cases c241_0 : x1 = (0 : Int32)
              · have f90 := Eq.trans (Eq.symm (if_pos c241_0)) f89
                have g90 := g89.1 c241_0
                subst f90; exact g90
              · have f90 := Eq.trans (Eq.symm (if_neg c241_0)) f89
                have g90 := g89.2 c241_0
                by_cases c241_1 : x1 = (1 : Int32)
                · have f91 := Eq.trans (Eq.symm (if_pos c241_1)) f90
                  have g91 := g90.1 c241_1
                  subst f91; exact g91
                · have f91 := Eq.trans (Eq.symm (if_neg c241_1)) f90
                  have g91 := g90.2 c241_1
                  by_cases c241_2 : x1 = (2 : Int32)
                  · have f92 := Eq.trans (Eq.symm (if_pos c241_2)) f91
                    have g92 := g91.1 c241_2
                    obtain ⟨r247, e249⟩ := zex1 (s_Tr_rulesThere t_rules_e_there)
                    have g93 := g92.2 r247 e249
                    have f93 := Eq.trans (Eq.symm (zl1_eq e249)) f92
                    subst f93; exact g93
                  · have f92 := Eq.trans (Eq.symm (if_neg c241_2)) f91
                    have g92 := g91.2 c241_2
                    by_cases c241_3 : x1 = (3 : Int32)
                    · have f94 := Eq.trans (Eq.symm (if_pos c241_3)) f92
                      have g94 := g92.1 c241_3
                      obtain ⟨r253, e255⟩ := zex1 (s_Tr_rulesOn t_rules_e_on)
                      have g95 := g94.2 r253 e255
                      have f95 := Eq.trans (Eq.symm (zl1_eq e255)) f94
                      subst f95; exact g95
                    · have f94 := Eq.trans (Eq.symm (if_neg c241_3)) f92
                      have g94 := g92.2 c241_3
                      by_cases c241_4 : x1 = (4 : Int32)
                      · have f96 := Eq.trans (Eq.symm (if_pos c241_4)) f94
                        have g96 := g94.1 c241_4
                        subst f96; exact g96
                      · have f96 := Eq.trans (Eq.symm (if_neg c241_4)) f94
                        have g96 := g94.2 c241_4
                        by_cases c241_5 : x1 = (5 : Int32)
                        · have f97 := Eq.trans (Eq.symm (if_pos c241_5)) f96
                          have g97 := g96.1 c241_5
                          subst f97; exact g97
                        · have f97 := Eq.trans (Eq.symm (if_neg c241_5)) f96
                          have g97 := g96.2 c241_5
                          by_cases c241_6 : x1 = (6 : Int32)
                          · have f98 := Eq.trans (Eq.symm (if_pos c241_6)) f97
                            have g98 := g97.1 c241_6
                            subst f98; exact g98
                          · have f98 := Eq.trans (Eq.symm (if_neg c241_6)) f97
                            have g98 := g97.2 c241_6
                            by_cases c241_7 : x1 = (7 : Int32)
                            · have f99 := Eq.trans (Eq.symm (if_pos c241_7)) f98
                              have g99 := g98.1 c241_7
                              subst f99; exact g99
                            · have f99 := Eq.trans (Eq.symm (if_neg c241_7)) f98
                              have g99 := g98.2 c241_7
                              subst f99; exact g99
            · have f89 := Eq.trans (Eq.symm (if_neg c239)) f78
              have g89 := g78.2 c239
              obtain ⟨j267, hlt_, hj266⟩ := vp_in_of g89.1 (by decide)
              have g100 := g89.2 j267 hj266 hlt_
              have f100 := Eq.trans (Eq.symm (zl1_eq (zix_cl hj266 (Nat.lt_trans hlt_ (by decide : 3 < 2 ^ 31))))) f89
              subst f100; exact g100
        · have f77 := Eq.trans (Eq.symm (if_neg c210)) f53
          have g77 := g53.2 c210
          obtain ⟨j272, hlt_, hj271⟩ := vp_in_of g77.1 (by decide)
          have g101 := g77.2 j272 hj271 hlt_
          have f101 := Eq.trans (Eq.symm (zl1_eq (zix_cl hj271 (Nat.lt_trans hlt_ (by decide : 6 < 2 ^ 31))))) f77
          by_cases c291 : (t_rules_e_there j272) = 0
          · have f102 := Eq.trans (Eq.symm (if_pos c291)) f101
            have g102 := g101.1 c291
            subst f102; exact g102
          · have f102 := Eq.trans (Eq.symm (if_neg c291)) f101
            have g102 := g101.2 c291
            subst f102; exact g102
    · have f52 := Eq.trans (Eq.symm (if_neg c147)) f1
      have g52 := g1.2 c147
      obtain ⟨j294, hlt_, hj293⟩ := vp_in_of g52.1 (by decide)
      have g103 := g52.2 j294 hj293 hlt_
      have f103 := Eq.trans (Eq.symm (zl1_eq (zix_cl hj293 (Nat.lt_trans hlt_ (by decide : 6 < 2 ^ 31))))) f52
      by_cases c313 : (t_rules_e_there j294) = 0
      · have f104 := Eq.trans (Eq.symm (if_pos c313)) f103
        have g104 := g103.1 c313
        subst f104; exact g104
      · have f104 := Eq.trans (Eq.symm (if_neg c313)) f103
        have g104 := g103.2 c313
        subst f104; exact g104
theorem e_Tr_count (t_place : Int32) (t_firings : Int32) (t_rules_e_there : Nat → Int32) (t_rules_e_on : Nat → Int32) (t_rules_e_failures : Nat → Int32) (t_rules_e_meetings : Nat → Int32) (t_runner_dropped : Int32) (t_text_length : Int32) (t_runner_gatherers_e_size : Nat → Int32) (t_runner_records_size : Int32) (t_runner_records_lost : Int32) (x1 : Int32) {Q : Int32 → Unit → Prop} (hp : WP_Tr_count t_place t_firings t_rules_e_there t_rules_e_on t_rules_e_failures t_rules_e_meetings t_runner_dropped t_text_length t_runner_gatherers_e_size t_runner_records_size t_runner_records_lost x1 Q) : p_Tr_count t_place t_firings t_rules_e_there t_rules_e_on t_rules_e_failures t_rules_e_meetings t_runner_dropped t_text_length t_runner_gatherers_e_size t_runner_records_size t_runner_records_lost x1 ∧ Q (s_Tr_count t_place t_firings t_rules_e_there t_rules_e_on t_rules_e_failures t_rules_e_meetings t_runner_dropped t_text_length t_runner_gatherers_e_size t_runner_records_size t_runner_records_lost x1) () := ⟨pm_Tr_count t_place t_firings t_rules_e_there t_rules_e_on t_rules_e_failures t_rules_e_meetings t_runner_dropped t_text_length t_runner_gatherers_e_size t_runner_records_size t_runner_records_lost x1 (fun _ _ _ => trivial) hp, qm_Tr_count t_place t_firings t_rules_e_there t_rules_e_on t_rules_e_failures t_rules_e_meetings t_runner_dropped t_text_length t_runner_gatherers_e_size t_runner_records_size t_runner_records_lost x1 _ rfl hp⟩
set_option maxRecDepth 100000 in
theorem pm_Tr_type (t_text_length : Int32) (t_text_characters : Nat → Int32) (x1 : Int64) {Q Q2 : Int32 → (Int32 × (Nat → Int32)) → Prop} {X X2 : String → (Int32 × (Nat → Int32)) → Prop} (hQ : ∀ r u, Q r u → Q2 r u) (hX : ∀ r u, X r u → X2 r u) (hp : WP_Tr_type t_text_length t_text_characters x1 Q X) : WP_Tr_type t_text_length t_text_characters x1 Q2 X2 := by
  unfold WP_Tr_type at hp ⊢
  refine ⟨hp.1, ?_⟩
  intro r1 e3
  have g1 := hp.2 r1 e3
  refine ⟨fun c5 => ?_, fun c5 => ?_⟩
  · have g2 := g1.1 c5
    refine ⟨g2.1, ?_⟩
    intro r7 e9
    have g3 := g2.2 r7 e9
    refine ⟨fun c11 => ?_, fun c11 => ?_⟩
    · have g4 := g3.1 c11
      refine ⟨g4.1, ?_⟩
      intro m16 m17 e15
      have g5 := g4.2 m16 m17 e15
      exact hQ _ _ g5
    · have g4 := g3.2 c11
      exact hX _ _ g4
  · have g2 := g1.2 c5
    exact hX _ _ g2
set_option maxRecDepth 100000 in
theorem qm_Tr_type (t_text_length : Int32) (t_text_characters : Nat → Int32) (x1 : Int64) {Q : Int32 → (Int32 × (Nat → Int32)) → Prop} {X : String → (Int32 × (Nat → Int32)) → Prop} (tgt : (Int32 × Int32 × (Nat → Int32)) ⊕ (String × Int32 × (Nat → Int32))) (f0 : s_Tr_type t_text_length t_text_characters x1 = tgt) (hp : WP_Tr_type t_text_length t_text_characters x1 Q X) : Sum.elim (fun x => Q x.1 x.2) (fun x => X x.1 x.2) tgt := by
  unfold WP_Tr_type at hp
  unfold s_Tr_type at f0
  obtain ⟨r1, e3⟩ := zex1 (s_Te_mayHold x1)
  have g1 := hp.2 r1 e3
  have f1 := Eq.trans (Eq.symm (zl1_eq e3)) f0
  by_cases c5 : r1 = 0
  · have f2 := Eq.trans (Eq.symm (if_pos c5)) f1
    have g2 := g1.2 c5
    subst f2; exact g2
  · have f2 := Eq.trans (Eq.symm (if_neg c5)) f1
    have g2 := g1.1 c5
    obtain ⟨r7, e9⟩ := zex1 (s_Te_hasRoomFor t_text_length x1)
    have g3 := g2.2 r7 e9
    have f3 := Eq.trans (Eq.symm (zl1_eq e9)) f2
    by_cases c11 : r7 = 0
    · have f4 := Eq.trans (Eq.symm (if_pos c11)) f3
      have g4 := g3.2 c11
      subst f4; exact g4
    · have f4 := Eq.trans (Eq.symm (if_neg c11)) f3
      have g4 := g3.1 c11
      obtain ⟨m16, m17, e15⟩ := zex2 (s_Te_add t_text_length t_text_characters x1)
      have g5 := g4.2 m16 m17 e15
      have f5 := Eq.trans (Eq.symm (zl2_eq e15)) f4
      subst f5; exact g5
theorem e_Tr_type (t_text_length : Int32) (t_text_characters : Nat → Int32) (x1 : Int64) {Q : Int32 → (Int32 × (Nat → Int32)) → Prop} {X : String → (Int32 × (Nat → Int32)) → Prop} (hp : WP_Tr_type t_text_length t_text_characters x1 Q X) : p_Tr_type t_text_length t_text_characters x1 ∧ Sum.elim (fun x => Q x.1 x.2) (fun x => X x.1 x.2) (s_Tr_type t_text_length t_text_characters x1) := ⟨pm_Tr_type t_text_length t_text_characters x1 (fun _ _ _ => trivial) (fun _ _ _ => trivial) hp, qm_Tr_type t_text_length t_text_characters x1 _ rfl hp⟩
set_option maxRecDepth 100000 in
theorem pm_Tr_turn (t_rules_e_there : Nat → Int32) (t_rules_e_on : Nat → Int32) (x1 : Int32) (x2 : Int32) {Q Q2 : Int32 → (Nat → Int32) → Prop} {X X2 : String → (Nat → Int32) → Prop} (hQ : ∀ r u, Q r u → Q2 r u) (hX : ∀ r u, X r u → X2 r u) (hp : WP_Tr_turn t_rules_e_there t_rules_e_on x1 x2 Q X) : WP_Tr_turn t_rules_e_there t_rules_e_on x1 x2 Q2 X2 := by
  unfold WP_Tr_turn at hp ⊢
  intro r1 e3
  have g1 := hp r1 e3
  refine ⟨fun c5 => ?_, fun c5 => ?_⟩
  · have g2 := g1.1 c5
    refine ⟨g2.1, fun j8 hj7 hlt_ => ?_⟩
    have g3 := g2.2 j8 hj7 hlt_
    refine ⟨fun c57 => ?_, fun c57 => ?_⟩
    · have g4 := g3.1 c57
      refine ⟨g4.1, ?_⟩
      have g5 := g4.2
      refine ⟨g5.1, ?_⟩
      intro r60 e62
      have g6 := g5.2 r60 e62
      exact hQ _ _ g6
    · have g4 := g3.2 c57
      exact hX _ _ g4
  · have g2 := g1.2 c5
    exact hX _ _ g2
set_option maxRecDepth 100000 in
theorem qm_Tr_turn (t_rules_e_there : Nat → Int32) (t_rules_e_on : Nat → Int32) (x1 : Int32) (x2 : Int32) {Q : Int32 → (Nat → Int32) → Prop} {X : String → (Nat → Int32) → Prop} (tgt : (Int32 × (Nat → Int32)) ⊕ (String × (Nat → Int32))) (f0 : s_Tr_turn t_rules_e_there t_rules_e_on x1 x2 = tgt) (hp : WP_Tr_turn t_rules_e_there t_rules_e_on x1 x2 Q X) : Sum.elim (fun x => Q x.1 x.2) (fun x => X x.1 x.2) tgt := by
  unfold WP_Tr_turn at hp
  unfold s_Tr_turn at f0
  obtain ⟨r1, e3⟩ := zex1 (s_Tr_isWithin x1 (6 : Int32))
  have g1 := hp r1 e3
  have f1 := Eq.trans (Eq.symm (zl1_eq e3)) f0
  by_cases c5 : r1 = 0
  · have f2 := Eq.trans (Eq.symm (if_pos c5)) f1
    have g2 := g1.2 c5
    subst f2; exact g2
  · have f2 := Eq.trans (Eq.symm (if_neg c5)) f1
    have g2 := g1.1 c5
    obtain ⟨j8, hlt_, hj7⟩ := vp_in_of g2.1 (by decide)
    have g3 := g2.2 j8 hj7 hlt_
    have f3 := Eq.trans (Eq.symm (zl1_eq (zix_cl hj7 (Nat.lt_trans hlt_ (by decide : 6 < 2 ^ 31))))) f2
    by_cases c57 : (t_rules_e_there j8) = 0
    · have f4 := Eq.trans (Eq.symm (if_pos c57)) f3
      have g4 := g3.2 c57
      subst f4; exact g4
    · have f4 := Eq.trans (Eq.symm (if_neg c57)) f3
      have g4 := g3.1 c57
      have g5 := g4.2
      obtain ⟨r60, e62⟩ := zex1 (s_Tr_rulesOn (va_up t_rules_e_on j8 x2))
      have g6 := g5.2 r60 e62
      have f6 := Eq.trans (Eq.symm (zl1_eq e62)) f4
      subst f6; exact g6
theorem e_Tr_turn (t_rules_e_there : Nat → Int32) (t_rules_e_on : Nat → Int32) (x1 : Int32) (x2 : Int32) {Q : Int32 → (Nat → Int32) → Prop} {X : String → (Nat → Int32) → Prop} (hp : WP_Tr_turn t_rules_e_there t_rules_e_on x1 x2 Q X) : p_Tr_turn t_rules_e_there t_rules_e_on x1 x2 ∧ Sum.elim (fun x => Q x.1 x.2) (fun x => X x.1 x.2) (s_Tr_turn t_rules_e_there t_rules_e_on x1 x2) := ⟨pm_Tr_turn t_rules_e_there t_rules_e_on x1 x2 (fun _ _ _ => trivial) (fun _ _ _ => trivial) hp, qm_Tr_turn t_rules_e_there t_rules_e_on x1 x2 _ rfl hp⟩
set_option maxRecDepth 100000 in
theorem pm_Tr_tick (t_runner_time : Int32) (x1 : Int32) {Q Q2 : Int32 → Int32 → Prop} {X X2 : String → Int32 → Prop} (hQ : ∀ r u, Q r u → Q2 r u) (hX : ∀ r u, X r u → X2 r u) (hp : WP_Tr_tick t_runner_time x1 Q X) : WP_Tr_tick t_runner_time x1 Q2 X2 := by
  unfold WP_Tr_tick at hp ⊢
  refine ⟨fun c1 => ?_, fun c1 => ?_⟩
  · have g1 := hp.1 c1
    exact hX _ _ g1
  · have g1 := hp.2 c1
    refine ⟨fun c3 => ?_, fun c3 => ?_⟩
    · have g2 := g1.1 c3
      exact hQ _ _ g2
    · have g2 := g1.2 c3
      exact hX _ _ g2
set_option maxRecDepth 100000 in
theorem qm_Tr_tick (t_runner_time : Int32) (x1 : Int32) {Q : Int32 → Int32 → Prop} {X : String → Int32 → Prop} (tgt : (Int32 × Int32) ⊕ (String × Int32)) (f0 : s_Tr_tick t_runner_time x1 = tgt) (hp : WP_Tr_tick t_runner_time x1 Q X) : Sum.elim (fun x => Q x.1 x.2) (fun x => X x.1 x.2) tgt := by
  unfold WP_Tr_tick at hp
  unfold s_Tr_tick at f0
  by_cases c1 : x1 < (1 : Int32)
  · have f1 := Eq.trans (Eq.symm (if_pos c1)) f0
    have g1 := hp.1 c1
    subst f1; exact g1
  · have f1 := Eq.trans (Eq.symm (if_neg c1)) f0
    have g1 := hp.2 c1
    by_cases c3 : x1 ≤ (100 : Int32)
    · have f2 := Eq.trans (Eq.symm (if_pos c3)) f1
      have g2 := g1.1 c3
      subst f2; exact g2
    · have f2 := Eq.trans (Eq.symm (if_neg c3)) f1
      have g2 := g1.2 c3
      subst f2; exact g2
theorem e_Tr_tick (t_runner_time : Int32) (x1 : Int32) {Q : Int32 → Int32 → Prop} {X : String → Int32 → Prop} (hp : WP_Tr_tick t_runner_time x1 Q X) : Sum.elim (fun x => Q x.1 x.2) (fun x => X x.1 x.2) (s_Tr_tick t_runner_time x1) := qm_Tr_tick t_runner_time x1 _ rfl hp
set_option maxRecDepth 100000 in
theorem pm_Tr_variable (t_runner_variables : Nat → UInt64) (x1 : Int32) (x2 : Int32) {Q Q2 : UInt64 → Unit → Prop} {X X2 : String → Unit → Prop} (hQ : ∀ r u, Q r u → Q2 r u) (hX : ∀ r u, X r u → X2 r u) (hp : WP_Tr_variable t_runner_variables x1 x2 Q X) : WP_Tr_variable t_runner_variables x1 x2 Q2 X2 := by
  unfold WP_Tr_variable at hp ⊢
  intro r1 e3
  have g1 := hp r1 e3
  refine ⟨fun c5 => ?_, fun c5 => ?_⟩
  · have g2 := g1.1 c5
    refine ⟨fun c7 => ?_, fun c7 => ?_⟩
    · have g3 := g2.1 c7
      refine ⟨g3.1, ?_⟩
      intro r9 e11
      have g4 := g3.2 r9 e11
      exact hQ _ _ g4
    · have g3 := g2.2 c7
      intro r13 e15
      have g5 := g3 r13 e15
      refine ⟨fun c17 => ?_, fun c17 => ?_⟩
      · have g6 := g5.1 c17
        refine ⟨g6.1, ?_⟩
        intro r19 e21
        have g7 := g6.2 r19 e21
        exact hQ _ _ g7
      · have g6 := g5.2 c17
        exact hX _ _ g6
  · have g2 := g1.2 c5
    exact hX _ _ g2
set_option maxRecDepth 100000 in
theorem qm_Tr_variable (t_runner_variables : Nat → UInt64) (x1 : Int32) (x2 : Int32) {Q : UInt64 → Unit → Prop} {X : String → Unit → Prop} (tgt : (UInt64) ⊕ (String)) (f0 : s_Tr_variable t_runner_variables x1 x2 = tgt) (hp : WP_Tr_variable t_runner_variables x1 x2 Q X) : Sum.elim (fun x => Q x ()) (fun x => X x ()) tgt := by
  unfold WP_Tr_variable at hp
  unfold s_Tr_variable at f0
  obtain ⟨r1, e3⟩ := zex1 (s_Tr_isWithin x1 (6 : Int32))
  have g1 := hp r1 e3
  have f1 := Eq.trans (Eq.symm (zl1_eq e3)) f0
  by_cases c5 : r1 = 0
  · have f2 := Eq.trans (Eq.symm (if_pos c5)) f1
    have g2 := g1.2 c5
    subst f2; exact g2
  · have f2 := Eq.trans (Eq.symm (if_neg c5)) f1
    have g2 := g1.1 c5
    by_cases c7 : x1 < (3 : Int32)
    · have f3 := Eq.trans (Eq.symm (if_pos c7)) f2
      have g3 := g2.1 c7
      obtain ⟨r9, e11⟩ := zex1 (s_Rn_get t_runner_variables x1 x2)
      have g4 := g3.2 r9 e11
      have f4 := Eq.trans (Eq.symm (zl1_eq e11)) f3
      subst f4; exact g4
    · have f3 := Eq.trans (Eq.symm (if_neg c7)) f2
      have g3 := g2.2 c7
      obtain ⟨r13, e15⟩ := zex1 (s_Tr_isWithin x2 (4 : Int32))
      have g5 := g3 r13 e15
      have f5 := Eq.trans (Eq.symm (zl1_eq e15)) f3
      by_cases c17 : r13 = 0
      · have f6 := Eq.trans (Eq.symm (if_pos c17)) f5
        have g6 := g5.2 c17
        subst f6; exact g6
      · have f6 := Eq.trans (Eq.symm (if_neg c17)) f5
        have g6 := g5.1 c17
        obtain ⟨r19, e21⟩ := zex1 (s_Rn_get t_runner_variables x1 x2)
        have g7 := g6.2 r19 e21
        have f7 := Eq.trans (Eq.symm (zl1_eq e21)) f6
        subst f7; exact g7
theorem e_Tr_variable (t_runner_variables : Nat → UInt64) (x1 : Int32) (x2 : Int32) {Q : UInt64 → Unit → Prop} {X : String → Unit → Prop} (hp : WP_Tr_variable t_runner_variables x1 x2 Q X) : p_Tr_variable t_runner_variables x1 x2 ∧ Sum.elim (fun x => Q x ()) (fun x => X x ()) (s_Tr_variable t_runner_variables x1 x2) := ⟨pm_Tr_variable t_runner_variables x1 x2 (fun _ _ _ => trivial) (fun _ _ _ => trivial) hp, qm_Tr_variable t_runner_variables x1 x2 _ rfl hp⟩
set_option maxRecDepth 100000 in
theorem pm_Tr_gathered (t_runner_gatherers_e_size : Nat → Int32) (t_runner_gatherers_e_keys : Nat → Nat → Int32) (t_runner_gatherers_e_values : Nat → Nat → Int32) (t_runner_gatherers_e_sums : Nat → Nat → UInt64) (t_runner_gatherers_e_greatest : Nat → Nat → UInt64) (t_runner_gatherers_e_least : Nat → Nat → UInt64) (x1 : Int32) (x2 : Int32) (x3 : Int32) {Q Q2 : UInt64 → Unit → Prop} {X X2 : String → Unit → Prop} (hQ : ∀ r u, Q r u → Q2 r u) (hX : ∀ r u, X r u → X2 r u) (hp : WP_Tr_gathered t_runner_gatherers_e_size t_runner_gatherers_e_keys t_runner_gatherers_e_values t_runner_gatherers_e_sums t_runner_gatherers_e_greatest t_runner_gatherers_e_least x1 x2 x3 Q X) : WP_Tr_gathered t_runner_gatherers_e_size t_runner_gatherers_e_keys t_runner_gatherers_e_values t_runner_gatherers_e_sums t_runner_gatherers_e_greatest t_runner_gatherers_e_least x1 x2 x3 Q2 X2 := by
  unfold WP_Tr_gathered at hp ⊢
  intro r1 e3
  have g1 := hp r1 e3
  refine ⟨fun c5 => ?_, fun c5 => ?_⟩
  · have g2 := g1.1 c5
    exact hX _ _ g2
  · have g2 := g1.2 c5
    intro r7 e9
    have g3 := g2 r7 e9
    refine ⟨fun c11 => ?_, fun c11 => ?_⟩
    · have g4 := g3.1 c11
      refine ⟨g4.1, fun j14 hj13 hlt_ => ?_⟩
      have g5 := g4.2 j14 hj13 hlt_
      refine ⟨g5.1, ?_⟩
      intro r48 e50
      have g6 := g5.2 r48 e50
      refine ⟨fun c52 => ?_, fun c52 => ?_⟩
      · have g7 := g6.1 c52
        refine ⟨g7.1, ?_⟩
        intro r54 e56
        have g8 := g7.2 r54 e56
        exact hQ _ _ g8
      · have g7 := g6.2 c52
        exact hX _ _ g7
    · have g4 := g3.2 c11
      exact hX _ _ g4
set_option maxRecDepth 100000 in
theorem qm_Tr_gathered (t_runner_gatherers_e_size : Nat → Int32) (t_runner_gatherers_e_keys : Nat → Nat → Int32) (t_runner_gatherers_e_values : Nat → Nat → Int32) (t_runner_gatherers_e_sums : Nat → Nat → UInt64) (t_runner_gatherers_e_greatest : Nat → Nat → UInt64) (t_runner_gatherers_e_least : Nat → Nat → UInt64) (x1 : Int32) (x2 : Int32) (x3 : Int32) {Q : UInt64 → Unit → Prop} {X : String → Unit → Prop} (tgt : (UInt64) ⊕ (String)) (f0 : s_Tr_gathered t_runner_gatherers_e_size t_runner_gatherers_e_keys t_runner_gatherers_e_values t_runner_gatherers_e_sums t_runner_gatherers_e_greatest t_runner_gatherers_e_least x1 x2 x3 = tgt) (hp : WP_Tr_gathered t_runner_gatherers_e_size t_runner_gatherers_e_keys t_runner_gatherers_e_values t_runner_gatherers_e_sums t_runner_gatherers_e_greatest t_runner_gatherers_e_least x1 x2 x3 Q X) : Sum.elim (fun x => Q x ()) (fun x => X x ()) tgt := by
  unfold WP_Tr_gathered at hp
  unfold s_Tr_gathered at f0
  obtain ⟨r1, e3⟩ := zex1 (s_Tr_isWithin x1 (3 : Int32))
  have g1 := hp r1 e3
  have f1 := Eq.trans (Eq.symm (zl1_eq e3)) f0
  by_cases c5 : r1 = 0
  · have f2 := Eq.trans (Eq.symm (if_pos c5)) f1
    have g2 := g1.1 c5
    subst f2; exact g2
  · have f2 := Eq.trans (Eq.symm (if_neg c5)) f1
    have g2 := g1.2 c5
    obtain ⟨r7, e9⟩ := zex1 (s_Tr_isWithin x3 (4 : Int32))
    have g3 := g2 r7 e9
    have f3 := Eq.trans (Eq.symm (zl1_eq e9)) f2
    by_cases c11 : r7 = 0
    · have f4 := Eq.trans (Eq.symm (if_pos c11)) f3
      have g4 := g3.2 c11
      subst f4; exact g4
    · have f4 := Eq.trans (Eq.symm (if_neg c11)) f3
      have g4 := g3.1 c11
      obtain ⟨j14, hlt_, hj13⟩ := vp_in_of g4.1 (by decide)
      have g5 := g4.2 j14 hj13 hlt_
      have f5 := Eq.trans (Eq.symm (zl1_eq (zix_cl hj13 (Nat.lt_trans hlt_ (by decide : 3 < 2 ^ 31))))) f4
      obtain ⟨r48, e50⟩ := zex1 (s_Ga_rowOf (t_runner_gatherers_e_size j14) (t_runner_gatherers_e_keys j14) x2)
      have g6 := g5.2 r48 e50
      have f6 := Eq.trans (Eq.symm (zl1_eq e50)) f5
      by_cases c52 : 0 ≤ r48
      · have f7 := Eq.trans (Eq.symm (if_pos c52)) f6
        have g7 := g6.1 c52
        obtain ⟨r54, e56⟩ := zex1 (s_Ga_figure (t_runner_gatherers_e_values j14) (t_runner_gatherers_e_sums j14) (t_runner_gatherers_e_greatest j14) (t_runner_gatherers_e_least j14) r48 x3)
        have g8 := g7.2 r54 e56
        have f8 := Eq.trans (Eq.symm (zl1_eq e56)) f7
        subst f8; exact g8
      · have f7 := Eq.trans (Eq.symm (if_neg c52)) f6
        have g7 := g6.2 c52
        subst f7; exact g7
theorem e_Tr_gathered (t_runner_gatherers_e_size : Nat → Int32) (t_runner_gatherers_e_keys : Nat → Nat → Int32) (t_runner_gatherers_e_values : Nat → Nat → Int32) (t_runner_gatherers_e_sums : Nat → Nat → UInt64) (t_runner_gatherers_e_greatest : Nat → Nat → UInt64) (t_runner_gatherers_e_least : Nat → Nat → UInt64) (x1 : Int32) (x2 : Int32) (x3 : Int32) {Q : UInt64 → Unit → Prop} {X : String → Unit → Prop} (hp : WP_Tr_gathered t_runner_gatherers_e_size t_runner_gatherers_e_keys t_runner_gatherers_e_values t_runner_gatherers_e_sums t_runner_gatherers_e_greatest t_runner_gatherers_e_least x1 x2 x3 Q X) : p_Tr_gathered t_runner_gatherers_e_size t_runner_gatherers_e_keys t_runner_gatherers_e_values t_runner_gatherers_e_sums t_runner_gatherers_e_greatest t_runner_gatherers_e_least x1 x2 x3 ∧ Sum.elim (fun x => Q x ()) (fun x => X x ()) (s_Tr_gathered t_runner_gatherers_e_size t_runner_gatherers_e_keys t_runner_gatherers_e_values t_runner_gatherers_e_sums t_runner_gatherers_e_greatest t_runner_gatherers_e_least x1 x2 x3) := ⟨pm_Tr_gathered t_runner_gatherers_e_size t_runner_gatherers_e_keys t_runner_gatherers_e_values t_runner_gatherers_e_sums t_runner_gatherers_e_greatest t_runner_gatherers_e_least x1 x2 x3 (fun _ _ _ => trivial) (fun _ _ _ => trivial) hp, qm_Tr_gathered t_runner_gatherers_e_size t_runner_gatherers_e_keys t_runner_gatherers_e_values t_runner_gatherers_e_sums t_runner_gatherers_e_greatest t_runner_gatherers_e_least x1 x2 x3 _ rfl hp⟩
set_option maxRecDepth 100000 in
theorem pm_Tr_many (t_runner_gatherers_e_size : Nat → Int32) (t_runner_gatherers_e_keys : Nat → Nat → Int32) (t_runner_gatherers_e_values : Nat → Nat → Int32) (t_runner_gatherers_e_bins : Nat → Nat → Int32) (x1 : Int32) (x2 : Int32) (x3 : Int32) {Q Q2 : Int32 → Unit → Prop} {X X2 : String → Unit → Prop} (hQ : ∀ r u, Q r u → Q2 r u) (hX : ∀ r u, X r u → X2 r u) (hp : WP_Tr_many t_runner_gatherers_e_size t_runner_gatherers_e_keys t_runner_gatherers_e_values t_runner_gatherers_e_bins x1 x2 x3 Q X) : WP_Tr_many t_runner_gatherers_e_size t_runner_gatherers_e_keys t_runner_gatherers_e_values t_runner_gatherers_e_bins x1 x2 x3 Q2 X2 := by
  unfold WP_Tr_many at hp ⊢
  intro r1 e3
  have g1 := hp r1 e3
  refine ⟨fun c5 => ?_, fun c5 => ?_⟩
  · have g2 := g1.1 c5
    exact hX _ _ g2
  · have g2 := g1.2 c5
    intro r7 e9
    have g3 := g2 r7 e9
    refine ⟨fun c11 => ?_, fun c11 => ?_⟩
    · have g4 := g3.1 c11
      refine ⟨g4.1, fun j14 hj13 hlt_ => ?_⟩
      have g5 := g4.2 j14 hj13 hlt_
      refine ⟨g5.1, ?_⟩
      intro r48 e50
      have g6 := g5.2 r48 e50
      refine ⟨fun c52 => ?_, fun c52 => ?_⟩
      · have g7 := g6.1 c52
        refine ⟨fun c54 => ?_, fun c54 => ?_⟩
        · have g8 := g7.1 c54
          refine ⟨g8.1, ?_⟩
          have g9 := g8.2
          exact hQ _ _ g9
        · have g8 := g7.2 c54
          refine ⟨g8.1, ?_⟩
          have g10 := g8.2
          exact hQ _ _ g10
      · have g7 := g6.2 c52
        exact hX _ _ g7
    · have g4 := g3.2 c11
      exact hX _ _ g4
set_option maxRecDepth 100000 in
theorem qm_Tr_many (t_runner_gatherers_e_size : Nat → Int32) (t_runner_gatherers_e_keys : Nat → Nat → Int32) (t_runner_gatherers_e_values : Nat → Nat → Int32) (t_runner_gatherers_e_bins : Nat → Nat → Int32) (x1 : Int32) (x2 : Int32) (x3 : Int32) {Q : Int32 → Unit → Prop} {X : String → Unit → Prop} (tgt : (Int32) ⊕ (String)) (f0 : s_Tr_many t_runner_gatherers_e_size t_runner_gatherers_e_keys t_runner_gatherers_e_values t_runner_gatherers_e_bins x1 x2 x3 = tgt) (hp : WP_Tr_many t_runner_gatherers_e_size t_runner_gatherers_e_keys t_runner_gatherers_e_values t_runner_gatherers_e_bins x1 x2 x3 Q X) : Sum.elim (fun x => Q x ()) (fun x => X x ()) tgt := by
  unfold WP_Tr_many at hp
  unfold s_Tr_many at f0
  obtain ⟨r1, e3⟩ := zex1 (s_Tr_isWithin x1 (3 : Int32))
  have g1 := hp r1 e3
  have f1 := Eq.trans (Eq.symm (zl1_eq e3)) f0
  by_cases c5 : r1 = 0
  · have f2 := Eq.trans (Eq.symm (if_pos c5)) f1
    have g2 := g1.1 c5
    subst f2; exact g2
  · have f2 := Eq.trans (Eq.symm (if_neg c5)) f1
    have g2 := g1.2 c5
    obtain ⟨r7, e9⟩ := zex1 (s_Tr_isWithin x3 (9 : Int32))
    have g3 := g2 r7 e9
    have f3 := Eq.trans (Eq.symm (zl1_eq e9)) f2
    by_cases c11 : r7 = 0
    · have f4 := Eq.trans (Eq.symm (if_pos c11)) f3
      have g4 := g3.2 c11
      subst f4; exact g4
    · have f4 := Eq.trans (Eq.symm (if_neg c11)) f3
      have g4 := g3.1 c11
      obtain ⟨j14, hlt_, hj13⟩ := vp_in_of g4.1 (by decide)
      have g5 := g4.2 j14 hj13 hlt_
      have f5 := Eq.trans (Eq.symm (zl1_eq (zix_cl hj13 (Nat.lt_trans hlt_ (by decide : 3 < 2 ^ 31))))) f4
      obtain ⟨r48, e50⟩ := zex1 (s_Ga_rowOf (t_runner_gatherers_e_size j14) (t_runner_gatherers_e_keys j14) x2)
      have g6 := g5.2 r48 e50
      have f6 := Eq.trans (Eq.symm (zl1_eq e50)) f5
      by_cases c52 : 0 ≤ r48
      · have f7 := Eq.trans (Eq.symm (if_pos c52)) f6
        have g7 := g6.1 c52
        by_cases c54 : x3 = (8 : Int32)
        · have f8 := Eq.trans (Eq.symm (if_pos c54)) f7
          have g8 := g7.2 c54
          have g9 := g8.2
          subst f8; exact g9
        · have f8 := Eq.trans (Eq.symm (if_neg c54)) f7
          have g8 := g7.1 c54
          have g10 := g8.2
          subst f8; exact g10
      · have f7 := Eq.trans (Eq.symm (if_neg c52)) f6
        have g7 := g6.2 c52
        subst f7; exact g7
theorem e_Tr_many (t_runner_gatherers_e_size : Nat → Int32) (t_runner_gatherers_e_keys : Nat → Nat → Int32) (t_runner_gatherers_e_values : Nat → Nat → Int32) (t_runner_gatherers_e_bins : Nat → Nat → Int32) (x1 : Int32) (x2 : Int32) (x3 : Int32) {Q : Int32 → Unit → Prop} {X : String → Unit → Prop} (hp : WP_Tr_many t_runner_gatherers_e_size t_runner_gatherers_e_keys t_runner_gatherers_e_values t_runner_gatherers_e_bins x1 x2 x3 Q X) : p_Tr_many t_runner_gatherers_e_size t_runner_gatherers_e_keys t_runner_gatherers_e_values t_runner_gatherers_e_bins x1 x2 x3 ∧ Sum.elim (fun x => Q x ()) (fun x => X x ()) (s_Tr_many t_runner_gatherers_e_size t_runner_gatherers_e_keys t_runner_gatherers_e_values t_runner_gatherers_e_bins x1 x2 x3) := ⟨pm_Tr_many t_runner_gatherers_e_size t_runner_gatherers_e_keys t_runner_gatherers_e_values t_runner_gatherers_e_bins x1 x2 x3 (fun _ _ _ => trivial) (fun _ _ _ => trivial) hp, qm_Tr_many t_runner_gatherers_e_size t_runner_gatherers_e_keys t_runner_gatherers_e_values t_runner_gatherers_e_bins x1 x2 x3 _ rfl hp⟩
set_option maxRecDepth 100000 in
theorem pm_Tr_record (t_runner_records_oldest : Int32) (t_runner_records_size : Int32) (t_runner_records_ring : Nat → UInt64) {Q Q2 : UInt64 → (Int32 × Int32) → Prop} {X X2 : String → (Int32 × Int32) → Prop} (hQ : ∀ r u, Q r u → Q2 r u) (hX : ∀ r u, X r u → X2 r u) (hp : WP_Tr_record t_runner_records_oldest t_runner_records_size t_runner_records_ring Q X) : WP_Tr_record t_runner_records_oldest t_runner_records_size t_runner_records_ring Q2 X2 := by
  unfold WP_Tr_record at hp ⊢
  refine ⟨fun c1 => ?_, fun c1 => ?_⟩
  · have g1 := hp.1 c1
    refine ⟨g1.1, ?_⟩
    intro r3 m6 m7 e5
    have g2 := g1.2 r3 m6 m7 e5
    exact hQ _ _ g2
  · have g1 := hp.2 c1
    exact hX _ _ g1
set_option maxRecDepth 100000 in
theorem qm_Tr_record (t_runner_records_oldest : Int32) (t_runner_records_size : Int32) (t_runner_records_ring : Nat → UInt64) {Q : UInt64 → (Int32 × Int32) → Prop} {X : String → (Int32 × Int32) → Prop} (tgt : (UInt64 × Int32 × Int32) ⊕ (String × Int32 × Int32)) (f0 : s_Tr_record t_runner_records_oldest t_runner_records_size t_runner_records_ring = tgt) (hp : WP_Tr_record t_runner_records_oldest t_runner_records_size t_runner_records_ring Q X) : Sum.elim (fun x => Q x.1 x.2) (fun x => X x.1 x.2) tgt := by
  unfold WP_Tr_record at hp
  unfold s_Tr_record at f0
  by_cases c1 : t_runner_records_size = 0
  · have f1 := Eq.trans (Eq.symm (if_pos c1)) f0
    have g1 := hp.2 c1
    subst f1; exact g1
  · have f1 := Eq.trans (Eq.symm (if_neg c1)) f0
    have g1 := hp.1 c1
    obtain ⟨r3, m6, m7, e5⟩ := zex3 (s_Re_take t_runner_records_oldest t_runner_records_size t_runner_records_ring)
    have g2 := g1.2 r3 m6 m7 e5
    have f2 := Eq.trans (Eq.symm (zl2_eq e5)) f1
    have f2 := Eq.trans (Eq.symm (zl2_eq (Eq.refl (m6, m7)))) f2
    subst f2; exact g2
theorem e_Tr_record (t_runner_records_oldest : Int32) (t_runner_records_size : Int32) (t_runner_records_ring : Nat → UInt64) {Q : UInt64 → (Int32 × Int32) → Prop} {X : String → (Int32 × Int32) → Prop} (hp : WP_Tr_record t_runner_records_oldest t_runner_records_size t_runner_records_ring Q X) : p_Tr_record t_runner_records_oldest t_runner_records_size t_runner_records_ring ∧ Sum.elim (fun x => Q x.1 x.2) (fun x => X x.1 x.2) (s_Tr_record t_runner_records_oldest t_runner_records_size t_runner_records_ring) := ⟨pm_Tr_record t_runner_records_oldest t_runner_records_size t_runner_records_ring (fun _ _ _ => trivial) (fun _ _ _ => trivial) hp, qm_Tr_record t_runner_records_oldest t_runner_records_size t_runner_records_ring _ rfl hp⟩
set_option maxRecDepth 100000 in
theorem pm_Tr_fire_L84 {Q Q2 : Int32 → (Int32 × Int32 × Int32 × UInt64 × UInt64 × UInt64 × Int32 × Int32 × Int32 × Int32 × (Nat → Int32) × (Nat → Int32) × (Nat → UInt64) × (Nat → UInt64) × (Nat → Int32) × Int32 × Int32 × Int32 × (Nat → Nat → Int32) × (Nat → Nat → UInt64) × (Nat → Nat → Int32) × (Nat → Nat → Int32) × (Nat → Nat → UInt64) × (Nat → Nat → UInt64) × (Nat → UInt64)) → Prop} {X X2 : String → (Int32 × Int32 × Int32 × UInt64 × UInt64 × UInt64 × Int32 × Int32 × Int32 × Int32 × (Nat → Int32) × (Nat → Int32) × (Nat → UInt64) × (Nat → UInt64) × (Nat → Int32) × Int32 × Int32 × Int32 × (Nat → Nat → Int32) × (Nat → Nat → UInt64) × (Nat → Nat → Int32) × (Nat → Nat → Int32) × (Nat → Nat → UInt64) × (Nat → Nat → UInt64) × (Nat → UInt64)) → Prop} (hQ : ∀ r u, Q r u → Q2 r u) (hX : ∀ r u, X r u → X2 r u) : ∀ (n : Nat) (y1 : Int32) (y2 : Int32) (y3 : Int32) (y4 : UInt64) (y6 : UInt64) (y8 : UInt64) (y10 : Int32) (y11 : Int32) (y12 : Int32) (t_firings : Int32) (t_runner_time : Int32) (t_runner_dropped : Int32) (t_runner_thread : Int32) (t_runner_handedA : UInt64) (t_runner_handedB : UInt64) (t_runner_handedC : UInt64) (t_runner_top : Int32) (t_runner_over : Int32) (t_runner_failed : Int32) (t_runner_met : Int32) (t_rules_e_length : Nat → Int32) (t_rules_e_site : Nat → Int32) (t_rules_e_exit : Nat → Int32) (t_rules_e_conditional : Nat → Int32) (t_rules_e_on : Nat → Int32) (t_rules_e_failures : Nat → Int32) (t_rules_e_meetings : Nat → Int32) (t_rules_e_steps : Nat → Nat → Int32) (t_runner_stack : Nat → UInt64) (t_runner_variables : Nat → UInt64) (t_runner_gatherers_e_size : Nat → Int32) (t_runner_records_oldest : Int32) (t_runner_records_size : Int32) (t_runner_records_lost : Int32) (t_runner_gatherers_e_keys : Nat → Nat → Int32) (t_runner_gatherers_e_sums : Nat → Nat → UInt64) (t_runner_gatherers_e_values : Nat → Nat → Int32) (t_runner_gatherers_e_bins : Nat → Nat → Int32) (t_runner_gatherers_e_least : Nat → Nat → UInt64) (t_runner_gatherers_e_greatest : Nat → Nat → UInt64) (t_runner_records_ring : Nat → UInt64), WP_Tr_fire_L84 n y1 y2 y3 y4 y6 y8 y10 y11 y12 t_firings t_runner_time t_runner_dropped t_runner_thread t_runner_handedA t_runner_handedB t_runner_handedC t_runner_top t_runner_over t_runner_failed t_runner_met t_rules_e_length t_rules_e_site t_rules_e_exit t_rules_e_conditional t_rules_e_on t_rules_e_failures t_rules_e_meetings t_rules_e_steps t_runner_stack t_runner_variables t_runner_gatherers_e_size t_runner_records_oldest t_runner_records_size t_runner_records_lost t_runner_gatherers_e_keys t_runner_gatherers_e_sums t_runner_gatherers_e_values t_runner_gatherers_e_bins t_runner_gatherers_e_least t_runner_gatherers_e_greatest t_runner_records_ring Q X → WP_Tr_fire_L84 n y1 y2 y3 y4 y6 y8 y10 y11 y12 t_firings t_runner_time t_runner_dropped t_runner_thread t_runner_handedA t_runner_handedB t_runner_handedC t_runner_top t_runner_over t_runner_failed t_runner_met t_rules_e_length t_rules_e_site t_rules_e_exit t_rules_e_conditional t_rules_e_on t_rules_e_failures t_rules_e_meetings t_rules_e_steps t_runner_stack t_runner_variables t_runner_gatherers_e_size t_runner_records_oldest t_runner_records_size t_runner_records_lost t_runner_gatherers_e_keys t_runner_gatherers_e_sums t_runner_gatherers_e_values t_runner_gatherers_e_bins t_runner_gatherers_e_least t_runner_gatherers_e_greatest t_runner_records_ring Q2 X2 := by
  intro n
  induction n with
  | zero => intros; contradiction
  | succ n ih =>
    intro y1 y2 y3 y4 y6 y8 y10 y11 y12 t_firings t_runner_time t_runner_dropped t_runner_thread t_runner_handedA t_runner_handedB t_runner_handedC t_runner_top t_runner_over t_runner_failed t_runner_met t_rules_e_length t_rules_e_site t_rules_e_exit t_rules_e_conditional t_rules_e_on t_rules_e_failures t_rules_e_meetings t_rules_e_steps t_runner_stack t_runner_variables t_runner_gatherers_e_size t_runner_records_oldest t_runner_records_size t_runner_records_lost t_runner_gatherers_e_keys t_runner_gatherers_e_sums t_runner_gatherers_e_values t_runner_gatherers_e_bins t_runner_gatherers_e_least t_runner_gatherers_e_greatest t_runner_records_ring hp
    unfold WP_Tr_fire_L84 at hp ⊢
    refine ⟨fun c39 => ?_, fun c39 => ?_⟩
    · have g1 := hp.1 c39
      refine ⟨fun c41 => ?_, fun c41 => ?_⟩
      · have g2 := g1.1 c41
        exact hQ _ _ g2
      · have g2 := g1.2 c41
        exact hQ _ _ g2
    · have g1 := hp.2 c39
      refine ⟨g1.1, fun j44 hj43 hlt_ => ?_⟩
      have g3 := g1.2 j44 hj43 hlt_
      intro r243 e245
      have g4 := g3 r243 e245
      refine ⟨fun c247 => ?_, fun c247 => ?_⟩
      · have g5 := g4.1 c247
        exact ih _ _ _ _ _ _ _ _ _ _ _ _ _ _ _ _ _ _ _ _ _ _ _ _ _ _ _ _ _ _ _ _ _ _ _ _ _ _ _ _ _ g5
      · have g5 := g4.2 c247
        refine ⟨g5.1, ?_⟩
        intro r249 m252 m253 m254 m255 m256 m257 m258 m259 m260 m261 m262 m263 m264 m265 m266 m267 m268 m269 m270 m271 e251
        have g6 := g5.2 r249 m252 m253 m254 m255 m256 m257 m258 m259 m260 m261 m262 m263 m264 m265 m266 m267 m268 m269 m270 m271 e251
        refine ⟨fun c273 => ?_, fun c273 => ?_⟩
        · have g7 := g6.1 c273
          exact ih _ _ _ _ _ _ _ _ _ _ _ _ _ _ _ _ _ _ _ _ _ _ _ _ _ _ _ _ _ _ _ _ _ _ _ _ _ _ _ _ _ g7
        · have g7 := g6.2 c273
          exact ih _ _ _ _ _ _ _ _ _ _ _ _ _ _ _ _ _ _ _ _ _ _ _ _ _ _ _ _ _ _ _ _ _ _ _ _ _ _ _ _ _ g7
set_option maxRecDepth 100000 in
theorem qm_Tr_fire_L84 {Q : Int32 → (Int32 × Int32 × Int32 × UInt64 × UInt64 × UInt64 × Int32 × Int32 × Int32 × Int32 × (Nat → Int32) × (Nat → Int32) × (Nat → UInt64) × (Nat → UInt64) × (Nat → Int32) × Int32 × Int32 × Int32 × (Nat → Nat → Int32) × (Nat → Nat → UInt64) × (Nat → Nat → Int32) × (Nat → Nat → Int32) × (Nat → Nat → UInt64) × (Nat → Nat → UInt64) × (Nat → UInt64)) → Prop} {X : String → (Int32 × Int32 × Int32 × UInt64 × UInt64 × UInt64 × Int32 × Int32 × Int32 × Int32 × (Nat → Int32) × (Nat → Int32) × (Nat → UInt64) × (Nat → UInt64) × (Nat → Int32) × Int32 × Int32 × Int32 × (Nat → Nat → Int32) × (Nat → Nat → UInt64) × (Nat → Nat → Int32) × (Nat → Nat → Int32) × (Nat → Nat → UInt64) × (Nat → Nat → UInt64) × (Nat → UInt64)) → Prop} : ∀ (n : Nat) (y1 : Int32) (y2 : Int32) (y3 : Int32) (y4 : UInt64) (y6 : UInt64) (y8 : UInt64) (y10 : Int32) (y11 : Int32) (y12 : Int32) (t_firings : Int32) (t_runner_time : Int32) (t_runner_dropped : Int32) (t_runner_thread : Int32) (t_runner_handedA : UInt64) (t_runner_handedB : UInt64) (t_runner_handedC : UInt64) (t_runner_top : Int32) (t_runner_over : Int32) (t_runner_failed : Int32) (t_runner_met : Int32) (t_rules_e_length : Nat → Int32) (t_rules_e_site : Nat → Int32) (t_rules_e_exit : Nat → Int32) (t_rules_e_conditional : Nat → Int32) (t_rules_e_on : Nat → Int32) (t_rules_e_failures : Nat → Int32) (t_rules_e_meetings : Nat → Int32) (t_rules_e_steps : Nat → Nat → Int32) (t_runner_stack : Nat → UInt64) (t_runner_variables : Nat → UInt64) (t_runner_gatherers_e_size : Nat → Int32) (t_runner_records_oldest : Int32) (t_runner_records_size : Int32) (t_runner_records_lost : Int32) (t_runner_gatherers_e_keys : Nat → Nat → Int32) (t_runner_gatherers_e_sums : Nat → Nat → UInt64) (t_runner_gatherers_e_values : Nat → Nat → Int32) (t_runner_gatherers_e_bins : Nat → Nat → Int32) (t_runner_gatherers_e_least : Nat → Nat → UInt64) (t_runner_gatherers_e_greatest : Nat → Nat → UInt64) (t_runner_records_ring : Nat → UInt64) (tgt : (Int32 × Int32 × Int32 × Int32 × UInt64 × UInt64 × UInt64 × Int32 × Int32 × Int32 × Int32 × (Nat → Int32) × (Nat → Int32) × (Nat → UInt64) × (Nat → UInt64) × (Nat → Int32) × Int32 × Int32 × Int32 × (Nat → Nat → Int32) × (Nat → Nat → UInt64) × (Nat → Nat → Int32) × (Nat → Nat → Int32) × (Nat → Nat → UInt64) × (Nat → Nat → UInt64) × (Nat → UInt64)) ⊕ (String × Int32 × Int32 × Int32 × UInt64 × UInt64 × UInt64 × Int32 × Int32 × Int32 × Int32 × (Nat → Int32) × (Nat → Int32) × (Nat → UInt64) × (Nat → UInt64) × (Nat → Int32) × Int32 × Int32 × Int32 × (Nat → Nat → Int32) × (Nat → Nat → UInt64) × (Nat → Nat → Int32) × (Nat → Nat → Int32) × (Nat → Nat → UInt64) × (Nat → Nat → UInt64) × (Nat → UInt64))), s_Tr_fire_L84 n y1 y2 y3 y4 y6 y8 y10 y11 y12 t_firings t_runner_time t_runner_dropped t_runner_thread t_runner_handedA t_runner_handedB t_runner_handedC t_runner_top t_runner_over t_runner_failed t_runner_met t_rules_e_length t_rules_e_site t_rules_e_exit t_rules_e_conditional t_rules_e_on t_rules_e_failures t_rules_e_meetings t_rules_e_steps t_runner_stack t_runner_variables t_runner_gatherers_e_size t_runner_records_oldest t_runner_records_size t_runner_records_lost t_runner_gatherers_e_keys t_runner_gatherers_e_sums t_runner_gatherers_e_values t_runner_gatherers_e_bins t_runner_gatherers_e_least t_runner_gatherers_e_greatest t_runner_records_ring = tgt → WP_Tr_fire_L84 n y1 y2 y3 y4 y6 y8 y10 y11 y12 t_firings t_runner_time t_runner_dropped t_runner_thread t_runner_handedA t_runner_handedB t_runner_handedC t_runner_top t_runner_over t_runner_failed t_runner_met t_rules_e_length t_rules_e_site t_rules_e_exit t_rules_e_conditional t_rules_e_on t_rules_e_failures t_rules_e_meetings t_rules_e_steps t_runner_stack t_runner_variables t_runner_gatherers_e_size t_runner_records_oldest t_runner_records_size t_runner_records_lost t_runner_gatherers_e_keys t_runner_gatherers_e_sums t_runner_gatherers_e_values t_runner_gatherers_e_bins t_runner_gatherers_e_least t_runner_gatherers_e_greatest t_runner_records_ring Q X → Sum.elim (fun x => Q x.1 x.2) (fun x => X x.1 x.2) tgt := by
  intro n
  induction n with
  | zero => intros; contradiction
  | succ n ih =>
    intro y1 y2 y3 y4 y6 y8 y10 y11 y12 t_firings t_runner_time t_runner_dropped t_runner_thread t_runner_handedA t_runner_handedB t_runner_handedC t_runner_top t_runner_over t_runner_failed t_runner_met t_rules_e_length t_rules_e_site t_rules_e_exit t_rules_e_conditional t_rules_e_on t_rules_e_failures t_rules_e_meetings t_rules_e_steps t_runner_stack t_runner_variables t_runner_gatherers_e_size t_runner_records_oldest t_runner_records_size t_runner_records_lost t_runner_gatherers_e_keys t_runner_gatherers_e_sums t_runner_gatherers_e_values t_runner_gatherers_e_bins t_runner_gatherers_e_least t_runner_gatherers_e_greatest t_runner_records_ring tgt f0 hp
    unfold WP_Tr_fire_L84 at hp
    unfold s_Tr_fire_L84 at f0
    by_cases c39 : (6 : Int32) ≤ y12
    · have f1 := Eq.trans (Eq.symm (if_pos c39)) f0
      have g1 := hp.1 c39
      by_cases c41 : y10 ≤ 0
      · have f2 := Eq.trans (Eq.symm (if_pos c41)) f1
        have g2 := g1.1 c41
        subst f2; exact g2
      · have f2 := Eq.trans (Eq.symm (if_neg c41)) f1
        have g2 := g1.2 c41
        subst f2; exact g2
    · have f1 := Eq.trans (Eq.symm (if_neg c39)) f0
      have g1 := hp.2 c39
      obtain ⟨j44, hlt_, hj43⟩ := vp_in_of g1.1 (by decide)
      have g3 := g1.2 j44 hj43 hlt_
      have f3 := Eq.trans (Eq.symm (zl1_eq (zix_cl hj43 (Nat.lt_trans hlt_ (by decide : 6 < 2 ^ 31))))) f1
      obtain ⟨r243, e245⟩ := zex1 (s_Ru_isDoneAt (t_rules_e_site j44) (t_rules_e_exit j44) (t_rules_e_on j44) y1 y2)
      have g4 := g3 r243 e245
      have f4 := Eq.trans (Eq.symm (zl1_eq e245)) f3
      by_cases c247 : r243 = 0
      · have f5 := Eq.trans (Eq.symm (if_pos c247)) f4
        have g5 := g4.1 c247
        exact ih _ _ _ _ _ _ _ _ _ _ _ _ _ _ _ _ _ _ _ _ _ _ _ _ _ _ _ _ _ _ _ _ _ _ _ _ _ _ _ _ _ _ f5 g5
      · have f5 := Eq.trans (Eq.symm (if_neg c247)) f4
        have g5 := g4.2 c247
        obtain ⟨r249, m252, m253, m254, m255, m256, m257, m258, m259, m260, m261, m262, m263, m264, m265, m266, m267, m268, m269, m270, m271, e251⟩ := zex21 (s_Rn_run (t_rules_e_length j44) (t_rules_e_conditional j44) (t_rules_e_failures j44) (t_rules_e_meetings j44) (t_rules_e_steps j44) t_runner_time t_runner_dropped t_runner_thread t_runner_handedA t_runner_handedB t_runner_handedC t_runner_top t_runner_over t_runner_failed t_runner_met t_runner_stack t_runner_variables t_runner_gatherers_e_size t_runner_records_oldest t_runner_records_size t_runner_records_lost t_runner_gatherers_e_keys t_runner_gatherers_e_sums t_runner_gatherers_e_values t_runner_gatherers_e_bins t_runner_gatherers_e_least t_runner_gatherers_e_greatest t_runner_records_ring)
        have g6 := g5.2 r249 m252 m253 m254 m255 m256 m257 m258 m259 m260 m261 m262 m263 m264 m265 m266 m267 m268 m269 m270 m271 e251
        have f6 := Eq.trans (Eq.symm (zl2_eq e251)) f5
        have f6 := Eq.trans (Eq.symm (zl2_eq (Eq.refl (m252, m253, m254, m255, m256, m257, m258, m259, m260, m261, m262, m263, m264, m265, m266, m267, m268, m269, m270, m271)))) f6
        have f6 := Eq.trans (Eq.symm (zl2_eq (Eq.refl (m253, m254, m255, m256, m257, m258, m259, m260, m261, m262, m263, m264, m265, m266, m267, m268, m269, m270, m271)))) f6
        have f6 := Eq.trans (Eq.symm (zl2_eq (Eq.refl (m254, m255, m256, m257, m258, m259, m260, m261, m262, m263, m264, m265, m266, m267, m268, m269, m270, m271)))) f6
        have f6 := Eq.trans (Eq.symm (zl2_eq (Eq.refl (m255, m256, m257, m258, m259, m260, m261, m262, m263, m264, m265, m266, m267, m268, m269, m270, m271)))) f6
        have f6 := Eq.trans (Eq.symm (zl2_eq (Eq.refl (m256, m257, m258, m259, m260, m261, m262, m263, m264, m265, m266, m267, m268, m269, m270, m271)))) f6
        have f6 := Eq.trans (Eq.symm (zl2_eq (Eq.refl (m257, m258, m259, m260, m261, m262, m263, m264, m265, m266, m267, m268, m269, m270, m271)))) f6
        have f6 := Eq.trans (Eq.symm (zl2_eq (Eq.refl (m258, m259, m260, m261, m262, m263, m264, m265, m266, m267, m268, m269, m270, m271)))) f6
        have f6 := Eq.trans (Eq.symm (zl2_eq (Eq.refl (m259, m260, m261, m262, m263, m264, m265, m266, m267, m268, m269, m270, m271)))) f6
        have f6 := Eq.trans (Eq.symm (zl2_eq (Eq.refl (m260, m261, m262, m263, m264, m265, m266, m267, m268, m269, m270, m271)))) f6
        have f6 := Eq.trans (Eq.symm (zl2_eq (Eq.refl (m261, m262, m263, m264, m265, m266, m267, m268, m269, m270, m271)))) f6
        have f6 := Eq.trans (Eq.symm (zl2_eq (Eq.refl (m262, m263, m264, m265, m266, m267, m268, m269, m270, m271)))) f6
        have f6 := Eq.trans (Eq.symm (zl2_eq (Eq.refl (m263, m264, m265, m266, m267, m268, m269, m270, m271)))) f6
        have f6 := Eq.trans (Eq.symm (zl2_eq (Eq.refl (m264, m265, m266, m267, m268, m269, m270, m271)))) f6
        have f6 := Eq.trans (Eq.symm (zl2_eq (Eq.refl (m265, m266, m267, m268, m269, m270, m271)))) f6
        have f6 := Eq.trans (Eq.symm (zl2_eq (Eq.refl (m266, m267, m268, m269, m270, m271)))) f6
        have f6 := Eq.trans (Eq.symm (zl2_eq (Eq.refl (m267, m268, m269, m270, m271)))) f6
        have f6 := Eq.trans (Eq.symm (zl2_eq (Eq.refl (m268, m269, m270, m271)))) f6
        have f6 := Eq.trans (Eq.symm (zl2_eq (Eq.refl (m269, m270, m271)))) f6
        have f6 := Eq.trans (Eq.symm (zl2_eq (Eq.refl (m270, m271)))) f6
        by_cases c273 : r249 = 0
        · have f7 := Eq.trans (Eq.symm (if_pos c273)) f6
          have g7 := g6.1 c273
          exact ih _ _ _ _ _ _ _ _ _ _ _ _ _ _ _ _ _ _ _ _ _ _ _ _ _ _ _ _ _ _ _ _ _ _ _ _ _ _ _ _ _ _ f7 g7
        · have f7 := Eq.trans (Eq.symm (if_neg c273)) f6
          have g7 := g6.2 c273
          exact ih _ _ _ _ _ _ _ _ _ _ _ _ _ _ _ _ _ _ _ _ _ _ _ _ _ _ _ _ _ _ _ _ _ _ _ _ _ _ _ _ _ _ f7 g7
set_option maxRecDepth 100000 in
theorem pm_Tr_fire (t_firings : Int32) (t_runner_time : Int32) (t_runner_dropped : Int32) (t_runner_thread : Int32) (t_runner_handedA : UInt64) (t_runner_handedB : UInt64) (t_runner_handedC : UInt64) (t_runner_top : Int32) (t_runner_over : Int32) (t_runner_failed : Int32) (t_runner_met : Int32) (t_rules_e_length : Nat → Int32) (t_rules_e_site : Nat → Int32) (t_rules_e_exit : Nat → Int32) (t_rules_e_conditional : Nat → Int32) (t_rules_e_on : Nat → Int32) (t_rules_e_failures : Nat → Int32) (t_rules_e_meetings : Nat → Int32) (t_rules_e_steps : Nat → Nat → Int32) (t_runner_stack : Nat → UInt64) (t_runner_variables : Nat → UInt64) (t_runner_gatherers_e_size : Nat → Int32) (t_runner_records_oldest : Int32) (t_runner_records_size : Int32) (t_runner_records_lost : Int32) (t_runner_gatherers_e_keys : Nat → Nat → Int32) (t_runner_gatherers_e_sums : Nat → Nat → UInt64) (t_runner_gatherers_e_values : Nat → Nat → Int32) (t_runner_gatherers_e_bins : Nat → Nat → Int32) (t_runner_gatherers_e_least : Nat → Nat → UInt64) (t_runner_gatherers_e_greatest : Nat → Nat → UInt64) (t_runner_records_ring : Nat → UInt64) (x1 : Int32) (x2 : Int32) (x3 : Int32) (x4 : UInt64) (x6 : UInt64) (x8 : UInt64) {Q Q2 : Int32 → (Int32 × Int32 × Int32 × UInt64 × UInt64 × UInt64 × Int32 × Int32 × Int32 × Int32 × (Nat → Int32) × (Nat → Int32) × (Nat → UInt64) × (Nat → UInt64) × (Nat → Int32) × Int32 × Int32 × Int32 × (Nat → Nat → Int32) × (Nat → Nat → UInt64) × (Nat → Nat → Int32) × (Nat → Nat → Int32) × (Nat → Nat → UInt64) × (Nat → Nat → UInt64) × (Nat → UInt64)) → Prop} {X X2 : String → (Int32 × Int32 × Int32 × UInt64 × UInt64 × UInt64 × Int32 × Int32 × Int32 × Int32 × (Nat → Int32) × (Nat → Int32) × (Nat → UInt64) × (Nat → UInt64) × (Nat → Int32) × Int32 × Int32 × Int32 × (Nat → Nat → Int32) × (Nat → Nat → UInt64) × (Nat → Nat → Int32) × (Nat → Nat → Int32) × (Nat → Nat → UInt64) × (Nat → Nat → UInt64) × (Nat → UInt64)) → Prop} (hQ : ∀ r u, Q r u → Q2 r u) (hX : ∀ r u, X r u → X2 r u) (hp : WP_Tr_fire t_firings t_runner_time t_runner_dropped t_runner_thread t_runner_handedA t_runner_handedB t_runner_handedC t_runner_top t_runner_over t_runner_failed t_runner_met t_rules_e_length t_rules_e_site t_rules_e_exit t_rules_e_conditional t_rules_e_on t_rules_e_failures t_rules_e_meetings t_rules_e_steps t_runner_stack t_runner_variables t_runner_gatherers_e_size t_runner_records_oldest t_runner_records_size t_runner_records_lost t_runner_gatherers_e_keys t_runner_gatherers_e_sums t_runner_gatherers_e_values t_runner_gatherers_e_bins t_runner_gatherers_e_least t_runner_gatherers_e_greatest t_runner_records_ring x1 x2 x3 x4 x6 x8 Q X) : WP_Tr_fire t_firings t_runner_time t_runner_dropped t_runner_thread t_runner_handedA t_runner_handedB t_runner_handedC t_runner_top t_runner_over t_runner_failed t_runner_met t_rules_e_length t_rules_e_site t_rules_e_exit t_rules_e_conditional t_rules_e_on t_rules_e_failures t_rules_e_meetings t_rules_e_steps t_runner_stack t_runner_variables t_runner_gatherers_e_size t_runner_records_oldest t_runner_records_size t_runner_records_lost t_runner_gatherers_e_keys t_runner_gatherers_e_sums t_runner_gatherers_e_values t_runner_gatherers_e_bins t_runner_gatherers_e_least t_runner_gatherers_e_greatest t_runner_records_ring x1 x2 x3 x4 x6 x8 Q2 X2 := by
  unfold WP_Tr_fire at hp ⊢
  intro r1 e3
  have g1 := hp r1 e3
  refine ⟨fun c5 => ?_, fun c5 => ?_⟩
  · have g2 := g1.1 c5
    exact hX _ _ g2
  · have g2 := g1.2 c5
    intro r7 e9
    have g3 := g2 r7 e9
    refine ⟨fun c11 => ?_, fun c11 => ?_⟩
    · have g4 := g3.1 c11
      intro r13 e15
      have g5 := g4 r13 e15
      refine ⟨fun c17 => ?_, fun c17 => ?_⟩
      · have g6 := g5.1 c17
        exact hX _ _ g6
      · have g6 := g5.2 c17
        intro r19 e21
        have g7 := g6 r19 e21
        refine ⟨fun c23 => ?_, fun c23 => ?_⟩
        · have g8 := g7.1 c23
          exact hX _ _ g8
        · have g8 := g7.2 c23
          intro r25 e27
          have g9 := g8 r25 e27
          refine ⟨fun c29 => ?_, fun c29 => ?_⟩
          · have g10 := g9.1 c29
            intro m34 m35 m36 m37 e33
            have g11 := g10 m34 m35 m36 m37 e33
            exact pm_Tr_fire_L84 hQ hX _ _ _ _ _ _ _ _ _ _ _ _ _ _ _ _ _ _ _ _ _ _ _ _ _ _ _ _ _ _ _ _ _ _ _ _ _ _ _ _ _ _ g11
          · have g10 := g9.2 c29
            exact hX _ _ g10
    · have g4 := g3.2 c11
      exact hX _ _ g4
set_option maxRecDepth 100000 in
theorem qm_Tr_fire (t_firings : Int32) (t_runner_time : Int32) (t_runner_dropped : Int32) (t_runner_thread : Int32) (t_runner_handedA : UInt64) (t_runner_handedB : UInt64) (t_runner_handedC : UInt64) (t_runner_top : Int32) (t_runner_over : Int32) (t_runner_failed : Int32) (t_runner_met : Int32) (t_rules_e_length : Nat → Int32) (t_rules_e_site : Nat → Int32) (t_rules_e_exit : Nat → Int32) (t_rules_e_conditional : Nat → Int32) (t_rules_e_on : Nat → Int32) (t_rules_e_failures : Nat → Int32) (t_rules_e_meetings : Nat → Int32) (t_rules_e_steps : Nat → Nat → Int32) (t_runner_stack : Nat → UInt64) (t_runner_variables : Nat → UInt64) (t_runner_gatherers_e_size : Nat → Int32) (t_runner_records_oldest : Int32) (t_runner_records_size : Int32) (t_runner_records_lost : Int32) (t_runner_gatherers_e_keys : Nat → Nat → Int32) (t_runner_gatherers_e_sums : Nat → Nat → UInt64) (t_runner_gatherers_e_values : Nat → Nat → Int32) (t_runner_gatherers_e_bins : Nat → Nat → Int32) (t_runner_gatherers_e_least : Nat → Nat → UInt64) (t_runner_gatherers_e_greatest : Nat → Nat → UInt64) (t_runner_records_ring : Nat → UInt64) (x1 : Int32) (x2 : Int32) (x3 : Int32) (x4 : UInt64) (x6 : UInt64) (x8 : UInt64) {Q : Int32 → (Int32 × Int32 × Int32 × UInt64 × UInt64 × UInt64 × Int32 × Int32 × Int32 × Int32 × (Nat → Int32) × (Nat → Int32) × (Nat → UInt64) × (Nat → UInt64) × (Nat → Int32) × Int32 × Int32 × Int32 × (Nat → Nat → Int32) × (Nat → Nat → UInt64) × (Nat → Nat → Int32) × (Nat → Nat → Int32) × (Nat → Nat → UInt64) × (Nat → Nat → UInt64) × (Nat → UInt64)) → Prop} {X : String → (Int32 × Int32 × Int32 × UInt64 × UInt64 × UInt64 × Int32 × Int32 × Int32 × Int32 × (Nat → Int32) × (Nat → Int32) × (Nat → UInt64) × (Nat → UInt64) × (Nat → Int32) × Int32 × Int32 × Int32 × (Nat → Nat → Int32) × (Nat → Nat → UInt64) × (Nat → Nat → Int32) × (Nat → Nat → Int32) × (Nat → Nat → UInt64) × (Nat → Nat → UInt64) × (Nat → UInt64)) → Prop} (tgt : (Int32 × Int32 × Int32 × Int32 × UInt64 × UInt64 × UInt64 × Int32 × Int32 × Int32 × Int32 × (Nat → Int32) × (Nat → Int32) × (Nat → UInt64) × (Nat → UInt64) × (Nat → Int32) × Int32 × Int32 × Int32 × (Nat → Nat → Int32) × (Nat → Nat → UInt64) × (Nat → Nat → Int32) × (Nat → Nat → Int32) × (Nat → Nat → UInt64) × (Nat → Nat → UInt64) × (Nat → UInt64)) ⊕ (String × Int32 × Int32 × Int32 × UInt64 × UInt64 × UInt64 × Int32 × Int32 × Int32 × Int32 × (Nat → Int32) × (Nat → Int32) × (Nat → UInt64) × (Nat → UInt64) × (Nat → Int32) × Int32 × Int32 × Int32 × (Nat → Nat → Int32) × (Nat → Nat → UInt64) × (Nat → Nat → Int32) × (Nat → Nat → Int32) × (Nat → Nat → UInt64) × (Nat → Nat → UInt64) × (Nat → UInt64))) (f0 : s_Tr_fire t_firings t_runner_time t_runner_dropped t_runner_thread t_runner_handedA t_runner_handedB t_runner_handedC t_runner_top t_runner_over t_runner_failed t_runner_met t_rules_e_length t_rules_e_site t_rules_e_exit t_rules_e_conditional t_rules_e_on t_rules_e_failures t_rules_e_meetings t_rules_e_steps t_runner_stack t_runner_variables t_runner_gatherers_e_size t_runner_records_oldest t_runner_records_size t_runner_records_lost t_runner_gatherers_e_keys t_runner_gatherers_e_sums t_runner_gatherers_e_values t_runner_gatherers_e_bins t_runner_gatherers_e_least t_runner_gatherers_e_greatest t_runner_records_ring x1 x2 x3 x4 x6 x8 = tgt) (hp : WP_Tr_fire t_firings t_runner_time t_runner_dropped t_runner_thread t_runner_handedA t_runner_handedB t_runner_handedC t_runner_top t_runner_over t_runner_failed t_runner_met t_rules_e_length t_rules_e_site t_rules_e_exit t_rules_e_conditional t_rules_e_on t_rules_e_failures t_rules_e_meetings t_rules_e_steps t_runner_stack t_runner_variables t_runner_gatherers_e_size t_runner_records_oldest t_runner_records_size t_runner_records_lost t_runner_gatherers_e_keys t_runner_gatherers_e_sums t_runner_gatherers_e_values t_runner_gatherers_e_bins t_runner_gatherers_e_least t_runner_gatherers_e_greatest t_runner_records_ring x1 x2 x3 x4 x6 x8 Q X) : Sum.elim (fun x => Q x.1 x.2) (fun x => X x.1 x.2) tgt := by
  unfold WP_Tr_fire at hp
  unfold s_Tr_fire at f0
  obtain ⟨r1, e3⟩ := zex1 (s_Tr_isWithin x1 (8 : Int32))
  have g1 := hp r1 e3
  have f1 := Eq.trans (Eq.symm (zl1_eq e3)) f0
  by_cases c5 : r1 = 0
  · have f2 := Eq.trans (Eq.symm (if_pos c5)) f1
    have g2 := g1.1 c5
    subst f2; exact g2
  · have f2 := Eq.trans (Eq.symm (if_neg c5)) f1
    have g2 := g1.2 c5
    obtain ⟨r7, e9⟩ := zex1 (s_Tr_isWithin x3 (4 : Int32))
    have g3 := g2 r7 e9
    have f3 := Eq.trans (Eq.symm (zl1_eq e9)) f2
    by_cases c11 : r7 = 0
    · have f4 := Eq.trans (Eq.symm (if_pos c11)) f3
      have g4 := g3.2 c11
      subst f4; exact g4
    · have f4 := Eq.trans (Eq.symm (if_neg c11)) f3
      have g4 := g3.1 c11
      obtain ⟨r13, e15⟩ := zex1 (s_Tr_mayBeHanded x4)
      have g5 := g4 r13 e15
      have f5 := Eq.trans (Eq.symm (zl1_eq e15)) f4
      by_cases c17 : r13 = 0
      · have f6 := Eq.trans (Eq.symm (if_pos c17)) f5
        have g6 := g5.1 c17
        subst f6; exact g6
      · have f6 := Eq.trans (Eq.symm (if_neg c17)) f5
        have g6 := g5.2 c17
        obtain ⟨r19, e21⟩ := zex1 (s_Tr_mayBeHanded x6)
        have g7 := g6 r19 e21
        have f7 := Eq.trans (Eq.symm (zl1_eq e21)) f6
        by_cases c23 : r19 = 0
        · have f8 := Eq.trans (Eq.symm (if_pos c23)) f7
          have g8 := g7.1 c23
          subst f8; exact g8
        · have f8 := Eq.trans (Eq.symm (if_neg c23)) f7
          have g8 := g7.2 c23
          obtain ⟨r25, e27⟩ := zex1 (s_Tr_mayBeHanded x8)
          have g9 := g8 r25 e27
          have f9 := Eq.trans (Eq.symm (zl1_eq e27)) f8
          by_cases c29 : r25 = 0
          · have f10 := Eq.trans (Eq.symm (if_pos c29)) f9
            have g10 := g9.2 c29
            subst f10; exact g10
          · have f10 := Eq.trans (Eq.symm (if_neg c29)) f9
            have g10 := g9.1 c29
            obtain ⟨m34, m35, m36, m37, e33⟩ := zex4 (s_Rn_hand t_runner_thread t_runner_handedA t_runner_handedB t_runner_handedC x3 x4 x6 x8)
            have g11 := g10 m34 m35 m36 m37 e33
            have f11 := Eq.trans (Eq.symm (zl2_eq e33)) f10
            have f11 := Eq.trans (Eq.symm (zl2_eq (Eq.refl (m35, m36, m37)))) f11
            have f11 := Eq.trans (Eq.symm (zl2_eq (Eq.refl (m36, m37)))) f11
            exact qm_Tr_fire_L84 _ _ _ _ _ _ _ _ _ _ _ _ _ _ _ _ _ _ _ _ _ _ _ _ _ _ _ _ _ _ _ _ _ _ _ _ _ _ _ _ _ _ _ f11 g11
theorem e_Tr_fire (t_firings : Int32) (t_runner_time : Int32) (t_runner_dropped : Int32) (t_runner_thread : Int32) (t_runner_handedA : UInt64) (t_runner_handedB : UInt64) (t_runner_handedC : UInt64) (t_runner_top : Int32) (t_runner_over : Int32) (t_runner_failed : Int32) (t_runner_met : Int32) (t_rules_e_length : Nat → Int32) (t_rules_e_site : Nat → Int32) (t_rules_e_exit : Nat → Int32) (t_rules_e_conditional : Nat → Int32) (t_rules_e_on : Nat → Int32) (t_rules_e_failures : Nat → Int32) (t_rules_e_meetings : Nat → Int32) (t_rules_e_steps : Nat → Nat → Int32) (t_runner_stack : Nat → UInt64) (t_runner_variables : Nat → UInt64) (t_runner_gatherers_e_size : Nat → Int32) (t_runner_records_oldest : Int32) (t_runner_records_size : Int32) (t_runner_records_lost : Int32) (t_runner_gatherers_e_keys : Nat → Nat → Int32) (t_runner_gatherers_e_sums : Nat → Nat → UInt64) (t_runner_gatherers_e_values : Nat → Nat → Int32) (t_runner_gatherers_e_bins : Nat → Nat → Int32) (t_runner_gatherers_e_least : Nat → Nat → UInt64) (t_runner_gatherers_e_greatest : Nat → Nat → UInt64) (t_runner_records_ring : Nat → UInt64) (x1 : Int32) (x2 : Int32) (x3 : Int32) (x4 : UInt64) (x6 : UInt64) (x8 : UInt64) {Q : Int32 → (Int32 × Int32 × Int32 × UInt64 × UInt64 × UInt64 × Int32 × Int32 × Int32 × Int32 × (Nat → Int32) × (Nat → Int32) × (Nat → UInt64) × (Nat → UInt64) × (Nat → Int32) × Int32 × Int32 × Int32 × (Nat → Nat → Int32) × (Nat → Nat → UInt64) × (Nat → Nat → Int32) × (Nat → Nat → Int32) × (Nat → Nat → UInt64) × (Nat → Nat → UInt64) × (Nat → UInt64)) → Prop} {X : String → (Int32 × Int32 × Int32 × UInt64 × UInt64 × UInt64 × Int32 × Int32 × Int32 × Int32 × (Nat → Int32) × (Nat → Int32) × (Nat → UInt64) × (Nat → UInt64) × (Nat → Int32) × Int32 × Int32 × Int32 × (Nat → Nat → Int32) × (Nat → Nat → UInt64) × (Nat → Nat → Int32) × (Nat → Nat → Int32) × (Nat → Nat → UInt64) × (Nat → Nat → UInt64) × (Nat → UInt64)) → Prop} (hp : WP_Tr_fire t_firings t_runner_time t_runner_dropped t_runner_thread t_runner_handedA t_runner_handedB t_runner_handedC t_runner_top t_runner_over t_runner_failed t_runner_met t_rules_e_length t_rules_e_site t_rules_e_exit t_rules_e_conditional t_rules_e_on t_rules_e_failures t_rules_e_meetings t_rules_e_steps t_runner_stack t_runner_variables t_runner_gatherers_e_size t_runner_records_oldest t_runner_records_size t_runner_records_lost t_runner_gatherers_e_keys t_runner_gatherers_e_sums t_runner_gatherers_e_values t_runner_gatherers_e_bins t_runner_gatherers_e_least t_runner_gatherers_e_greatest t_runner_records_ring x1 x2 x3 x4 x6 x8 Q X) : p_Tr_fire t_firings t_runner_time t_runner_dropped t_runner_thread t_runner_handedA t_runner_handedB t_runner_handedC t_runner_top t_runner_over t_runner_failed t_runner_met t_rules_e_length t_rules_e_site t_rules_e_exit t_rules_e_conditional t_rules_e_on t_rules_e_failures t_rules_e_meetings t_rules_e_steps t_runner_stack t_runner_variables t_runner_gatherers_e_size t_runner_records_oldest t_runner_records_size t_runner_records_lost t_runner_gatherers_e_keys t_runner_gatherers_e_sums t_runner_gatherers_e_values t_runner_gatherers_e_bins t_runner_gatherers_e_least t_runner_gatherers_e_greatest t_runner_records_ring x1 x2 x3 x4 x6 x8 ∧ Sum.elim (fun x => Q x.1 x.2) (fun x => X x.1 x.2) (s_Tr_fire t_firings t_runner_time t_runner_dropped t_runner_thread t_runner_handedA t_runner_handedB t_runner_handedC t_runner_top t_runner_over t_runner_failed t_runner_met t_rules_e_length t_rules_e_site t_rules_e_exit t_rules_e_conditional t_rules_e_on t_rules_e_failures t_rules_e_meetings t_rules_e_steps t_runner_stack t_runner_variables t_runner_gatherers_e_size t_runner_records_oldest t_runner_records_size t_runner_records_lost t_runner_gatherers_e_keys t_runner_gatherers_e_sums t_runner_gatherers_e_values t_runner_gatherers_e_bins t_runner_gatherers_e_least t_runner_gatherers_e_greatest t_runner_records_ring x1 x2 x3 x4 x6 x8) := ⟨pm_Tr_fire t_firings t_runner_time t_runner_dropped t_runner_thread t_runner_handedA t_runner_handedB t_runner_handedC t_runner_top t_runner_over t_runner_failed t_runner_met t_rules_e_length t_rules_e_site t_rules_e_exit t_rules_e_conditional t_rules_e_on t_rules_e_failures t_rules_e_meetings t_rules_e_steps t_runner_stack t_runner_variables t_runner_gatherers_e_size t_runner_records_oldest t_runner_records_size t_runner_records_lost t_runner_gatherers_e_keys t_runner_gatherers_e_sums t_runner_gatherers_e_values t_runner_gatherers_e_bins t_runner_gatherers_e_least t_runner_gatherers_e_greatest t_runner_records_ring x1 x2 x3 x4 x6 x8 (fun _ _ _ => trivial) (fun _ _ _ => trivial) hp, qm_Tr_fire t_firings t_runner_time t_runner_dropped t_runner_thread t_runner_handedA t_runner_handedB t_runner_handedC t_runner_top t_runner_over t_runner_failed t_runner_met t_rules_e_length t_rules_e_site t_rules_e_exit t_rules_e_conditional t_rules_e_on t_rules_e_failures t_rules_e_meetings t_rules_e_steps t_runner_stack t_runner_variables t_runner_gatherers_e_size t_runner_records_oldest t_runner_records_size t_runner_records_lost t_runner_gatherers_e_keys t_runner_gatherers_e_sums t_runner_gatherers_e_values t_runner_gatherers_e_bins t_runner_gatherers_e_least t_runner_gatherers_e_greatest t_runner_records_ring x1 x2 x3 x4 x6 x8 _ rfl hp⟩
set_option maxRecDepth 100000 in
theorem pm_Tr_compile (t_place : Int32) (t_text_length : Int32) (t_text_at : Int32) (t_rules_e_length : Nat → Int32) (t_rules_e_actions : Nat → Int32) (t_rules_e_site : Nat → Int32) (t_rules_e_exit : Nat → Int32) (t_rules_e_conditional : Nat → Int32) (t_rules_e_there : Nat → Int32) (t_rules_e_on : Nat → Int32) (t_rules_e_failures : Nat → Int32) (t_rules_e_meetings : Nat → Int32) (t_text_draft_length : Int32) (t_text_draft_actions : Int32) (t_text_draft_site : Int32) (t_text_draft_exit : Int32) (t_text_draft_conditional : Int32) (t_text_draft_there : Int32) (t_text_draft_on : Int32) (t_text_draft_failures : Int32) (t_text_draft_meetings : Int32) (t_text_characters : Nat → Int32) (t_rules_e_steps : Nat → Nat → Int32) (t_text_draft_steps : Nat → Int32) (x1 : Int32) {Q Q2 : Int32 → (Int32 × Int32 × Int32 × (Nat → Int32) × (Nat → Int32) × (Nat → Int32) × (Nat → Int32) × (Nat → Int32) × (Nat → Int32) × (Nat → Int32) × (Nat → Int32) × (Nat → Int32) × Int32 × Int32 × Int32 × Int32 × Int32 × Int32 × Int32 × Int32 × Int32 × (Nat → Nat → Int32) × (Nat → Int32)) → Prop} {X X2 : String → (Int32 × Int32 × Int32 × (Nat → Int32) × (Nat → Int32) × (Nat → Int32) × (Nat → Int32) × (Nat → Int32) × (Nat → Int32) × (Nat → Int32) × (Nat → Int32) × (Nat → Int32) × Int32 × Int32 × Int32 × Int32 × Int32 × Int32 × Int32 × Int32 × Int32 × (Nat → Nat → Int32) × (Nat → Int32)) → Prop} (hQ : ∀ r u, Q r u → Q2 r u) (hX : ∀ r u, X r u → X2 r u) (hp : WP_Tr_compile t_place t_text_length t_text_at t_rules_e_length t_rules_e_actions t_rules_e_site t_rules_e_exit t_rules_e_conditional t_rules_e_there t_rules_e_on t_rules_e_failures t_rules_e_meetings t_text_draft_length t_text_draft_actions t_text_draft_site t_text_draft_exit t_text_draft_conditional t_text_draft_there t_text_draft_on t_text_draft_failures t_text_draft_meetings t_text_characters t_rules_e_steps t_text_draft_steps x1 Q X) : WP_Tr_compile t_place t_text_length t_text_at t_rules_e_length t_rules_e_actions t_rules_e_site t_rules_e_exit t_rules_e_conditional t_rules_e_there t_rules_e_on t_rules_e_failures t_rules_e_meetings t_text_draft_length t_text_draft_actions t_text_draft_site t_text_draft_exit t_text_draft_conditional t_text_draft_there t_text_draft_on t_text_draft_failures t_text_draft_meetings t_text_characters t_rules_e_steps t_text_draft_steps x1 Q2 X2 := by
  unfold WP_Tr_compile at hp ⊢
  intro r1 e3
  have g1 := hp r1 e3
  refine ⟨fun c5 => ?_, fun c5 => ?_⟩
  · have g2 := g1.1 c5
    refine ⟨g2.1, ?_⟩
    intro r7 m10 m11 m12 m13 m14 m15 m16 m17 m18 m19 m20 e9
    have g3 := g2.2 r7 m10 m11 m12 m13 m14 m15 m16 m17 m18 m19 m20 e9
    intro u23 e24
    have g4 := g3 u23 e24
    refine ⟨fun c26 => ?_, fun c26 => ?_⟩
    · have g5 := g4.1 c26
      refine ⟨g5.1, fun j28 hjj hlt_ => ?_⟩
      have g6 := g5.2 j28 hjj hlt_
      exact hQ _ _ g6
    · have g5 := g4.2 c26
      exact hX _ _ g5
  · have g2 := g1.2 c5
    exact hX _ _ g2
set_option maxRecDepth 100000 in
theorem qm_Tr_compile (t_place : Int32) (t_text_length : Int32) (t_text_at : Int32) (t_rules_e_length : Nat → Int32) (t_rules_e_actions : Nat → Int32) (t_rules_e_site : Nat → Int32) (t_rules_e_exit : Nat → Int32) (t_rules_e_conditional : Nat → Int32) (t_rules_e_there : Nat → Int32) (t_rules_e_on : Nat → Int32) (t_rules_e_failures : Nat → Int32) (t_rules_e_meetings : Nat → Int32) (t_text_draft_length : Int32) (t_text_draft_actions : Int32) (t_text_draft_site : Int32) (t_text_draft_exit : Int32) (t_text_draft_conditional : Int32) (t_text_draft_there : Int32) (t_text_draft_on : Int32) (t_text_draft_failures : Int32) (t_text_draft_meetings : Int32) (t_text_characters : Nat → Int32) (t_rules_e_steps : Nat → Nat → Int32) (t_text_draft_steps : Nat → Int32) (x1 : Int32) {Q : Int32 → (Int32 × Int32 × Int32 × (Nat → Int32) × (Nat → Int32) × (Nat → Int32) × (Nat → Int32) × (Nat → Int32) × (Nat → Int32) × (Nat → Int32) × (Nat → Int32) × (Nat → Int32) × Int32 × Int32 × Int32 × Int32 × Int32 × Int32 × Int32 × Int32 × Int32 × (Nat → Nat → Int32) × (Nat → Int32)) → Prop} {X : String → (Int32 × Int32 × Int32 × (Nat → Int32) × (Nat → Int32) × (Nat → Int32) × (Nat → Int32) × (Nat → Int32) × (Nat → Int32) × (Nat → Int32) × (Nat → Int32) × (Nat → Int32) × Int32 × Int32 × Int32 × Int32 × Int32 × Int32 × Int32 × Int32 × Int32 × (Nat → Nat → Int32) × (Nat → Int32)) → Prop} (tgt : (Int32 × Int32 × Int32 × Int32 × (Nat → Int32) × (Nat → Int32) × (Nat → Int32) × (Nat → Int32) × (Nat → Int32) × (Nat → Int32) × (Nat → Int32) × (Nat → Int32) × (Nat → Int32) × Int32 × Int32 × Int32 × Int32 × Int32 × Int32 × Int32 × Int32 × Int32 × (Nat → Nat → Int32) × (Nat → Int32)) ⊕ (String × Int32 × Int32 × Int32 × (Nat → Int32) × (Nat → Int32) × (Nat → Int32) × (Nat → Int32) × (Nat → Int32) × (Nat → Int32) × (Nat → Int32) × (Nat → Int32) × (Nat → Int32) × Int32 × Int32 × Int32 × Int32 × Int32 × Int32 × Int32 × Int32 × Int32 × (Nat → Nat → Int32) × (Nat → Int32))) (f0 : s_Tr_compile t_place t_text_length t_text_at t_rules_e_length t_rules_e_actions t_rules_e_site t_rules_e_exit t_rules_e_conditional t_rules_e_there t_rules_e_on t_rules_e_failures t_rules_e_meetings t_text_draft_length t_text_draft_actions t_text_draft_site t_text_draft_exit t_text_draft_conditional t_text_draft_there t_text_draft_on t_text_draft_failures t_text_draft_meetings t_text_characters t_rules_e_steps t_text_draft_steps x1 = tgt) (hp : WP_Tr_compile t_place t_text_length t_text_at t_rules_e_length t_rules_e_actions t_rules_e_site t_rules_e_exit t_rules_e_conditional t_rules_e_there t_rules_e_on t_rules_e_failures t_rules_e_meetings t_text_draft_length t_text_draft_actions t_text_draft_site t_text_draft_exit t_text_draft_conditional t_text_draft_there t_text_draft_on t_text_draft_failures t_text_draft_meetings t_text_characters t_rules_e_steps t_text_draft_steps x1 Q X) : Sum.elim (fun x => Q x.1 x.2) (fun x => X x.1 x.2) tgt := by
  unfold WP_Tr_compile at hp
  unfold s_Tr_compile at f0
  obtain ⟨r1, e3⟩ := zex1 (s_Tr_isWithin x1 (6 : Int32))
  have g1 := hp r1 e3
  have f1 := Eq.trans (Eq.symm (zl1_eq e3)) f0
  by_cases c5 : r1 = 0
  · have f2 := Eq.trans (Eq.symm (if_pos c5)) f1
    have g2 := g1.2 c5
    subst f2; exact g2
  · have f2 := Eq.trans (Eq.symm (if_neg c5)) f1
    have g2 := g1.1 c5
    obtain ⟨r7, m10, m11, m12, m13, m14, m15, m16, m17, m18, m19, m20, e9⟩ := zex12 (s_Te_read t_text_length t_text_at t_text_draft_length t_text_draft_actions t_text_draft_site t_text_draft_exit t_text_draft_conditional t_text_draft_there t_text_draft_on t_text_draft_failures t_text_draft_meetings t_text_characters t_text_draft_steps)
    have g3 := g2.2 r7 m10 m11 m12 m13 m14 m15 m16 m17 m18 m19 m20 e9
    have f3 := Eq.trans (Eq.symm (zl2_eq e9)) f2
    have f3 := Eq.trans (Eq.symm (zl2_eq (Eq.refl (m10, m11, m12, m13, m14, m15, m16, m17, m18, m19, m20)))) f3
    have f3 := Eq.trans (Eq.symm (zl2_eq (Eq.refl (m11, m12, m13, m14, m15, m16, m17, m18, m19, m20)))) f3
    have f3 := Eq.trans (Eq.symm (zl2_eq (Eq.refl (m12, m13, m14, m15, m16, m17, m18, m19, m20)))) f3
    have f3 := Eq.trans (Eq.symm (zl2_eq (Eq.refl (m13, m14, m15, m16, m17, m18, m19, m20)))) f3
    have f3 := Eq.trans (Eq.symm (zl2_eq (Eq.refl (m14, m15, m16, m17, m18, m19, m20)))) f3
    have f3 := Eq.trans (Eq.symm (zl2_eq (Eq.refl (m15, m16, m17, m18, m19, m20)))) f3
    have f3 := Eq.trans (Eq.symm (zl2_eq (Eq.refl (m16, m17, m18, m19, m20)))) f3
    have f3 := Eq.trans (Eq.symm (zl2_eq (Eq.refl (m17, m18, m19, m20)))) f3
    have f3 := Eq.trans (Eq.symm (zl2_eq (Eq.refl (m18, m19, m20)))) f3
    have f3 := Eq.trans (Eq.symm (zl2_eq (Eq.refl (m19, m20)))) f3
    obtain ⟨u23, e24⟩ := zex1 (s_Te_empty t_text_length)
    have g4 := g3 u23 e24
    have f4 := Eq.trans (Eq.symm (zl1_eq e24)) f3
    by_cases c26 : r7 = 0
    · have f5 := Eq.trans (Eq.symm (if_pos c26)) f4
      have g5 := g4.2 c26
      subst f5; exact g5
    · have f5 := Eq.trans (Eq.symm (if_neg c26)) f4
      have g5 := g4.1 c26
      obtain ⟨j28, hlt_, hjj⟩ := vp_in_of g5.1 (by decide)
      have g6 := g5.2 j28 hjj hlt_
      have f6 := Eq.trans (Eq.symm (zl1_eq (zix_cl hjj (Nat.lt_trans hlt_ (by decide : 6 < 2 ^ 31))))) f5
      subst f6; exact g6
theorem e_Tr_compile (t_place : Int32) (t_text_length : Int32) (t_text_at : Int32) (t_rules_e_length : Nat → Int32) (t_rules_e_actions : Nat → Int32) (t_rules_e_site : Nat → Int32) (t_rules_e_exit : Nat → Int32) (t_rules_e_conditional : Nat → Int32) (t_rules_e_there : Nat → Int32) (t_rules_e_on : Nat → Int32) (t_rules_e_failures : Nat → Int32) (t_rules_e_meetings : Nat → Int32) (t_text_draft_length : Int32) (t_text_draft_actions : Int32) (t_text_draft_site : Int32) (t_text_draft_exit : Int32) (t_text_draft_conditional : Int32) (t_text_draft_there : Int32) (t_text_draft_on : Int32) (t_text_draft_failures : Int32) (t_text_draft_meetings : Int32) (t_text_characters : Nat → Int32) (t_rules_e_steps : Nat → Nat → Int32) (t_text_draft_steps : Nat → Int32) (x1 : Int32) {Q : Int32 → (Int32 × Int32 × Int32 × (Nat → Int32) × (Nat → Int32) × (Nat → Int32) × (Nat → Int32) × (Nat → Int32) × (Nat → Int32) × (Nat → Int32) × (Nat → Int32) × (Nat → Int32) × Int32 × Int32 × Int32 × Int32 × Int32 × Int32 × Int32 × Int32 × Int32 × (Nat → Nat → Int32) × (Nat → Int32)) → Prop} {X : String → (Int32 × Int32 × Int32 × (Nat → Int32) × (Nat → Int32) × (Nat → Int32) × (Nat → Int32) × (Nat → Int32) × (Nat → Int32) × (Nat → Int32) × (Nat → Int32) × (Nat → Int32) × Int32 × Int32 × Int32 × Int32 × Int32 × Int32 × Int32 × Int32 × Int32 × (Nat → Nat → Int32) × (Nat → Int32)) → Prop} (hp : WP_Tr_compile t_place t_text_length t_text_at t_rules_e_length t_rules_e_actions t_rules_e_site t_rules_e_exit t_rules_e_conditional t_rules_e_there t_rules_e_on t_rules_e_failures t_rules_e_meetings t_text_draft_length t_text_draft_actions t_text_draft_site t_text_draft_exit t_text_draft_conditional t_text_draft_there t_text_draft_on t_text_draft_failures t_text_draft_meetings t_text_characters t_rules_e_steps t_text_draft_steps x1 Q X) : p_Tr_compile t_place t_text_length t_text_at t_rules_e_length t_rules_e_actions t_rules_e_site t_rules_e_exit t_rules_e_conditional t_rules_e_there t_rules_e_on t_rules_e_failures t_rules_e_meetings t_text_draft_length t_text_draft_actions t_text_draft_site t_text_draft_exit t_text_draft_conditional t_text_draft_there t_text_draft_on t_text_draft_failures t_text_draft_meetings t_text_characters t_rules_e_steps t_text_draft_steps x1 ∧ Sum.elim (fun x => Q x.1 x.2) (fun x => X x.1 x.2) (s_Tr_compile t_place t_text_length t_text_at t_rules_e_length t_rules_e_actions t_rules_e_site t_rules_e_exit t_rules_e_conditional t_rules_e_there t_rules_e_on t_rules_e_failures t_rules_e_meetings t_text_draft_length t_text_draft_actions t_text_draft_site t_text_draft_exit t_text_draft_conditional t_text_draft_there t_text_draft_on t_text_draft_failures t_text_draft_meetings t_text_characters t_rules_e_steps t_text_draft_steps x1) := ⟨pm_Tr_compile t_place t_text_length t_text_at t_rules_e_length t_rules_e_actions t_rules_e_site t_rules_e_exit t_rules_e_conditional t_rules_e_there t_rules_e_on t_rules_e_failures t_rules_e_meetings t_text_draft_length t_text_draft_actions t_text_draft_site t_text_draft_exit t_text_draft_conditional t_text_draft_there t_text_draft_on t_text_draft_failures t_text_draft_meetings t_text_characters t_rules_e_steps t_text_draft_steps x1 (fun _ _ _ => trivial) (fun _ _ _ => trivial) hp, qm_Tr_compile t_place t_text_length t_text_at t_rules_e_length t_rules_e_actions t_rules_e_site t_rules_e_exit t_rules_e_conditional t_rules_e_there t_rules_e_on t_rules_e_failures t_rules_e_meetings t_text_draft_length t_text_draft_actions t_text_draft_site t_text_draft_exit t_text_draft_conditional t_text_draft_there t_text_draft_on t_text_draft_failures t_text_draft_meetings t_text_characters t_rules_e_steps t_text_draft_steps x1 _ rfl hp⟩
