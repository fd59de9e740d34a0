/-! the easy calls -/
theorem zlt {x : Int32} (h : x < 0) (k : Nat) (hk : k < 2 ^ 31) : x < nI k := by
  rw [Int32.lt_iff_toInt_lt] at h ⊢
  rw [nI_toInt hk]
  have : (0 : Int32).toInt = 0 := rfl
  omega
theorem zgt {x : Int32} {n : Nat} (hn : n < 2 ^ 31) (h : nI n ≤ x) {k : Nat} (hk : k < n) : nI k < x := by
  rw [Int32.le_iff_toInt_le, nI_toInt hn] at h
  rw [Int32.lt_iff_toInt_lt, nI_toInt (by omega)]
  omega
theorem zge0 {x : Int32} {n : Nat} (hn : n < 2 ^ 31) (h : nI n ≤ x) (k : Nat) (hk : k ≤ n) : ¬ x < nI k := by
  rw [Int32.le_iff_toInt_le, nI_toInt hn] at h
  rw [Int32.lt_iff_toInt_lt, nI_toInt (by omega)]
  omega
theorem wi_in {j n : Nat} (hj : j < n) (hn : n < 2 ^ 31) : s_Tr_isWithin (nI j) (nI n) = 1 := by
  unfold s_Tr_isWithin
  rw [if_neg (nI_pos (by omega)), if_neg (nI_ge hj hn)]
theorem wi_neg {x : Int32} (h : x < 0) (y : Int32) : s_Tr_isWithin x y = 0 := by
  unfold s_Tr_isWithin
  rw [if_pos h]
theorem wi_big {x y : Int32} (h : y ≤ x) : s_Tr_isWithin x y = 0 := by
  unfold s_Tr_isWithin
  by_cases q : x < 0
  · rw [if_pos q]
  · rw [if_neg q, if_pos h]
theorem in_neg {x : Int32} (h : x < 0) (a : Nat) (ha : a < 2 ^ 31) (y : Int32) : s_Mo_in x (nI a) y = 0 := by
  unfold s_Mo_in
  rw [if_pos (zlt h a ha)]
theorem in_big {x : Int32} {n : Nat} (hn : n < 2 ^ 31) (h : nI n ≤ x) (y : Int32) {b : Nat} (hb : b < n) : s_Mo_in x y (nI b) = 0 := by
  unfold s_Mo_in
  split
  · rfl
  · rw [if_pos (zgt hn h hb)]
/-- within 0 .. n-1 or not, in both -/
theorem wi (x : Int32) {n : Nat} (h1 : 1 ≤ n) (hn : n < 2 ^ 31) : ((∃ j, j < n ∧ x = nI j) ∧ s_Tr_isWithin x (nI n) = 1 ∧ s_Mo_in x (nI 0) (nI (n - 1)) = 1) ∨ (s_Tr_isWithin x (nI n) = 0 ∧ s_Mo_in x (nI 0) (nI (n - 1)) = 0) := by
  rcases pk_ix x hn with h | h | ⟨j, hj, rfl⟩
  · exact Or.inr ⟨wi_neg h _, in_neg h 0 (by omega) _⟩
  · exact Or.inr ⟨wi_big h, in_big hn h _ (by omega)⟩
  · exact Or.inl ⟨⟨j, hj, rfl⟩, wi_in hj hn, by rw [f_in (by omega) (by omega) (by omega), if_pos (by omega)]⟩
theorem rM_up {N : Nat} {t m : Int32} (h : rM N t m) : rM (N + 1) t m := by
  obtain ⟨n, h1, h2, h3⟩ := h
  exact ⟨n, by omega, h2, h3⟩
theorem o_tick : zO_tick zI := by
  intro N t_place t_firings t_text_length t_text_at t_text_characters t_text_draft_length t_text_draft_actions t_text_draft_site t_text_draft_exit t_text_draft_conditional t_text_draft_there t_text_draft_on t_text_draft_failures t_text_draft_meetings t_text_draft_steps t_rules_e_length t_rules_e_actions t_rules_e_site t_rules_e_exit t_rules_e_conditional t_rules_e_there t_rules_e_on t_rules_e_failures t_rules_e_meetings t_rules_e_steps t_runner_time t_runner_dropped t_runner_thread t_runner_handedA t_runner_handedB t_runner_handedC t_runner_top t_runner_over t_runner_failed t_runner_met t_runner_stack t_runner_variables t_runner_gatherers_e_size t_runner_gatherers_e_keys t_runner_gatherers_e_least t_runner_gatherers_e_greatest t_runner_gatherers_e_sums t_runner_gatherers_e_values t_runner_gatherers_e_bins t_runner_records_oldest t_runner_records_size t_runner_records_lost t_runner_records_ring m_newSite m_newCondition m_newActions m_size m_place m_pos m_at m_operators m_recorded m_lost m_dropped m_firings m_time m_thread m_thrown m_failed m_text m_code m_site m_condition m_actions m_kind m_target m_first m_second m_failures m_met m_there m_on m_compared m_globals m_own m_records m_pile m_handed m_keys m_key m_count m_bins m_operator m_starts m_sum m_least m_greatest x1 o hN hI k u0 o' b v0 v1 h1 h2
  obtain ⟨i1, i2, i3, i4, i5, i6, i7⟩ := hI
  obtain ⟨n, n1, n2, n3⟩ := i6
  have i7' := rX_mono (show 300 * N ≤ 300 * (N + 1) by omega) i7
  unfold s_La_tick s_Tr_tick at h1
  unfold s_Mo_tick zl1 zl2 s_Mo_bad s_Mo_in at h2
  by_cases c1 : x1 < 1
  · rw [if_pos c1] at h1 h2
    cases h1
    cases h2
    exact ⟨rfl, fun q => absurd q (by decide), i1, i2, i3, i4, i5, ⟨n, by omega, n2, n3⟩, i7'⟩
  · rw [if_neg c1] at h1 h2
    by_cases c2 : x1 ≤ 100
    · rw [if_pos c2] at h1
      rw [if_neg (Int32.not_lt.mpr c2)] at h2
      cases h1
      cases h2
      obtain ⟨m, hm, rfl⟩ := nI_of2 (M := 100) (n := 100) rfl (fun q => c1 (Int32.lt_trans q (by decide))) c2
      refine ⟨rfl, fun _ => ?_, i1, i2, i3, i4, i5, ⟨n + m, by omega, ?_, ?_⟩, i7'⟩
      · rw [n2, n3]; rfl
      · rw [n2, nI_add]
      · rw [n3]; exact nI_add n m
    · rw [if_neg c2] at h1
      rw [if_pos (Int32.not_le.mp c2)] at h2
      cases h1
      cases h2
      exact ⟨rfl, fun q => absurd q (by decide), i1, i2, i3, i4, i5, ⟨n, by omega, n2, n3⟩, i7'⟩
theorem o_record : zO_record zI := by
  intro N t_place t_firings t_text_length t_text_at t_text_characters t_text_draft_length t_text_draft_actions t_text_draft_site t_text_draft_exit t_text_draft_conditional t_text_draft_there t_text_draft_on t_text_draft_failures t_text_draft_meetings t_text_draft_steps t_rules_e_length t_rules_e_actions t_rules_e_site t_rules_e_exit t_rules_e_conditional t_rules_e_there t_rules_e_on t_rules_e_failures t_rules_e_meetings t_rules_e_steps t_runner_time t_runner_dropped t_runner_thread t_runner_handedA t_runner_handedB t_runner_handedC t_runner_top t_runner_over t_runner_failed t_runner_met t_runner_stack t_runner_variables t_runner_gatherers_e_size t_runner_gatherers_e_keys t_runner_gatherers_e_least t_runner_gatherers_e_greatest t_runner_gatherers_e_sums t_runner_gatherers_e_values t_runner_gatherers_e_bins t_runner_records_oldest t_runner_records_size t_runner_records_lost t_runner_records_ring m_newSite m_newCondition m_newActions m_size m_place m_pos m_at m_operators m_recorded m_lost m_dropped m_firings m_time m_thread m_thrown m_failed m_text m_code m_site m_condition m_actions m_kind m_target m_first m_second m_failures m_met m_there m_on m_compared m_globals m_own m_records m_pile m_handed m_keys m_key m_count m_bins m_operator m_starts m_sum m_least m_greatest o hN hI 
  obtain ⟨i1, i2, i3, i4, i5, i6, i7⟩ := hI
  obtain ⟨x1, x2, x3, x4, x5⟩ := i7
  obtain ⟨q1, q2, q3⟩ := q_rec (mt := m_thrown) x5 o
  refine ⟨q1, q2, fun k u0 u1 o' b v0 v1 v2 h1 h2 => ?_⟩
  obtain ⟨a1, a2, a3⟩ := q3 k u0 u1 o' b v0 v1 v2 h1 h2
  exact ⟨a1, a2, i1, i2, i3, i4, i5, rM_up i6, rX_mono (show 300 * N ≤ 300 * (N + 1) by omega) ⟨x1, x2, x3, x4, a3⟩⟩
theorem f_get3 {k : Nat} {t : Int32} (hk : k < 3) (va : Nat → UInt64) : p_Rn_get va (nI k) t ∧ s_Rn_get va (nI k) t = va k := by
  refine e_Rn_get va (nI k) t (Q := fun r _ => r = va k) ?_
  intro r1 h1 r5 h5
  have e : s_Rn_slotOf (nI k) t = nI k := e_Rn_slotOf (nI k) t (Q := fun r _ => r = nI k) (pk_le 3 k (fun q => absurd q (by omega)) (fun q => rfl))
  rw [e] at h1
  subst h1
  have hw : s_Tr_isWithin (nI k) 15 = 1 := wi_in (n := 15) (by omega) (by omega)
  rw [hw] at h5
  subst h5
  exact ⟨fun q => absurd q (by decide), fun _ => ⟨pk_in k 15 (by omega), by rw [nI_clamp (by omega)]⟩⟩
theorem v_core {va gl ow : Nat → UInt64} (hV : rV va gl ow) (mt x1 x2 : Int32) : p_Tr_variable va x1 x2 ∧ p_Mo_variable mt gl ow x1 x2 ∧ ((∃ r, s_Tr_variable va x1 x2 = Sum.inl r ∧ s_Mo_variable mt gl ow x1 x2 = (r, 0)) ∨ ((∃ E, s_Tr_variable va x1 x2 = Sum.inr E) ∧ ∃ r, s_Mo_variable mt gl ow x1 x2 = (r, 1))) := by
  have bad0 : s_Mo_bad mt 0 = (1, 1) := rfl
  have bad1 : s_Mo_bad mt 1 = (0, 0) := rfl
  have bads : (∀ a b, s_Tr_isWithin x1 6 = a → s_Mo_in x1 0 2 = b → s_Mo_in x1 3 5 = 0 → a = 0 → b = 0 → p_Tr_variable va x1 x2 ∧ p_Mo_variable mt gl ow x1 x2 ∧ ((∃ r, s_Tr_variable va x1 x2 = Sum.inl r ∧ s_Mo_variable mt gl ow x1 x2 = (r, 0)) ∨ ((∃ E, s_Tr_variable va x1 x2 = Sum.inr E) ∧ ∃ r, s_Mo_variable mt gl ow x1 x2 = (r, 1)))) := by
    intro a b w1 w2 w3 a0 b0
    have A := e_Tr_variable va x1 x2 (Q := fun _ _ => False) (X := fun _ _ => True) (by
      intro r1 q
      rw [w1, a0] at q
      subst q
      exact ⟨fun q => absurd rfl q, fun _ => trivial⟩)
    have M := e_Mo_variable mt gl ow x1 x2 (Q := fun a b => b = 1) (by
      intro r1 q
      rw [w2, b0] at q
      subst q
      refine ⟨fun q => absurd rfl q, fun _ r17 q => ?_⟩
      rw [w3] at q
      subst q
      refine ⟨fun _ r23 u24 q => ?_, fun q => absurd rfl q⟩
      rw [bad0] at q
      cases q
      exact ⟨fun q => absurd q (by decide), fun _ => rfl⟩)
    refine ⟨A.1, M.1, Or.inr ⟨?_, ?_⟩⟩
    · cases h : s_Tr_variable va x1 x2 with
      | inl r => have := A.2; rw [h] at this; exact this.elim
      | inr E => exact ⟨E, rfl⟩
    · have := M.2
      generalize s_Mo_variable mt gl ow x1 x2 = y at this
      obtain ⟨y1, y2⟩ := y
      simp only at this
      exact ⟨y1, by rw [this]⟩
  rcases pk_ix x1 (n := 6) (by omega) with h | h | ⟨j, hj, rfl⟩
  · exact bads _ _ rfl rfl (in_neg h 3 (by omega) _) (wi_neg h _) (in_neg h 0 (by omega) _)
  · exact bads _ _ rfl rfl (in_big (b := 5) (by omega) h _ (by omega)) (wi_big h) (in_big (b := 2) (by omega) h _ (by omega))
  · have w1 : s_Tr_isWithin (nI j) 6 = 1 := wi_in (n := 6) hj (by omega)
    have w2 : s_Mo_in (nI j) 0 2 = if 0 ≤ j ∧ j ≤ 2 then 1 else 0 := f_in (a := 0) (b := 2) (by omega) (by omega) (by omega)
    have w3 : s_Mo_in (nI j) 3 5 = if 3 ≤ j ∧ j ≤ 5 then 1 else 0 := f_in (a := 3) (b := 5) (by omega) (by omega) (by omega)
    by_cases j3 : j < 3
    · have g := f_get3 (t := x2) j3 va
      have A := e_Tr_variable va (nI j) x2 (Q := fun r _ => r = va j) (X := fun _ _ => False) (by
        intro r1 q
        rw [w1] at q
        subst q
        refine ⟨fun _ => pk_lt j 3 (fun _ => ⟨g.1, fun r9 q => ?_⟩) (fun q => absurd q (by omega)), fun q => absurd q (by decide)⟩
        rw [g.2] at q
        exact q.symm)
      have M := e_Mo_variable mt gl ow (nI j) x2 (Q := fun a b => (a, b) = (va j, 0)) (by
        intro r1 q
        rw [w2, if_pos (by omega)] at q
        subst q
        refine ⟨fun _ r7 u8 q => ?_, fun q => absurd q (by decide)⟩
        rw [bad1] at q
        cases q
        refine ⟨fun _ => pk_le 3 j (fun q => absurd q (by omega)) (fun _ => ⟨pk_in j 3 j3, ?_⟩), fun q => absurd rfl q⟩
        rw [nI_clamp (by omega), (hV.1 j j3).1])
      refine ⟨A.1, M.1, Or.inl ⟨va j, ?_, M.2⟩⟩
      cases h : s_Tr_variable va (nI j) x2 with
      | inl r => have := A.2; rw [h] at this; rw [show r = va j from this]
      | inr E => have := A.2; rw [h] at this; exact this.elim
    · rcases wi x2 (n := 4) (by omega) (by omega) with ⟨⟨t, ht, rfl⟩, w4, w5⟩ | ⟨w4, w5⟩
      · have g := f_get ht hj va
        rw [if_neg j3] at g
        have A := e_Tr_variable va (nI j) (nI t) (Q := fun r _ => r = va (j + 3 * t)) (X := fun _ _ => False) (by
          intro r1 q
          rw [w1] at q
          subst q
          refine ⟨fun _ => pk_lt j 3 (fun q => absurd q (by omega)) (fun _ r13 q => ?_), fun q => absurd q (by decide)⟩
          rw [show s_Tr_isWithin (nI t) 4 = 1 from w4] at q
          subst q
          refine ⟨fun _ => ⟨g.1, fun r9 q => ?_⟩, fun q => absurd q (by decide)⟩
          rw [g.2] at q
          exact q.symm)
        have M := e_Mo_variable mt gl ow (nI j) (nI t) (Q := fun a b => (a, b) = (va (j + 3 * t), 0)) (by
          intro r1 q
          rw [w2, if_neg (by omega)] at q
          subst q
          refine ⟨fun q => absurd rfl q, fun _ r17 q => ?_⟩
          rw [w3, if_pos (by omega)] at q
          subst q
          refine ⟨fun q => absurd q (by decide), fun _ r33 q => ?_⟩
          rw [show s_Mo_in (nI t) 0 3 = 1 from w5] at q
          subst q
          refine ⟨fun q => absurd q (by decide), fun _ r49 u50 q => ?_⟩
          rw [bad1] at q
          cases q
          refine ⟨fun _ => pk_le 3 j (fun _ => ?_) (fun q => absurd q (by omega)), fun q => absurd rfl q⟩
          have e : nI t * 3 + nI j - 3 = nI (3 * t + (j - 3)) := by
            have b1 : nI t * 3 = nI (t * 3) := pk_mul t 3
            have b2 := pk_sub (a := t * 3 + j) (b := 3) (by omega)
            rw [show t * 3 + j - 3 = 3 * t + (j - 3) by omega] at b2
            rw [b1, nI_add]
            exact b2
          rw [e, nI_clamp (by omega), ← (hV.2 (3 * t + (j - 3)) (by omega)).1, show 3 + (3 * t + (j - 3)) = j + 3 * t by omega]
          exact ⟨pk_in (3 * t + (j - 3)) 12 (by omega), rfl⟩)
        refine ⟨A.1, M.1, Or.inl ⟨va (j + 3 * t), ?_, M.2⟩⟩
        cases h : s_Tr_variable va (nI j) (nI t) with
        | inl r => have := A.2; rw [h] at this; rw [show r = va (j + 3 * t) from this]
        | inr E => have := A.2; rw [h] at this; exact this.elim
      · have A := e_Tr_variable va (nI j) x2 (Q := fun _ _ => False) (X := fun _ _ => True) (by
          intro r1 q
          rw [w1] at q
          subst q
          refine ⟨fun _ => pk_lt j 3 (fun q => absurd q (by omega)) (fun _ r13 q => ?_), fun q => absurd q (by decide)⟩
          rw [show s_Tr_isWithin x2 4 = 0 from w4] at q
          subst q
          exact ⟨fun q => absurd rfl q, fun _ => trivial⟩)
        have M := e_Mo_variable mt gl ow (nI j) x2 (Q := fun a b => b = 1) (by
          intro r1 q
          rw [w2, if_neg (by omega)] at q
          subst q
          refine ⟨fun q => absurd rfl q, fun _ r17 q => ?_⟩
          rw [w3, if_pos (by omega)] at q
          subst q
          refine ⟨fun q => absurd q (by decide), fun _ r33 q => ?_⟩
          rw [show s_Mo_in x2 0 3 = 0 from w5] at q
          subst q
          refine ⟨fun _ r39 u40 q => ?_, fun q => absurd rfl q⟩
          rw [bad0] at q
          cases q
          exact ⟨fun q => absurd q (by decide), fun _ => rfl⟩)
        refine ⟨A.1, M.1, Or.inr ⟨?_, ?_⟩⟩
        · cases h : s_Tr_variable va (nI j) x2 with
          | inl r => have := A.2; rw [h] at this; exact this.elim
          | inr E => exact ⟨E, rfl⟩
        · have := M.2
          generalize s_Mo_variable mt gl ow (nI j) x2 = y at this
          obtain ⟨y1, y2⟩ := y
          simp only at this
          exact ⟨y1, by rw [this]⟩
theorem o_variable : zO_variable zI := by
  intro N t_place t_firings t_text_length t_text_at t_text_characters t_text_draft_length t_text_draft_actions t_text_draft_site t_text_draft_exit t_text_draft_conditional t_text_draft_there t_text_draft_on t_text_draft_failures t_text_draft_meetings t_text_draft_steps t_rules_e_length t_rules_e_actions t_rules_e_site t_rules_e_exit t_rules_e_conditional t_rules_e_there t_rules_e_on t_rules_e_failures t_rules_e_meetings t_rules_e_steps t_runner_time t_runner_dropped t_runner_thread t_runner_handedA t_runner_handedB t_runner_handedC t_runner_top t_runner_over t_runner_failed t_runner_met t_runner_stack t_runner_variables t_runner_gatherers_e_size t_runner_gatherers_e_keys t_runner_gatherers_e_least t_runner_gatherers_e_greatest t_runner_gatherers_e_sums t_runner_gatherers_e_values t_runner_gatherers_e_bins t_runner_records_oldest t_runner_records_size t_runner_records_lost t_runner_records_ring m_newSite m_newCondition m_newActions m_size m_place m_pos m_at m_operators m_recorded m_lost m_dropped m_firings m_time m_thread m_thrown m_failed m_text m_code m_site m_condition m_actions m_kind m_target m_first m_second m_failures m_met m_there m_on m_compared m_globals m_own m_records m_pile m_handed m_keys m_key m_count m_bins m_operator m_starts m_sum m_least m_greatest x1 x2 o hN hI 
  obtain ⟨i1, i2, i3, i4, i5, i6, i7⟩ := hI
  obtain ⟨q1, q2, q3⟩ := v_core i7.2.2.1 m_thrown x1 x2
  refine ⟨q1, q2, fun k o' b v0 h1 h2 => ?_⟩
  have i7' := rX_mono (show 300 * N ≤ 300 * (N + 1) by omega) i7
  unfold s_La_variable at h1
  rcases q3 with ⟨r, e1, e2⟩ | ⟨⟨E, e1⟩, r, e2⟩
  · rw [e1] at h1
    rw [e2] at h2
    cases h1
    cases h2
    exact ⟨rfl, fun _ => by simp only [vf_upd, if_true]; exact zDeq.rf _, i1, i2, i3, i4, i5, rM_up i6, i7'⟩
  · rw [e1] at h1
    rw [e2] at h2
    cases h1
    cases h2
    exact ⟨rfl, fun q => absurd q (by decide), i1, i2, i3, i4, i5, rM_up i6, i7'⟩
