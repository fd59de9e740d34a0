/-! turn, gathered, many, count -/
theorem on_eq {there on mthere mon : Nat → Int32} (h : ∀ k, k < 6 → there k = mthere k ∧ on k = mon k ∧ (there k = 0 → on k = 0)) : ∃ c, (p_Tr_rulesOn on ∧ s_Tr_rulesOn on = c) ∧ (p_Mo_rulesOn mthere mon ∧ s_Mo_rulesOn mthere mon = c) := by
  have go : ∀ j k c, k + j = 6 → ∃ c', (∀ n, WP_Tr_rulesOn_L4 (n + j + 1) c (nI k) on (fun a _ => a = c')) ∧ ∀ n, WP_Mo_rulesOn_L4 (n + j + 1) c (nI k) mthere mon (fun a _ => a = c') := by
    intro j
    induction j with
    | zero =>
      intro k c e
      have e : k = 6 := e
      subst e
      exact ⟨c, fun n => pk_le 6 6 (fun _ => rfl) (fun q => absurd q (by omega)), fun n => pk_le 6 6 (fun _ => rfl) (fun q => absurd q (by omega))⟩
    | succ j ih =>
      intro k c e
      have k6 : vp_in (nI k) 6 := pk_in k 6 (by omega)
      have clk : (nI k).toNatClampNeg = k := nI_clamp (by omega)
      obtain ⟨a1, a2, a3⟩ := h k (by omega)
      by_cases o : on k = 0
      · obtain ⟨c', h1, h2⟩ := ih (k + 1) c (by omega)
        refine ⟨c', fun n => pk_le 6 k (fun q => absurd q (by omega)) (fun _ => ⟨k6, fun j4 e4 l4 => ?_⟩), fun n => pk_le 6 k (fun q => absurd q (by omega)) (fun _ => ⟨k6, ?_⟩)⟩
        · have ej : k = j4 := (nI_eq (by omega) (by omega)).mp e4
          subst ej
          refine ⟨fun _ => ?_, fun q => absurd o q⟩
          rw [Int32.add_zero, nI_1]; exact h1 n
        · rw [clk, nI_1]
          exact ⟨fun _ => h2 n, fun _ => ⟨k6, fun _ => h2 n, fun q => absurd (a2 ▸ o) q⟩⟩
      · obtain ⟨c', h1, h2⟩ := ih (k + 1) (c + 1) (by omega)
        have t0 : ¬ there k = 0 := fun q => o (a3 q)
        refine ⟨c', fun n => pk_le 6 k (fun q => absurd q (by omega)) (fun _ => ⟨k6, fun j4 e4 l4 => ?_⟩), fun n => pk_le 6 k (fun q => absurd q (by omega)) (fun _ => ⟨k6, ?_⟩)⟩
        · have ej : k = j4 := (nI_eq (by omega) (by omega)).mp e4
          subst ej
          refine ⟨fun q => absurd q o, fun _ => ?_⟩
          rw [nI_1]; exact h1 n
        · rw [clk, nI_1]
          exact ⟨fun q => absurd (a1.trans q) t0, fun _ => ⟨k6, fun q => absurd (a2.trans q) o, fun _ => h2 n⟩⟩
  obtain ⟨c, h1, h2⟩ := go 6 0 0 rfl
  exact ⟨c, e_Tr_rulesOn on (Q := fun a _ => a = c) (h1 593), e_Mo_rulesOn mthere mon (Q := fun a _ => a = c) (h2 593)⟩
theorem t_core {there on fa me mthere mon mf mm : Nat → Int32} (hU : rU there on fa me mthere mon mf mm) (mt x1 x2 : Int32) (h2 : zb x2) : p_Tr_turn there on x1 x2 ∧ p_Mo_turn mt mthere mon x1 x2 ∧ ∃ on' mon', rU there on' fa me mthere mon' mf mm ∧ ((∃ r, s_Tr_turn there on x1 x2 = Sum.inl (r, on') ∧ s_Mo_turn mt mthere mon x1 x2 = (r, 0, mon')) ∨ (s_Tr_turn there on x1 x2 = Sum.inr (n_NSE, on') ∧ ∃ r, s_Mo_turn mt mthere mon x1 x2 = (r, 2, mon')) ∨ (s_Tr_turn there on x1 x2 = Sum.inr (n_IAE, on') ∧ ∃ r, s_Mo_turn mt mthere mon x1 x2 = (r, 1, mon'))) := by
  have bad0 : s_Mo_bad mt 0 = (1, 1) := rfl
  have bad1 : s_Mo_bad mt 1 = (0, 0) := rfl
  rcases wi x1 (n := 6) (by omega) (by omega) with ⟨⟨k, hk, rfl⟩, w1, w2⟩ | ⟨w1, w2⟩
  · obtain ⟨a1, a2, a3, a4, a5, a6, a7⟩ := hU k hk
    have k6 : vp_in (nI k) 6 := pk_in k 6 hk
    have clk : (nI k).toNatClampNeg = k := nI_clamp (by omega)
    by_cases t0 : there k = 0
    · have A := e_Tr_turn there on (nI k) x2 (Q := fun _ _ => False) (X := fun E m => (E, m) = (n_NSE, on)) (by
        intro r1 q
        rw [show s_Tr_isWithin (nI k) 6 = 1 from w1] at q
        subst q
        refine ⟨fun _ => ⟨k6, fun j e l => ?_⟩, fun q => absurd q (by decide)⟩
        have ej : k = j := (nI_eq (by omega) (by omega)).mp e
        subst ej
        exact ⟨fun q => absurd t0 q, fun _ => rfl⟩)
      have M := e_Mo_turn mt mthere mon (nI k) x2 (Q := fun a b => (a, b) = (0, 2, mon)) (by
        intro r1 q
        rw [show s_Mo_in (nI k) 0 5 = 1 from w2] at q
        subst q
        intro r5 u6 q
        rw [bad1] at q
        cases q
        refine ⟨fun _ => ⟨k6, ?_⟩, fun q => absurd rfl q⟩
        rw [clk]
        exact ⟨fun q => absurd (a1 ▸ t0) q, fun _ => rfl⟩)
      refine ⟨A.1, M.1, on, mon, hU, Or.inr (Or.inl ⟨?_, 0, M.2⟩)⟩
      cases h : s_Tr_turn there on (nI k) x2 with
      | inl r => have := A.2; rw [h] at this; exact this.elim
      | inr E => have := A.2; rw [h] at this; rw [show E = (n_NSE, on) from this]
    · have hU' : rU there (va_up on k x2) fa me mthere (upd mon k (vp_nar .boolean x2)) mf mm := by
        intro i hi
        obtain ⟨b1, b2, b3, b4, b5, b6, b7⟩ := hU i hi
        have nar : vp_nar .boolean x2 = x2 := by rcases h2 with rfl | rfl <;> rfl
        rw [nar]
        by_cases e : i = k
        · subst e
          simp only [va_up, upd, if_true]
          exact ⟨b1, by trivial, b3, b4, b5, h2, fun q => absurd q t0⟩
        · simp only [va_up, upd, if_neg e]
          exact ⟨b1, b2, b3, b4, b5, b6, b7⟩
      obtain ⟨c, o1, o2⟩ := on_eq (fun i hi => by obtain ⟨b1, b2, b3, b4, b5, b6, b7⟩ := hU' i hi; exact ⟨b1, b2, b7⟩)
      have A := e_Tr_turn there on (nI k) x2 (Q := fun r m => (r, m) = (c, va_up on k x2)) (X := fun E m => False) (by
        intro r1 q
        rw [show s_Tr_isWithin (nI k) 6 = 1 from w1] at q
        subst q
        refine ⟨fun _ => ⟨k6, fun j e l => ?_⟩, fun q => absurd q (by decide)⟩
        have ej : k = j := (nI_eq (by omega) (by omega)).mp e
        subst ej
        refine ⟨fun _ => ⟨h2, o1.1, fun r60 q => ?_⟩, fun q => absurd q t0⟩
        rw [o1.2] at q
        subst q
        rfl)
      have M := e_Mo_turn mt mthere mon (nI k) x2 (Q := fun a b => (a, b) = (c, 0, upd mon k (vp_nar .boolean x2))) (by
        intro r1 q
        rw [show s_Mo_in (nI k) 0 5 = 1 from w2] at q
        subst q
        intro r5 u6 q
        rw [bad1] at q
        cases q
        refine ⟨fun _ => ⟨k6, ?_⟩, fun q => absurd rfl q⟩
        rw [clk]
        refine ⟨fun _ => ⟨k6, o2.1, fun r15 q => ?_⟩, fun q => absurd (a1.trans q) t0⟩
        rw [o2.2] at q
        subst q
        rfl)
      refine ⟨A.1, M.1, _, _, hU', Or.inl ⟨c, ?_, M.2⟩⟩
      cases h : s_Tr_turn there on (nI k) x2 with
      | inl r => have := A.2; rw [h] at this; rw [show r = (c, va_up on k x2) from this]
      | inr E => have := A.2; rw [h] at this; exact this.elim
  · have A := e_Tr_turn there on x1 x2 (Q := fun _ _ => False) (X := fun E m => (E, m) = (n_IAE, on)) (by
      intro r1 q
      rw [show s_Tr_isWithin x1 6 = 0 from w1] at q
      subst q
      exact ⟨fun q => absurd rfl q, fun _ => rfl⟩)
    have M := e_Mo_turn mt mthere mon x1 x2 (Q := fun a b => (a, b) = (0, 1, mon)) (by
      intro r1 q
      rw [show s_Mo_in x1 0 5 = 0 from w2] at q
      subst q
      intro r5 u6 q
      rw [bad0] at q
      cases q
      exact ⟨fun q => absurd q (by decide), fun _ => rfl⟩)
    refine ⟨A.1, M.1, on, mon, hU, Or.inr (Or.inr ⟨?_, 0, M.2⟩)⟩
    cases h : s_Tr_turn there on x1 x2 with
    | inl r => have := A.2; rw [h] at this; exact this.elim
    | inr E => have := A.2; rw [h] at this; rw [show E = (n_IAE, on) from this]
theorem ne_NSE : ¬ n_IAE = n_NSE := by decide
theorem o_turn : zO_turn zI := by
  intro N t_place t_firings t_text_length t_text_at t_text_characters t_text_draft_length t_text_draft_actions t_text_draft_site t_text_draft_exit t_text_draft_conditional t_text_draft_there t_text_draft_on t_text_draft_failures t_text_draft_meetings t_text_draft_steps t_rules_e_length t_rules_e_actions t_rules_e_site t_rules_e_exit t_rules_e_conditional t_rules_e_there t_rules_e_on t_rules_e_failures t_rules_e_meetings t_rules_e_steps t_runner_time t_runner_dropped t_runner_thread t_runner_handedA t_runner_handedB t_runner_handedC t_runner_top t_runner_over t_runner_failed t_runner_met t_runner_stack t_runner_variables t_runner_gatherers_e_size t_runner_gatherers_e_keys t_runner_gatherers_e_least t_runner_gatherers_e_greatest t_runner_gatherers_e_sums t_runner_gatherers_e_values t_runner_gatherers_e_bins t_runner_records_oldest t_runner_records_size t_runner_records_lost t_runner_records_ring m_newSite m_newCondition m_newActions m_size m_place m_pos m_at m_operators m_recorded m_lost m_dropped m_firings m_time m_thread m_thrown m_failed m_text m_code m_site m_condition m_actions m_kind m_target m_first m_second m_failures m_met m_there m_on m_compared m_globals m_own m_records m_pile m_handed m_keys m_key m_count m_bins m_operator m_starts m_sum m_least m_greatest x1 x2 o hN hI hb
  obtain ⟨i1, i2, i3, i4, i5, i6, i7⟩ := hI
  obtain ⟨q1, q2, on', mon', q3, q4⟩ := t_core i4 m_thrown x1 x2 hb
  refine ⟨q1, q2, fun k u0 o' b v0 v1 h1 h2 => ?_⟩
  have i7' := rX_mono (show 300 * N ≤ 300 * (N + 1) by omega) i7
  unfold s_La_turn at h1
  rcases q4 with ⟨r, e1, e2⟩ | ⟨e1, r, e2⟩ | ⟨e1, r, e2⟩
  · rw [e1] at h1
    rw [e2] at h2
    cases h1
    cases h2
    exact ⟨rfl, fun _ => rfl, i1, i2, i3, q3, i5, rM_up i6, i7'⟩
  · rw [e1] at h1
    rw [e2] at h2
    simp only [if_true] at h1
    cases h1
    cases h2
    exact ⟨rfl, fun q => absurd q (by decide), i1, i2, i3, q3, i5, rM_up i6, i7'⟩
  · rw [e1] at h1
    rw [e2] at h2
    simp only [if_neg ne_NSE] at h1
    cases h1
    cases h2
    exact ⟨rfl, fun q => absurd q (by decide), i1, i2, i3, q3, i5, rM_up i6, i7'⟩
