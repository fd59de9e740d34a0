/-! compile -/
theorem gRl_ok {nx : Nat → Nat} {n : Nat} (h : (gRl nx n).1 = true) : zb (gRl nx n).2.2.2.1 ∧ (gRl nx n).2.2.1 < 8 := by
  unfold gRl at h ⊢
  split at h
  · rename_i h0
    rw [if_pos h0]
    split at h
    · rename_i h1
      rw [if_pos h1]
      have h2 : 48 ≤ nx 1 ∧ nx 1 ≤ 55 := by
        unfold gT at h1
        split at h1
        · assumption
        · exact absurd h1 (by simp)
      refine ⟨?_, by simp only; omega⟩
      simp only
      split
      · exact Or.inr rfl
      · exact Or.inl rfl
    · exact absurd h (by simp)
  · exact absurd h (by simp)
theorem o_compile : zO_compile zI := by
  intro N t_place t_firings t_text_length t_text_at t_text_characters t_text_draft_length t_text_draft_actions t_text_draft_site t_text_draft_exit t_text_draft_conditional t_text_draft_there t_text_draft_on t_text_draft_failures t_text_draft_meetings t_text_draft_steps t_rules_e_length t_rules_e_actions t_rules_e_site t_rules_e_exit t_rules_e_conditional t_rules_e_there t_rules_e_on t_rules_e_failures t_rules_e_meetings t_rules_e_steps t_runner_time t_runner_dropped t_runner_thread t_runner_handedA t_runner_handedB t_runner_handedC t_runner_top t_runner_over t_runner_failed t_runner_met t_runner_stack t_runner_variables t_runner_gatherers_e_size t_runner_gatherers_e_keys t_runner_gatherers_e_least t_runner_gatherers_e_greatest t_runner_gatherers_e_sums t_runner_gatherers_e_values t_runner_gatherers_e_bins t_runner_records_oldest t_runner_records_size t_runner_records_lost t_runner_records_ring m_newSite m_newCondition m_newActions m_size m_place m_pos m_at m_operators m_recorded m_lost m_dropped m_firings m_time m_thread m_thrown m_failed m_text m_code m_site m_condition m_actions m_kind m_target m_first m_second m_failures m_met m_there m_on m_compared m_globals m_own m_records m_pile m_handed m_keys m_key m_count m_bins m_operator m_starts m_sum m_least m_greatest x1 o hN hI 
  obtain ⟨i1, i2, i3, i4, i5, i6, i7⟩ := hI
  obtain ⟨n, ch, n1, rfl, rfl, n4⟩ := i3
  have hT : zTx n ch t_text_characters m_text := ⟨n1, n4⟩
  have i7' := rX_mono (show 300 * N ≤ 300 * (N + 1) by omega) i7
  have bad0 : ∀ t, s_Mo_bad t 0 = (1, 1) := fun _ => rfl
  have bad1 : ∀ t, s_Mo_bad t 1 = (0, 0) := fun _ => rfl
  have rT0 : rT 0 t_text_characters 0 m_text := ⟨0, ch, by omega, rfl, rfl, fun i hi => absurd hi (by omega)⟩
  rcases wi x1 (n := 6) (by omega) (by omega) with ⟨⟨k, hk, rfl⟩, w1, w2⟩ | ⟨w1, w2⟩
  · have CR := c_read hT t_text_at t_text_draft_length t_text_draft_actions t_text_draft_site t_text_draft_exit t_text_draft_conditional t_text_draft_there t_text_draft_on t_text_draft_failures t_text_draft_meetings t_text_draft_steps
    have MR := m_rule hT (ns0 := m_newSite) (nc0 := m_newCondition) (na0 := m_newActions) (os := m_operators) (st := m_starts) (cm := m_compared) (cd := m_code) (op := m_operator) (kd := m_kind) (tg := m_target) (f1 := m_first) (f2 := m_second)
    have k6 : vp_in (nI k) 6 := pk_in k 6 hk
    have GR := gRl_ok (nx := zN n ch) (n := n)
    generalize gRl (zN n ch) n = R at CR MR GR
    obtain ⟨ok, p', s, ex, C, A⟩ := R
    cases ok with
    | false =>
      have AA := e_Tr_compile t_place (nI n) t_text_at t_rules_e_length t_rules_e_actions t_rules_e_site t_rules_e_exit t_rules_e_conditional t_rules_e_there t_rules_e_on t_rules_e_failures t_rules_e_meetings t_text_draft_length t_text_draft_actions t_text_draft_site t_text_draft_exit t_text_draft_conditional t_text_draft_there t_text_draft_on t_text_draft_failures t_text_draft_meetings t_text_characters t_rules_e_steps t_text_draft_steps (nI k) (Q := fun _ _ => False) (X := fun E m => ∃ (e1 e2 e3 e4 e5 e6 e7 e8 e9 : Int32) (es : Nat → Int32), m = (nI p', 0, nI p', t_rules_e_length, t_rules_e_actions, t_rules_e_site, t_rules_e_exit, t_rules_e_conditional, t_rules_e_there, t_rules_e_on, t_rules_e_failures, t_rules_e_meetings, e1, e2, e3, e4, e5, e6, e7, e8, e9, t_rules_e_steps, es)) (by
        intro r1 q
        rw [show s_Tr_isWithin (nI k) 6 = 1 from w1] at q
        subst q
        refine ⟨fun _ => ⟨CR.1, fun r7 m10 m11 m12 m13 m14 m15 m16 m17 m18 m19 m20 q u23 q23 => ?_⟩, fun q => absurd q (by decide)⟩
        have c2 := CR.2
        rw [q] at c2
        obtain ⟨k1, k2, _⟩ := c2
        simp only at k1 k2
        subst k1 k2
        subst q23
        exact ⟨fun q => absurd rfl q, fun _ => ⟨_, _, _, _, _, _, _, _, _, _, rfl⟩⟩)
      have MM := e_Mo_compile m_newSite m_newCondition m_newActions (nI n) m_place m_pos m_at m_operators m_thrown m_text m_starts m_compared m_code m_operator m_kind m_target m_first m_second m_site m_condition m_actions m_there m_on m_failures m_met (nI k) (Q := fun x y => y.2.2.2.1 = 0 ∧ y.2.2.2.2.1 = nI p' ∧ y.2.2.2.2.2.2.2.2.1 = 1 ∧ y.2.2.2.2.2.2.2.2.2.2.2.2.2.2.2.2.2.1 = m_site ∧ y.2.2.2.2.2.2.2.2.2.2.2.2.2.2.2.2.2.2.1 = m_condition ∧ y.2.2.2.2.2.2.2.2.2.2.2.2.2.2.2.2.2.2.2.1 = m_actions ∧ y.2.2.2.2.2.2.2.2.2.2.2.2.2.2.2.2.2.2.2.2.1 = m_there ∧ y.2.2.2.2.2.2.2.2.2.2.2.2.2.2.2.2.2.2.2.2.2.1 = m_on ∧ y.2.2.2.2.2.2.2.2.2.2.2.2.2.2.2.2.2.2.2.2.2.2.1 = m_failures ∧ y.2.2.2.2.2.2.2.2.2.2.2.2.2.2.2.2.2.2.2.2.2.2.2 = m_met ∧ (∀ j, j < 288 → y.2.2.2.2.2.2.2.2.2.2.2.2.2.1 j = m_kind j ∧ y.2.2.2.2.2.2.2.2.2.2.2.2.2.2.1 j = m_target j ∧ y.2.2.2.2.2.2.2.2.2.2.2.2.2.2.2.1 j = m_first j ∧ y.2.2.2.2.2.2.2.2.2.2.2.2.2.2.2.2.1 j = m_second j) ∧ (∀ j, j < 1200 → y.2.2.2.2.2.2.2.2.2.2.2.1 j = m_code j)) (by
        intro r1 q
        rw [show s_Mo_in (nI k) 0 5 = 1 from w2] at q
        subst q
        intro r5 u6 q
        rw [bad1] at q
        cases q
        refine ⟨fun _ => ⟨MR.1, fun r11 m14 m15 m16 m17 m18 m19 m20 m21 m22 m23 m24 m25 m26 m27 q => ?_⟩, fun q => absurd rfl q⟩
        have c2 := MR.2
        rw [show s_Mo_rule m_newSite m_newCondition m_newActions (nI n) (nI 0) (nI 1200) m_operators m_text m_starts m_compared m_code m_operator m_kind m_target m_first m_second = _ from q] at c2
        obtain ⟨k1, k2, k3, k4, _⟩ := c2
        simp only at k1 k2 k3 k4
        have k1 : r11 = 0 := k1
        subst k1
        refine ⟨fun q => absurd rfl q, fun _ r37 u38 q => ?_⟩
        rw [bad0] at q
        cases q
        exact ⟨fun q => absurd q (by decide), fun _ => ⟨rfl, k2, rfl, rfl, rfl, rfl, rfl, rfl, rfl, rfl, k3, k4⟩⟩)
      refine ⟨AA.1, MM.1, fun kk u0 u1 u2 u3 u4 u5 u6 u7 u8 u9 u10 u11 u12 u13 u14 u15 u16 u17 u18 u19 u20 u21 u22 o' b v0 v1 v2 v3 v4 v5 v6 v7 v8 v9 v10 v11 v12 v13 v14 v15 v16 v17 v18 v19 v20 v21 v22 v23 h1 h2 => ?_⟩
      have M2 := MM.2
      rw [h2] at M2
      obtain ⟨a1, a2, a3, a4, a5, a6, a7, a8, a9, a10, a11, a12⟩ := M2
      simp only at a1 a2 a3 a4 a5 a6 a7 a8 a9 a10 a11 a12
      subst a1 a2 a3 a4 a5 a6 a7 a8 a9 a10
      unfold s_La_compile at h1
      cases hs : s_Tr_compile t_place (nI n) t_text_at t_rules_e_length t_rules_e_actions t_rules_e_site t_rules_e_exit t_rules_e_conditional t_rules_e_there t_rules_e_on t_rules_e_failures t_rules_e_meetings t_text_draft_length t_text_draft_actions t_text_draft_site t_text_draft_exit t_text_draft_conditional t_text_draft_there t_text_draft_on t_text_draft_failures t_text_draft_meetings t_text_characters t_rules_e_steps t_text_draft_steps (nI k) with
      | inl r => have := AA.2; rw [hs] at this; exact this.elim
      | inr E =>
        have A2 := AA.2
        rw [hs] at A2 h1
        obtain ⟨E, m⟩ := E
        obtain ⟨e1, e2, e3, e4, e5, e6, e7, e8, e9, es, hm⟩ := A2
        simp only at hm
        subst hm
        cases h1
        refine ⟨rfl, fun q => absurd q (by decide), rfl, i2, rT0, i4, fun k' hk' ht => ?_, rM_up i6, i7'⟩
        exact rPk_in (i5 k' hk' ht) (fun j h1 h2 => a12 j (by omega)) (fun j h1 h2 => a11 j (by omega))
    | true =>
      obtain ⟨L, hL⟩ : ∃ L, L = zxC C ++ A.flatMap zxS := ⟨_, rfl⟩
      have AA := e_Tr_compile t_place (nI n) t_text_at t_rules_e_length t_rules_e_actions t_rules_e_site t_rules_e_exit t_rules_e_conditional t_rules_e_there t_rules_e_on t_rules_e_failures t_rules_e_meetings t_text_draft_length t_text_draft_actions t_text_draft_site t_text_draft_exit t_text_draft_conditional t_text_draft_there t_text_draft_on t_text_draft_failures t_text_draft_meetings t_text_characters t_rules_e_steps t_text_draft_steps (nI k) (Q := fun r m => ∃ (at1 : Int32) (ds1 : Nat → Int32), sE ds1 0 L ∧ L.length ≤ 48 ∧ r = nI A.length ∧ m = (t_place, 0, at1, (va_up t_rules_e_length k (nI L.length)), (va_up t_rules_e_actions k (nI A.length)), (va_up t_rules_e_site k (nI s)), (va_up t_rules_e_exit k ex), (va_up t_rules_e_conditional k (if C.isSome then 1 else 0)), (va_up t_rules_e_there k 1), (va_up t_rules_e_on k 0), (va_up t_rules_e_failures k 0), (va_up t_rules_e_meetings k 0), t_rules_e_length k, t_rules_e_actions k, t_rules_e_site k, t_rules_e_exit k, t_rules_e_conditional k, t_rules_e_there k, t_rules_e_on k, t_rules_e_failures k, t_rules_e_meetings k, (va_up t_rules_e_steps k ds1), t_rules_e_steps k)) (X := fun _ _ => False) (by
        intro r1 q
        rw [show s_Tr_isWithin (nI k) 6 = 1 from w1] at q
        subst q
        refine ⟨fun _ => ⟨CR.1, fun r7 m10 m11 m12 m13 m14 m15 m16 m17 m18 m19 m20 q u23 q23 => ?_⟩, fun q => absurd q (by decide)⟩
        have c2 := CR.2
        rw [q] at c2
        obtain ⟨k1, k2, k3⟩ := c2
        obtain ⟨j1, j2, j3, j4, j5, j6, j7, j8, j9, j10, j11⟩ := k3 rfl
        simp only at k1 k2 j1 j2 j3 j4 j5 j6 j7 j8 j9 j10 j11
        rw [← hL] at j1 j2 j11
        have k1 : r7 = 1 := k1
        subst k1 k2 j1 j3 j4 j5 j6 j7 j8 j9 j10
        subst q23
        refine ⟨fun _ => ⟨k6, fun j28 e28 l28 => ?_⟩, fun q => absurd q (by decide)⟩
        have ej : k = j28 := (nI_eq (by omega) (by omega)).mp e28
        subst ej
        exact ⟨_, _, j11, j2, rfl, rfl⟩)
      obtain ⟨AA1, AA2⟩ := AA
      cases hs : s_Tr_compile t_place (nI n) t_text_at t_rules_e_length t_rules_e_actions t_rules_e_site t_rules_e_exit t_rules_e_conditional t_rules_e_there t_rules_e_on t_rules_e_failures t_rules_e_meetings t_text_draft_length t_text_draft_actions t_text_draft_site t_text_draft_exit t_text_draft_conditional t_text_draft_there t_text_draft_on t_text_draft_failures t_text_draft_meetings t_text_characters t_rules_e_steps t_text_draft_steps (nI k) with
      | inr E => rw [hs] at AA2; exact AA2.elim
      | inl E =>
        rw [hs] at AA2
        obtain ⟨r, m⟩ := E
        obtain ⟨at1, ds1, D1, D2, D3, D4⟩ := AA2
        simp only at D3 D4
        subst D3 D4
        have exb : zb ex ∧ s < 8 := GR rfl
        have MM := e_Mo_compile m_newSite m_newCondition m_newActions (nI n) m_place m_pos m_at m_operators m_thrown m_text m_starts m_compared m_code m_operator m_kind m_target m_first m_second m_site m_condition m_actions m_there m_on m_failures m_met (nI k) (Q := fun x y => x = nI A.length ∧ y.2.2.2.1 = 0 ∧ y.2.2.2.2.1 = m_place ∧ y.2.2.2.2.2.2.2.2.1 = 0 ∧ rU (va_up t_rules_e_there k 1) (va_up t_rules_e_on k 0) (va_up t_rules_e_failures k 0) (va_up t_rules_e_meetings k 0) y.2.2.2.2.2.2.2.2.2.2.2.2.2.2.2.2.2.2.2.2.1 y.2.2.2.2.2.2.2.2.2.2.2.2.2.2.2.2.2.2.2.2.2.1 y.2.2.2.2.2.2.2.2.2.2.2.2.2.2.2.2.2.2.2.2.2.2.1 y.2.2.2.2.2.2.2.2.2.2.2.2.2.2.2.2.2.2.2.2.2.2.2 ∧ rP (va_up t_rules_e_there k 1) (va_up t_rules_e_length k (nI L.length)) (va_up t_rules_e_site k (nI s)) (va_up t_rules_e_exit k ex) (va_up t_rules_e_conditional k (if C.isSome then 1 else 0)) (va_up t_rules_e_steps k ds1) y.2.2.2.2.2.2.2.2.2.2.2.2.2.2.2.2.2.1 y.2.2.2.2.2.2.2.2.2.2.2.2.2.2.2.2.2.2.1 y.2.2.2.2.2.2.2.2.2.2.2.2.2.2.2.2.2.2.2.1 y.2.2.2.2.2.2.2.2.2.2.2.2.2.1 y.2.2.2.2.2.2.2.2.2.2.2.2.2.2.1 y.2.2.2.2.2.2.2.2.2.2.2.2.2.2.2.1 y.2.2.2.2.2.2.2.2.2.2.2.2.2.2.2.2.1 y.2.2.2.2.2.2.2.2.2.2.2.1) (by
          intro r1 q
          rw [show s_Mo_in (nI k) 0 5 = 1 from w2] at q
          subst q
          intro r5 u6 q
          rw [bad1] at q
          cases q
          refine ⟨fun _ => ⟨MR.1, fun r11 m14 m15 m16 m17 m18 m19 m20 m21 m22 m23 m24 m25 m26 m27 q => ?_⟩, fun q => absurd rfl q⟩
          have c2 := MR.2
          rw [show s_Mo_rule m_newSite m_newCondition m_newActions (nI n) (nI 0) (nI 1200) m_operators m_text m_starts m_compared m_code m_operator m_kind m_target m_first m_second = _ from q] at c2
          obtain ⟨k1, k2, k3, k4, k5⟩ := c2
          obtain ⟨j1, j2, j3, a2, j4, j5, j6, j7, j8⟩ := k5 rfl
          simp only at k1 k2 k3 k4 j1 j2 j3 j4 j7 j8
          have k1 : r11 = 1 := k1
          subst k1 j2 j4
          refine ⟨fun _ r31 u32 q => ?_, fun q => absurd q (by decide)⟩
          rw [bad1] at q
          cases q
          refine ⟨fun _ => ?_, fun q => absurd rfl q⟩
          rw [by_eq k hk]
          have hA48 : A.length ≤ 48 := j3
          -- the rest, once the program has been laid
          have rest : ∀ (cd' : Nat → Int32) (co' : Int32), (∀ j, 200 * k ≤ j → j + 200 * (6 - k) < a2 → cd' j = m22 (j + 200 * (6 - k))) → (∀ j, j < 1200 → (j < 200 * k ∨ a2 ≤ j + 200 * (6 - k)) → cd' j = m22 j) → zxNb (200 * k) (200 * k + 200) cd' co' C → WP_Mo_compile_L150 600 (nI k) 1 (-(nI (200 * (6 - k)))) (0 : Int32) m14 m15 (nI A.length) 0 m_place m17 (nI a2) m19 0 m_text m20 m21 cd' m23 m24 m25 m26 m27 (upd m_site k m14) (upd m_condition k co') (upd m_actions k (nI A.length)) m_there m_on m_failures m_met (fun x y => x = nI A.length ∧ y.2.2.2.1 = 0 ∧ y.2.2.2.2.1 = m_place ∧ y.2.2.2.2.2.2.2.2.1 = 0 ∧ rU (va_up t_rules_e_there k 1) (va_up t_rules_e_on k 0) (va_up t_rules_e_failures k 0) (va_up t_rules_e_meetings k 0) y.2.2.2.2.2.2.2.2.2.2.2.2.2.2.2.2.2.2.2.2.1 y.2.2.2.2.2.2.2.2.2.2.2.2.2.2.2.2.2.2.2.2.2.1 y.2.2.2.2.2.2.2.2.2.2.2.2.2.2.2.2.2.2.2.2.2.2.1 y.2.2.2.2.2.2.2.2.2.2.2.2.2.2.2.2.2.2.2.2.2.2.2 ∧ rP (va_up t_rules_e_there k 1) (va_up t_rules_e_length k (nI L.length)) (va_up t_rules_e_site k (nI s)) (va_up t_rules_e_exit k ex) (va_up t_rules_e_conditional k (if C.isSome then 1 else 0)) (va_up t_rules_e_steps k ds1) y.2.2.2.2.2.2.2.2.2.2.2.2.2.2.2.2.2.1 y.2.2.2.2.2.2.2.2.2.2.2.2.2.2.2.2.2.2.1 y.2.2.2.2.2.2.2.2.2.2.2.2.2.2.2.2.2.2.2.1 y.2.2.2.2.2.2.2.2.2.2.2.2.2.1 y.2.2.2.2.2.2.2.2.2.2.2.2.2.2.1 y.2.2.2.2.2.2.2.2.2.2.2.2.2.2.2.1 y.2.2.2.2.2.2.2.2.2.2.2.2.2.2.2.2.1 y.2.2.2.2.2.2.2.2.2.2.2.1) := by
            intro cd' co' z1 z2 z3
            have := mc_acts (k := k) (NA := A.length) (y2 := 1) (by_ := -(nI (200 * (6 - k)))) (ns := m14) (nc := m15) (sz := 0) (pl := m_place) (pos := m17) (os := m19) (th := 0) (tx := m_text) (st := m20) (cm := m21) (op := m23) (si := upd m_site k m14) (co := upd m_condition k co') (ac := upd m_actions k (nI A.length)) (the := m_there) (on := m_on) (fa := m_failures) (me := m_met) (kd0 := m24) (tg0 := m25) (f10 := m26) (f20 := m27) (Q := fun x y => x = nI A.length ∧ y.2.2.2.1 = 0 ∧ y.2.2.2.2.1 = m_place ∧ y.2.2.2.2.2.2.2.2.1 = 0 ∧ rU (va_up t_rules_e_there k 1) (va_up t_rules_e_on k 0) (va_up t_rules_e_failures k 0) (va_up t_rules_e_meetings k 0) y.2.2.2.2.2.2.2.2.2.2.2.2.2.2.2.2.2.2.2.2.1 y.2.2.2.2.2.2.2.2.2.2.2.2.2.2.2.2.2.2.2.2.2.1 y.2.2.2.2.2.2.2.2.2.2.2.2.2.2.2.2.2.2.2.2.2.2.1 y.2.2.2.2.2.2.2.2.2.2.2.2.2.2.2.2.2.2.2.2.2.2.2 ∧ rP (va_up t_rules_e_there k 1) (va_up t_rules_e_length k (nI L.length)) (va_up t_rules_e_site k (nI s)) (va_up t_rules_e_exit k ex) (va_up t_rules_e_conditional k (if C.isSome then 1 else 0)) (va_up t_rules_e_steps k ds1) y.2.2.2.2.2.2.2.2.2.2.2.2.2.2.2.2.2.1 y.2.2.2.2.2.2.2.2.2.2.2.2.2.2.2.2.2.2.1 y.2.2.2.2.2.2.2.2.2.2.2.2.2.2.2.2.2.2.2.1 y.2.2.2.2.2.2.2.2.2.2.2.2.2.1 y.2.2.2.2.2.2.2.2.2.2.2.2.2.2.1 y.2.2.2.2.2.2.2.2.2.2.2.2.2.2.2.1 y.2.2.2.2.2.2.2.2.2.2.2.2.2.2.2.2.1 y.2.2.2.2.2.2.2.2.2.2.2.1) hk hA48 (at_ := nI a2) (cd := cd') A.length 0 (599 - A.length) m24 m25 m26 m27 (by omega) (fun _ _ => ⟨rfl, rfl, rfl, rfl⟩) (fun t ht => absurd ht (by omega)) (fun _ _ _ => ⟨rfl, rfl, rfl, rfl⟩) (fun kd' tg' f1' f2' y1 y2 => ?_)
            · rw [show 599 - A.length + A.length + 1 = 600 by omega] at this
              exact this
            · refine ⟨rfl, rfl, rfl, rfl, ?_, ?_⟩
              · intro i hi
                obtain ⟨b1, b2, b3, b4, b5, b6, b7⟩ := i4 i hi
                by_cases e : i = k
                · subst e
                  simp only [va_up, upd, if_true]
                  exact ⟨by trivial, by trivial, by trivial, by trivial, Or.inr rfl, Or.inl rfl, fun _ => by trivial⟩
                · simp only [va_up, upd, if_neg e]
                  exact ⟨b1, b2, b3, b4, b5, b6, b7⟩
              · intro k' hk' ht
                by_cases e : k' = k
                · subst e
                  simp only [va_up, upd, if_true]
                  refine ⟨s, C, A, exb.2, rfl, exb.1, j1, rfl, ?_, ?_, ?_, z3, rfl, ?_⟩
                  · rw [← hL]; exact D2
                  · rw [← hL]
                  · rw [← hL]; exact D1
                  · exact zxLb_shift hk j6 rfl z1 A 0 (fun u h1 h2 => y1 u (by omega)) j8
                · simp only [va_up, upd, if_neg e] at ht ⊢
                  have hc : ∀ j, 200 * k' ≤ j → j < 200 * k' + 200 → cd' j = m_code j := fun j h1 h2 => by
                    rw [z2 j (by omega) (by omega)]
                    exact k4 j (by omega)
                  refine rPk_in (i5 k' hk' ht) hc (fun j h1 h2 => ?_)
                  obtain ⟨x1, x2, x3, x4⟩ := y2 j (by omega) (by omega)
                  obtain ⟨x5, x6, x7, x8⟩ := k3 j (by omega)
                  exact ⟨x1.trans x5, x2.trans x6, x3.trans x7, x4.trans x8⟩
          have lay := mc_code (k := k) (NA := A.length) (y2 := 1) (by_ := -(nI (200 * (6 - k)))) (ns := m14) (nc := m15) (sz := 0) (pl := m_place) (pos := m17) (os := m19) (th := 0) (tx := m_text) (st := m20) (cm := m21) (op := m23) (si := m_site) (co := m_condition) (ac := m_actions) (the := m_there) (on := m_on) (fa := m_failures) (me := m_met) (Q := fun x y => x = nI A.length ∧ y.2.2.2.1 = 0 ∧ y.2.2.2.2.1 = m_place ∧ y.2.2.2.2.2.2.2.2.1 = 0 ∧ rU (va_up t_rules_e_there k 1) (va_up t_rules_e_on k 0) (va_up t_rules_e_failures k 0) (va_up t_rules_e_meetings k 0) y.2.2.2.2.2.2.2.2.2.2.2.2.2.2.2.2.2.2.2.2.1 y.2.2.2.2.2.2.2.2.2.2.2.2.2.2.2.2.2.2.2.2.2.1 y.2.2.2.2.2.2.2.2.2.2.2.2.2.2.2.2.2.2.2.2.2.2.1 y.2.2.2.2.2.2.2.2.2.2.2.2.2.2.2.2.2.2.2.2.2.2.2 ∧ rP (va_up t_rules_e_there k 1) (va_up t_rules_e_length k (nI L.length)) (va_up t_rules_e_site k (nI s)) (va_up t_rules_e_exit k ex) (va_up t_rules_e_conditional k (if C.isSome then 1 else 0)) (va_up t_rules_e_steps k ds1) y.2.2.2.2.2.2.2.2.2.2.2.2.2.2.2.2.2.1 y.2.2.2.2.2.2.2.2.2.2.2.2.2.2.2.2.2.2.1 y.2.2.2.2.2.2.2.2.2.2.2.2.2.2.2.2.2.2.2.1 y.2.2.2.2.2.2.2.2.2.2.2.2.2.1 y.2.2.2.2.2.2.2.2.2.2.2.2.2.2.1 y.2.2.2.2.2.2.2.2.2.2.2.2.2.2.2.1 y.2.2.2.2.2.2.2.2.2.2.2.2.2.2.2.2.1 y.2.2.2.2.2.2.2.2.2.2.2.1) (a2 := a2) (kd := m24) (tg := m25) (f1 := m26) (f2 := m27) (cd0 := m22) hk j6 rfl (a2 - 1200) 1200 (599 - (a2 - 1200)) m22 (by omega) (Nat.le_refl _) (fun _ _ => rfl) (fun j h1 h2 => absurd h2 (by omega)) (fun _ _ _ => rfl) (fun cd' z1 z2 => ?_)
          · rw [show 599 - (a2 - 1200) + (a2 - 1200) + 1 = 600 by omega] at lay
            exact lay
          · cases C with
            | none =>
              have hc : m15 = -1 := j7
              subst hc
              exact ⟨fun q => absurd q (by decide), fun _ => rest cd' (-1) z1 z2 rfl⟩
            | some TT =>
              have hc : mVb 1200 a2 m22 m15 TT := j7
              have hv := mVb_shift hk j6 rfl z1 hc
              obtain ⟨a, e1, _⟩ := hc
              refine ⟨fun _ => rest cd' _ z1 z2 hv, fun q => absurd ?_ q⟩
              rw [e1]
              exact nI_pos' (by omega))
        refine ⟨AA1, MM.1, fun kk u0 u1 u2 u3 u4 u5 u6 u7 u8 u9 u10 u11 u12 u13 u14 u15 u16 u17 u18 u19 u20 u21 u22 o' b v0 v1 v2 v3 v4 v5 v6 v7 v8 v9 v10 v11 v12 v13 v14 v15 v16 v17 v18 v19 v20 v21 v22 v23 h1 h2 => ?_⟩
        have M2 := MM.2
        rw [h2] at M2
        obtain ⟨a1, a2, a3, a4, a5, a6⟩ := M2
        simp only at a1 a2 a3 a4 a5 a6
        subst a1 a2 a3 a4
        unfold s_La_compile at h1
        rw [hs] at h1
        cases h1
        exact ⟨rfl, fun _ => rfl, i1, i2, rT0, a5, a6, rM_up i6, i7'⟩
  · have AA := e_Tr_compile t_place (nI n) t_text_at t_rules_e_length t_rules_e_actions t_rules_e_site t_rules_e_exit t_rules_e_conditional t_rules_e_there t_rules_e_on t_rules_e_failures t_rules_e_meetings t_text_draft_length t_text_draft_actions t_text_draft_site t_text_draft_exit t_text_draft_conditional t_text_draft_there t_text_draft_on t_text_draft_failures t_text_draft_meetings t_text_characters t_rules_e_steps t_text_draft_steps x1 (Q := fun _ _ => False) (X := fun E m => m = (t_place, nI n, t_text_at, t_rules_e_length, t_rules_e_actions, t_rules_e_site, t_rules_e_exit, t_rules_e_conditional, t_rules_e_there, t_rules_e_on, t_rules_e_failures, t_rules_e_meetings, t_text_draft_length, t_text_draft_actions, t_text_draft_site, t_text_draft_exit, t_text_draft_conditional, t_text_draft_there, t_text_draft_on, t_text_draft_failures, t_text_draft_meetings, t_rules_e_steps, t_text_draft_steps)) (by
      intro r1 q
      rw [show s_Tr_isWithin x1 6 = 0 from w1] at q
      subst q
      exact ⟨fun q => absurd rfl q, fun _ => rfl⟩)
    have MM := e_Mo_compile m_newSite m_newCondition m_newActions (nI n) m_place m_pos m_at m_operators m_thrown m_text m_starts m_compared m_code m_operator m_kind m_target m_first m_second m_site m_condition m_actions m_there m_on m_failures m_met x1 (Q := fun x y => y = (m_newSite, m_newCondition, m_newActions, nI n, m_place, m_pos, m_at, m_operators, 1, m_starts, m_compared, m_code, m_operator, m_kind, m_target, m_first, m_second, m_site, m_condition, m_actions, m_there, m_on, m_failures, m_met)) (by
      intro r1 q
      rw [show s_Mo_in x1 0 5 = 0 from w2] at q
      subst q
      intro r5 u6 q
      rw [bad0] at q
      cases q
      exact ⟨fun q => absurd q (by decide), fun _ => rfl⟩)
    refine ⟨AA.1, MM.1, fun kk u0 u1 u2 u3 u4 u5 u6 u7 u8 u9 u10 u11 u12 u13 u14 u15 u16 u17 u18 u19 u20 u21 u22 o' b v0 v1 v2 v3 v4 v5 v6 v7 v8 v9 v10 v11 v12 v13 v14 v15 v16 v17 v18 v19 v20 v21 v22 v23 h1 h2 => ?_⟩
    have M2 := MM.2
    rw [h2] at M2
    cases M2
    unfold s_La_compile at h1
    cases hs : s_Tr_compile t_place (nI n) t_text_at t_rules_e_length t_rules_e_actions t_rules_e_site t_rules_e_exit t_rules_e_conditional t_rules_e_there t_rules_e_on t_rules_e_failures t_rules_e_meetings t_text_draft_length t_text_draft_actions t_text_draft_site t_text_draft_exit t_text_draft_conditional t_text_draft_there t_text_draft_on t_text_draft_failures t_text_draft_meetings t_text_characters t_rules_e_steps t_text_draft_steps x1 with
    | inl r => have := AA.2; rw [hs] at this; exact this.elim
    | inr E =>
      have A2 := AA.2
      rw [hs] at A2 h1
      obtain ⟨E, m⟩ := E
      have hm : m = (t_place, nI n, t_text_at, t_rules_e_length, t_rules_e_actions, t_rules_e_site, t_rules_e_exit, t_rules_e_conditional, t_rules_e_there, t_rules_e_on, t_rules_e_failures, t_rules_e_meetings, t_text_draft_length, t_text_draft_actions, t_text_draft_site, t_text_draft_exit, t_text_draft_conditional, t_text_draft_there, t_text_draft_on, t_text_draft_failures, t_text_draft_meetings, t_rules_e_steps, t_text_draft_steps) := A2
      subst hm
      cases h1
      exact ⟨rfl, fun q => absurd q (by decide), i1, i2, ⟨n, ch, n1, rfl, rfl, n4⟩, i4, i5, rM_up i6, i7'⟩
