/-! count -/
theorem there_eq {there mthere : Nat → Int32} (h : ∀ k, k < 6 → there k = mthere k) : ∃ c, (p_Tr_rulesThere there ∧ s_Tr_rulesThere there = c) ∧ ∀ (x msz mpl mr mlo mdr mfi mt : Int32) (mf mm mks mon : Nat → Int32) (Q : Int32 → Int32 → Prop) (n : Nat), WP_Mo_count_L9 (n + 1) x c (nI 6) msz mpl mr mlo mdr mfi mt mthere mf mm mks mon Q → WP_Mo_count_L9 (n + 6 + 1) x 0 (nI 0) msz mpl mr mlo mdr mfi mt mthere mf mm mks mon Q := by
  have go : ∀ j k c, k + j = 6 → ∃ c', (∀ n, WP_Tr_rulesThere_L4 (n + j + 1) c (nI k) there (fun a _ => a = c')) ∧ ∀ (x msz mpl mr mlo mdr mfi mt : Int32) (mf mm mks mon : Nat → Int32) (Q : Int32 → Int32 → Prop) (n : Nat), WP_Mo_count_L9 (n + 1) x c' (nI 6) msz mpl mr mlo mdr mfi mt mthere mf mm mks mon Q → WP_Mo_count_L9 (n + j + 1) x c (nI k) msz mpl mr mlo mdr mfi mt mthere mf mm mks mon Q := by
    intro j
    induction j with
    | zero =>
      intro k c e
      have e : k = 6 := e
      subst e
      exact ⟨c, fun n => pk_le 6 6 (fun _ => rfl) (fun q => absurd q (by omega)), fun x msz mpl mr mlo mdr mfi mt mf mm mks mon Q n K => K⟩
    | succ j ih =>
      intro k c e
      have k6 : vp_in (nI k) 6 := pk_in k 6 (by omega)
      have clk : (nI k).toNatClampNeg = k := nI_clamp (by omega)
      have a1 := h k (by omega)
      by_cases o : there k = 0
      · obtain ⟨c', h1, h2⟩ := ih (k + 1) c (by omega)
        refine ⟨c', fun n => pk_le 6 k (fun q => absurd q (by omega)) (fun _ => ⟨k6, fun j4 e4 l4 => ?_⟩), fun x msz mpl mr mlo mdr mfi mt mf mm mks mon Q n K => pk_le 6 k (fun q => absurd q (by omega)) (fun _ => ⟨k6, ?_⟩)⟩
        · have ej : k = j4 := (nI_eq (by omega) (by omega)).mp e4
          subst ej
          refine ⟨fun _ => ?_, fun q => absurd o q⟩
          rw [Int32.add_zero, nI_1]; exact h1 n
        · rw [clk, nI_1]
          exact ⟨fun _ => h2 x msz mpl mr mlo mdr mfi mt mf mm mks mon Q n K, fun q => absurd (a1 ▸ o) q⟩
      · obtain ⟨c', h1, h2⟩ := ih (k + 1) (c + 1) (by omega)
        refine ⟨c', fun n => pk_le 6 k (fun q => absurd q (by omega)) (fun _ => ⟨k6, fun j4 e4 l4 => ?_⟩), fun x msz mpl mr mlo mdr mfi mt mf mm mks mon Q n K => pk_le 6 k (fun q => absurd q (by omega)) (fun _ => ⟨k6, ?_⟩)⟩
        · have ej : k = j4 := (nI_eq (by omega) (by omega)).mp e4
          subst ej
          refine ⟨fun q => absurd q o, fun _ => ?_⟩
          rw [nI_1]; exact h1 n
        · rw [clk, nI_1]
          exact ⟨fun q => absurd (a1.trans q) o, fun _ => h2 x msz mpl mr mlo mdr mfi mt mf mm mks mon Q n K⟩
  obtain ⟨c, h1, h2⟩ := go 6 0 0 rfl
  exact ⟨c, e_Tr_rulesThere there (Q := fun a _ => a = c) (h1 593), fun x msz mpl mr mlo mdr mfi mt mf mm mks mon Q n K => h2 x msz mpl mr mlo mdr mfi mt mf mm mks mon Q n K⟩
theorem c_core {there on fa me mthere mon mf mm sz mks : Nat → Int32} {pl tl fi dr qs lo mpl msz mfi mdr mr mlo : Int32} (hU : rU there on fa me mthere mon mf mm) (h1 : pl = mpl) (h2 : tl = msz) (h3 : qs = mr) (h4 : lo = mlo) (h5 : dr = mdr) (h6 : fi = mfi) (h7 : ∀ g, g < 3 → sz g = mks g) (mt x : Int32) :
    p_Tr_count pl fi there on fa me dr tl sz qs lo x ∧ p_Mo_count msz mpl mr mlo mdr mfi mt mthere mf mm mks mon x ∧ s_Mo_count msz mpl mr mlo mdr mfi mt mthere mf mm mks mon x = (s_Tr_count pl fi there on fa me dr tl sz qs lo x, 0) := by
  obtain ⟨cO, tO, mO⟩ := on_eq (fun i hi => by obtain ⟨b1, b2, b3, b4, b5, b6, b7⟩ := hU i hi; exact ⟨b1, b2, b7⟩)
  obtain ⟨cT, tT, mT⟩ := there_eq (fun i hi => (hU i hi).1)
  have done : ∀ v, WP_Tr_count pl fi there on fa me dr tl sz qs lo x (fun a _ => a = v) → WP_Mo_count_L9 (593 + 1) x cT (nI 6) msz mpl mr mlo mdr mfi 0 mthere mf mm mks mon (fun a b => (a, b) = (v, 0)) → p_Tr_count pl fi there on fa me dr tl sz qs lo x ∧ p_Mo_count msz mpl mr mlo mdr mfi mt mthere mf mm mks mon x ∧ s_Mo_count msz mpl mr mlo mdr mfi mt mthere mf mm mks mon x = (s_Tr_count pl fi there on fa me dr tl sz qs lo x, 0) := by
    intro v A M
    have A := e_Tr_count pl fi there on fa me dr tl sz qs lo x A
    have M := e_Mo_count msz mpl mr mlo mdr mfi mt mthere mf mm mks mon x (mT x msz mpl mr mlo mdr mfi 0 mf mm mks mon _ 593 M)
    exact ⟨A.1, M.1, by rw [A.2]; exact M.2⟩
  rcases pk_ix x (n := 36) (by omega) with h | h | ⟨j, hj, rfl⟩
  · -- less than 0
    have ne : ∀ i, i < 11 → ¬ x = nI i := fun i hi q => by rw [q] at h; exact nI_pos (by omega) h
    refine done (-2) ?_ ?_
    · refine ⟨fun _ => ⟨fun _ => ⟨fun _ => ⟨fun q => absurd q (ne 0 (by omega)), fun _ => ⟨fun q => absurd q (ne 1 (by omega)), fun _ => ⟨fun q => absurd q (ne 2 (by omega)), fun _ => ⟨fun q => absurd q (ne 3 (by omega)), fun _ => ⟨fun q => absurd q (ne 4 (by omega)), fun _ => ⟨fun q => absurd q (ne 5 (by omega)), fun _ => ⟨fun q => absurd q (ne 6 (by omega)), fun _ => ⟨fun q => absurd q (ne 7 (by omega)), fun _ => rfl⟩⟩⟩⟩⟩⟩⟩⟩, fun q => absurd (zlt h 8 (by omega)) q⟩, fun q => absurd (zlt h 30 (by omega)) q⟩, fun q => absurd (zlt h 20 (by omega)) q⟩
    · refine pk_le 6 6 (fun _ r3 q => ?_) (fun q => absurd q (by omega))
      rw [show s_Mo_in x 20 25 = 0 from in_neg h 20 (by omega) _] at q
      subst q
      refine ⟨fun _ r9 q => ?_, fun q => absurd rfl q⟩
      rw [show s_Mo_in x 30 35 = 0 from in_neg h 30 (by omega) _] at q
      subst q
      exact ⟨fun _ => ⟨fun q => absurd q (ne 0 (by omega)), fun _ => ⟨fun q => absurd q (ne 1 (by omega)), fun _ => ⟨fun q => absurd q (ne 2 (by omega)), fun _ => ⟨fun q => absurd q (ne 3 (by omega)), fun _ => ⟨fun q => absurd q (ne 4 (by omega)), fun _ => ⟨fun q => absurd q (ne 5 (by omega)), fun _ => ⟨fun q => absurd q (ne 6 (by omega)), fun _ => ⟨fun q => absurd q (ne 7 (by omega)), fun _ => ⟨fun q => absurd q (ne 8 (by omega)), fun _ => ⟨fun q => absurd q (ne 9 (by omega)), fun _ => ⟨fun q => absurd q (ne 10 (by omega)), fun _ => rfl⟩⟩⟩⟩⟩⟩⟩⟩⟩⟩⟩, fun q => absurd rfl q⟩
  · -- 36 or more
    have ne : ∀ i, i < 11 → ¬ x = nI i := fun i hi q => by rw [q] at h; exact nI_ge (by omega) (by omega) h
    refine done (-2) ?_ ?_
    · refine ⟨fun q => absurd q (zge0 (by omega) h 20 (by omega)), fun _ => ⟨fun _ => ⟨fun q => absurd q (zge0 (by omega) h 30 (by omega)), fun _ => ⟨fun _ => ⟨fun q => absurd q (zge0 (by omega) h 8 (by omega)), fun _ => ⟨fun _ => ⟨fun q => absurd q (ne 0 (by omega)), fun _ => ⟨fun q => absurd q (ne 1 (by omega)), fun _ => ⟨fun q => absurd q (ne 2 (by omega)), fun _ => ⟨fun q => absurd q (ne 3 (by omega)), fun _ => ⟨fun q => absurd q (ne 4 (by omega)), fun _ => ⟨fun q => absurd q (ne 5 (by omega)), fun _ => ⟨fun q => absurd q (ne 6 (by omega)), fun _ => ⟨fun q => absurd q (ne 7 (by omega)), fun _ => rfl⟩⟩⟩⟩⟩⟩⟩⟩, fun q => absurd (Int32.not_lt.mp (zge0 (by omega) h 11 (by omega))) q⟩⟩, fun q => absurd h q⟩⟩, fun q => absurd (Int32.not_lt.mp (zge0 (by omega) h 26 (by omega))) q⟩⟩
    · refine pk_le 6 6 (fun _ r3 q => ?_) (fun q => absurd q (by omega))
      rw [show s_Mo_in x 20 25 = 0 from in_big (b := 25) (by omega) h _ (by omega)] at q
      subst q
      refine ⟨fun _ r9 q => ?_, fun q => absurd rfl q⟩
      rw [show s_Mo_in x 30 35 = 0 from in_big (b := 35) (by omega) h _ (by omega)] at q
      subst q
      exact ⟨fun _ => ⟨fun q => absurd q (ne 0 (by omega)), fun _ => ⟨fun q => absurd q (ne 1 (by omega)), fun _ => ⟨fun q => absurd q (ne 2 (by omega)), fun _ => ⟨fun q => absurd q (ne 3 (by omega)), fun _ => ⟨fun q => absurd q (ne 4 (by omega)), fun _ => ⟨fun q => absurd q (ne 5 (by omega)), fun _ => ⟨fun q => absurd q (ne 6 (by omega)), fun _ => ⟨fun q => absurd q (ne 7 (by omega)), fun _ => ⟨fun q => absurd q (ne 8 (by omega)), fun _ => ⟨fun q => absurd q (ne 9 (by omega)), fun _ => ⟨fun q => absurd q (ne 10 (by omega)), fun _ => rfl⟩⟩⟩⟩⟩⟩⟩⟩⟩⟩⟩, fun q => absurd rfl q⟩
  · have w20 : s_Mo_in (nI j) 20 25 = if 20 ≤ j ∧ j ≤ 25 then 1 else 0 := f_in (a := 20) (b := 25) (by omega) (by omega) (by omega)
    have w30 : s_Mo_in (nI j) 30 35 = if 30 ≤ j ∧ j ≤ 35 then 1 else 0 := f_in (a := 30) (b := 35) (by omega) (by omega) (by omega)
    have sub : ∀ b, b ≤ j → nI j - nI b = nI (j - b) := fun b hb => pk_sub hb
    -- what the class does, by where j lies
    have ct : ∀ (v : Int32) (chain : (j < 8 ∨ (11 ≤ j ∧ j < 20) ∨ (26 ≤ j ∧ j < 30)) → (((nI j = (0 : Int32)) → pl = v) ∧ ((¬ nI j = (0 : Int32)) → ((nI j = (1 : Int32)) → tl = v) ∧ ((¬ nI j = (1 : Int32)) → ((nI j = (2 : Int32)) → p_Tr_rulesThere there ∧ (∀ (r : Int32), s_Tr_rulesThere there = r → r = v)) ∧ ((¬ nI j = (2 : Int32)) → ((nI j = (3 : Int32)) → p_Tr_rulesOn on ∧ (∀ (r : Int32), s_Tr_rulesOn on = r → r = v)) ∧ ((¬ nI j = (3 : Int32)) → ((nI j = (4 : Int32)) → qs = v) ∧ ((¬ nI j = (4 : Int32)) → ((nI j = (5 : Int32)) → lo = v) ∧ ((¬ nI j = (5 : Int32)) → ((nI j = (6 : Int32)) → dr = v) ∧ ((¬ nI j = (6 : Int32)) → ((nI j = (7 : Int32)) → fi = v) ∧ ((¬ nI j = (7 : Int32)) → (-2) = v)))))))))) (gath : ∀ g, j = 8 + g → g < 3 → sz g = v) (fl : ∀ k, j = 20 + k → k < 6 → (there k = 0 → -1 = v) ∧ (¬ there k = 0 → fa k = v)) (mtt : ∀ k, j = 30 + k → k < 6 → (there k = 0 → -1 = v) ∧ (¬ there k = 0 → me k = v)), WP_Tr_count pl fi there on fa me dr tl sz qs lo (nI j) (fun a _ => a = v) := by
      intro v chain gath fl mtt
      have G : ¬ j < 8 → j < 11 → vp_in (nI j - 8) 3 ∧ ∀ j60 : Nat, nI j - 8 = nI j60 → j60 < 3 → sz j60 = v := fun a b => by
        rw [show nI j - 8 = nI (j - 8) from sub 8 (by omega)]
        refine ⟨pk_in (j - 8) 3 (by omega), fun g e l => ?_⟩
        have := (nI_eq (by omega) (by omega)).mp e
        exact gath g (by omega) l
      have F : 20 ≤ j → j < 26 → vp_in (nI j - 20) 6 ∧ ∀ k : Nat, nI j - 20 = nI k → k < 6 → ((there k = 0) → -1 = v) ∧ ((¬ there k = 0) → fa k = v) := fun a b => by
        rw [show nI j - 20 = nI (j - 20) from sub 20 (by omega)]
        refine ⟨pk_in (j - 20) 6 (by omega), fun g e l => ?_⟩
        have := (nI_eq (by omega) (by omega)).mp e
        exact fl g (by omega) l
      have M : 30 ≤ j → vp_in (nI j - 30) 6 ∧ ∀ k : Nat, nI j - 30 = nI k → k < 6 → ((there k = 0) → -1 = v) ∧ ((¬ there k = 0) → me k = v) := fun a => by
        rw [show nI j - 30 = nI (j - 30) from sub 30 (by omega)]
        refine ⟨pk_in (j - 30) 6 (by omega), fun g e l => ?_⟩
        have := (nI_eq (by omega) (by omega)).mp e
        exact mtt g (by omega) l
      refine pk_lt j 20 (fun a => pk_lt j 30 (fun _ => pk_lt j 8 (fun b => chain (Or.inl b)) (fun b => pk_le 11 j (fun c => chain (Or.inr (Or.inl ⟨c, a⟩))) (fun c => G (by omega) c))) (fun q => absurd q (by omega))) (fun a => pk_le 26 j (fun b => pk_lt j 30 (fun d => pk_lt j 8 (fun q => absurd q (by omega)) (fun _ => pk_le 11 j (fun c => chain (Or.inr (Or.inr ⟨b, d⟩))) (fun c => absurd c (by omega)))) (fun c => pk_le 36 j (fun q => absurd q (by omega)) (fun _ => M c))) (fun b => F a b))
    have mtE : ∀ (v : Int32) (chain : ¬ (20 ≤ j ∧ j ≤ 25) → ¬ (30 ≤ j ∧ j ≤ 35) → (((nI j = (0 : Int32)) → (mpl, (0 : Int32)) = (v, 0)) ∧ ((¬ nI j = (0 : Int32)) → ((nI j = (1 : Int32)) → (msz, (0 : Int32)) = (v, 0)) ∧ ((¬ nI j = (1 : Int32)) → ((nI j = (2 : Int32)) → (cT, (0 : Int32)) = (v, 0)) ∧ ((¬ nI j = (2 : Int32)) → ((nI j = (3 : Int32)) → p_Mo_rulesOn mthere mon ∧ (∀ (r : Int32), s_Mo_rulesOn mthere mon = r → (r, (0 : Int32)) = (v, 0))) ∧ ((¬ nI j = (3 : Int32)) → ((nI j = (4 : Int32)) → (mr, (0 : Int32)) = (v, 0)) ∧ ((¬ nI j = (4 : Int32)) → ((nI j = (5 : Int32)) → (mlo, (0 : Int32)) = (v, 0)) ∧ ((¬ nI j = (5 : Int32)) → ((nI j = (6 : Int32)) → (mdr, (0 : Int32)) = (v, 0)) ∧ ((¬ nI j = (6 : Int32)) → ((nI j = (7 : Int32)) → (mfi, (0 : Int32)) = (v, 0)) ∧ ((¬ nI j = (7 : Int32)) → ((nI j = (8 : Int32)) → vp_in (nI j - (8 : Int32)) 3 ∧ ((mks (nI j - (8 : Int32)).toNatClampNeg), (0 : Int32)) = (v, 0)) ∧ ((¬ nI j = (8 : Int32)) → ((nI j = (9 : Int32)) → vp_in (nI j - (8 : Int32)) 3 ∧ ((mks (nI j - (8 : Int32)).toNatClampNeg), (0 : Int32)) = (v, 0)) ∧ ((¬ nI j = (9 : Int32)) → ((nI j = (10 : Int32)) → vp_in (nI j - (8 : Int32)) 3 ∧ ((mks (nI j - (8 : Int32)).toNatClampNeg), (0 : Int32)) = (v, 0)) ∧ ((¬ nI j = (10 : Int32)) → ((-2), (0 : Int32)) = (v, 0)))))))))))))) (fl : ∀ k, j = 20 + k → k < 6 → (mthere k = 0 → -1 = v) ∧ (¬ mthere k = 0 → mf k = v)) (mtt : ∀ k, j = 30 + k → k < 6 → (mthere k = 0 → -1 = v) ∧ (¬ mthere k = 0 → mm k = v)), WP_Mo_count_L9 (593 + 1) (nI j) cT (nI 6) msz mpl mr mlo mdr mfi 0 mthere mf mm mks mon (fun a b => (a, b) = (v, 0)) := by
      intro v chain fl mtt
      refine pk_le 6 6 (fun _ r3 q => ?_) (fun q => absurd q (by omega))
      rw [w20] at q
      by_cases c20 : 20 ≤ j ∧ j ≤ 25
      · rw [if_pos c20] at q
        subst q
        refine ⟨fun q => absurd q (by decide), fun _ => ?_⟩
        rw [show nI j - 20 = nI (j - 20) from sub 20 (by omega), nI_clamp (by omega)]
        have i6 : vp_in (nI (j - 20)) 6 := pk_in (j - 20) 6 (by omega)
        obtain ⟨a, b⟩ := fl (j - 20) (by omega) (by omega)
        exact ⟨i6, fun q => congrArg (·, 0) (a q), fun q => ⟨i6, congrArg (·, 0) (b q)⟩⟩
      · rw [if_neg c20] at q
        subst q
        refine ⟨fun _ r9 q => ?_, fun q => absurd rfl q⟩
        rw [w30] at q
        by_cases c30 : 30 ≤ j ∧ j ≤ 35
        · rw [if_pos c30] at q
          subst q
          refine ⟨fun q => absurd q (by decide), fun _ => ?_⟩
          rw [show nI j - 30 = nI (j - 30) from sub 30 (by omega), nI_clamp (by omega)]
          have i6 : vp_in (nI (j - 30)) 6 := pk_in (j - 30) 6 (by omega)
          obtain ⟨a, b⟩ := mtt (j - 30) (by omega) (by omega)
          exact ⟨i6, fun q => congrArg (·, 0) (a q), fun q => ⟨i6, congrArg (·, 0) (b q)⟩⟩
        · rw [if_neg c30] at q
          subst q
          exact ⟨fun _ => chain c20 c30, fun q => absurd rfl q⟩
    have none : (11 ≤ j ∧ j < 20) ∨ (26 ≤ j ∧ j < 30) → _ := fun hr => done (-2) (ct (-2) (fun _ => ⟨fun q => absurd q ((fun i (hi : i < 11) (q : nI j = nI i) => absurd ((nI_eq (by omega) (by omega)).mp q) (by omega)) 0 (by omega)), fun _ => ⟨fun q => absurd q ((fun i (hi : i < 11) (q : nI j = nI i) => absurd ((nI_eq (by omega) (by omega)).mp q) (by omega)) 1 (by omega)), fun _ => ⟨fun q => absurd q ((fun i (hi : i < 11) (q : nI j = nI i) => absurd ((nI_eq (by omega) (by omega)).mp q) (by omega)) 2 (by omega)), fun _ => ⟨fun q => absurd q ((fun i (hi : i < 11) (q : nI j = nI i) => absurd ((nI_eq (by omega) (by omega)).mp q) (by omega)) 3 (by omega)), fun _ => ⟨fun q => absurd q ((fun i (hi : i < 11) (q : nI j = nI i) => absurd ((nI_eq (by omega) (by omega)).mp q) (by omega)) 4 (by omega)), fun _ => ⟨fun q => absurd q ((fun i (hi : i < 11) (q : nI j = nI i) => absurd ((nI_eq (by omega) (by omega)).mp q) (by omega)) 5 (by omega)), fun _ => ⟨fun q => absurd q ((fun i (hi : i < 11) (q : nI j = nI i) => absurd ((nI_eq (by omega) (by omega)).mp q) (by omega)) 6 (by omega)), fun _ => ⟨fun q => absurd q ((fun i (hi : i < 11) (q : nI j = nI i) => absurd ((nI_eq (by omega) (by omega)).mp q) (by omega)) 7 (by omega)), fun _ => rfl⟩⟩⟩⟩⟩⟩⟩⟩) (fun g e l => absurd e (by omega)) (fun k e l => absurd e (by omega)) (fun k e l => absurd e (by omega))) (mtE (-2) (fun _ _ => ⟨fun q => absurd q ((fun i (hi : i < 11) (q : nI j = nI i) => absurd ((nI_eq (by omega) (by omega)).mp q) (by omega)) 0 (by omega)), fun _ => ⟨fun q => absurd q ((fun i (hi : i < 11) (q : nI j = nI i) => absurd ((nI_eq (by omega) (by omega)).mp q) (by omega)) 1 (by omega)), fun _ => ⟨fun q => absurd q ((fun i (hi : i < 11) (q : nI j = nI i) => absurd ((nI_eq (by omega) (by omega)).mp q) (by omega)) 2 (by omega)), fun _ => ⟨fun q => absurd q ((fun i (hi : i < 11) (q : nI j = nI i) => absurd ((nI_eq (by omega) (by omega)).mp q) (by omega)) 3 (by omega)), fun _ => ⟨fun q => absurd q ((fun i (hi : i < 11) (q : nI j = nI i) => absurd ((nI_eq (by omega) (by omega)).mp q) (by omega)) 4 (by omega)), fun _ => ⟨fun q => absurd q ((fun i (hi : i < 11) (q : nI j = nI i) => absurd ((nI_eq (by omega) (by omega)).mp q) (by omega)) 5 (by omega)), fun _ => ⟨fun q => absurd q ((fun i (hi : i < 11) (q : nI j = nI i) => absurd ((nI_eq (by omega) (by omega)).mp q) (by omega)) 6 (by omega)), fun _ => ⟨fun q => absurd q ((fun i (hi : i < 11) (q : nI j = nI i) => absurd ((nI_eq (by omega) (by omega)).mp q) (by omega)) 7 (by omega)), fun _ => ⟨fun q => absurd q ((fun i (hi : i < 11) (q : nI j = nI i) => absurd ((nI_eq (by omega) (by omega)).mp q) (by omega)) 8 (by omega)), fun _ => ⟨fun q => absurd q ((fun i (hi : i < 11) (q : nI j = nI i) => absurd ((nI_eq (by omega) (by omega)).mp q) (by omega)) 9 (by omega)), fun _ => ⟨fun q => absurd q ((fun i (hi : i < 11) (q : nI j = nI i) => absurd ((nI_eq (by omega) (by omega)).mp q) (by omega)) 10 (by omega)), fun _ => rfl⟩⟩⟩⟩⟩⟩⟩⟩⟩⟩⟩) (fun k e l => absurd e (by omega)) (fun k e l => absurd e (by omega)))
    rcases (by omega : j < 8 ∨ (8 ≤ j ∧ j < 11) ∨ ((11 ≤ j ∧ j < 20) ∨ (26 ≤ j ∧ j < 30)) ∨ (20 ≤ j ∧ j < 26) ∨ 30 ≤ j) with c | c | c | c | c
    · rcases (by omega : j = 0 ∨ j = 1 ∨ j = 2 ∨ j = 3 ∨ j = 4 ∨ j = 5 ∨ j = 6 ∨ j = 7) with rfl | rfl | rfl | rfl | rfl | rfl | rfl | rfl
      · exact done pl (ct _ (fun _ => ⟨fun _ => rfl, fun q => absurd rfl q⟩) (fun g e l => absurd e (by omega)) (fun k e l => absurd e (by omega)) (fun k e l => absurd e (by omega))) (mtE _ (fun _ _ => ⟨fun _ => (by rw [h1]), fun q => absurd rfl q⟩) (fun k e l => absurd e (by omega)) (fun k e l => absurd e (by omega)))
      · exact done tl (ct _ (fun _ => ⟨fun q => absurd q (by decide), fun _ => ⟨fun _ => rfl, fun q => absurd rfl q⟩⟩) (fun g e l => absurd e (by omega)) (fun k e l => absurd e (by omega)) (fun k e l => absurd e (by omega))) (mtE _ (fun _ _ => ⟨fun q => absurd q (by decide), fun _ => ⟨fun _ => (by rw [h2]), fun q => absurd rfl q⟩⟩) (fun k e l => absurd e (by omega)) (fun k e l => absurd e (by omega)))
      · exact done cT (ct _ (fun _ => ⟨fun q => absurd q (by decide), fun _ => ⟨fun q => absurd q (by decide), fun _ => ⟨fun _ => ⟨tT.1, fun r q => by rw [tT.2] at q; exact q.symm⟩, fun q => absurd rfl q⟩⟩⟩) (fun g e l => absurd e (by omega)) (fun k e l => absurd e (by omega)) (fun k e l => absurd e (by omega))) (mtE _ (fun _ _ => ⟨fun q => absurd q (by decide), fun _ => ⟨fun q => absurd q (by decide), fun _ => ⟨fun _ => rfl, fun q => absurd rfl q⟩⟩⟩) (fun k e l => absurd e (by omega)) (fun k e l => absurd e (by omega)))
      · exact done cO (ct _ (fun _ => ⟨fun q => absurd q (by decide), fun _ => ⟨fun q => absurd q (by decide), fun _ => ⟨fun q => absurd q (by decide), fun _ => ⟨fun _ => ⟨tO.1, fun r q => by rw [tO.2] at q; exact q.symm⟩, fun q => absurd rfl q⟩⟩⟩⟩) (fun g e l => absurd e (by omega)) (fun k e l => absurd e (by omega)) (fun k e l => absurd e (by omega))) (mtE _ (fun _ _ => ⟨fun q => absurd q (by decide), fun _ => ⟨fun q => absurd q (by decide), fun _ => ⟨fun q => absurd q (by decide), fun _ => ⟨fun _ => ⟨mO.1, fun r q => by rw [mO.2] at q; rw [← q]⟩, fun q => absurd rfl q⟩⟩⟩⟩) (fun k e l => absurd e (by omega)) (fun k e l => absurd e (by omega)))
      · exact done qs (ct _ (fun _ => ⟨fun q => absurd q (by decide), fun _ => ⟨fun q => absurd q (by decide), fun _ => ⟨fun q => absurd q (by decide), fun _ => ⟨fun q => absurd q (by decide), fun _ => ⟨fun _ => rfl, fun q => absurd rfl q⟩⟩⟩⟩⟩) (fun g e l => absurd e (by omega)) (fun k e l => absurd e (by omega)) (fun k e l => absurd e (by omega))) (mtE _ (fun _ _ => ⟨fun q => absurd q (by decide), fun _ => ⟨fun q => absurd q (by decide), fun _ => ⟨fun q => absurd q (by decide), fun _ => ⟨fun q => absurd q (by decide), fun _ => ⟨fun _ => (by rw [h3]), fun q => absurd rfl q⟩⟩⟩⟩⟩) (fun k e l => absurd e (by omega)) (fun k e l => absurd e (by omega)))
      · exact done lo (ct _ (fun _ => ⟨fun q => absurd q (by decide), fun _ => ⟨fun q => absurd q (by decide), fun _ => ⟨fun q => absurd q (by decide), fun _ => ⟨fun q => absurd q (by decide), fun _ => ⟨fun q => absurd q (by decide), fun _ => ⟨fun _ => rfl, fun q => absurd rfl q⟩⟩⟩⟩⟩⟩) (fun g e l => absurd e (by omega)) (fun k e l => absurd e (by omega)) (fun k e l => absurd e (by omega))) (mtE _ (fun _ _ => ⟨fun q => absurd q (by decide), fun _ => ⟨fun q => absurd q (by decide), fun _ => ⟨fun q => absurd q (by decide), fun _ => ⟨fun q => absurd q (by decide), fun _ => ⟨fun q => absurd q (by decide), fun _ => ⟨fun _ => (by rw [h4]), fun q => absurd rfl q⟩⟩⟩⟩⟩⟩) (fun k e l => absurd e (by omega)) (fun k e l => absurd e (by omega)))
      · exact done dr (ct _ (fun _ => ⟨fun q => absurd q (by decide), fun _ => ⟨fun q => absurd q (by decide), fun _ => ⟨fun q => absurd q (by decide), fun _ => ⟨fun q => absurd q (by decide), fun _ => ⟨fun q => absurd q (by decide), fun _ => ⟨fun q => absurd q (by decide), fun _ => ⟨fun _ => rfl, fun q => absurd rfl q⟩⟩⟩⟩⟩⟩⟩) (fun g e l => absurd e (by omega)) (fun k e l => absurd e (by omega)) (fun k e l => absurd e (by omega))) (mtE _ (fun _ _ => ⟨fun q => absurd q (by decide), fun _ => ⟨fun q => absurd q (by decide), fun _ => ⟨fun q => absurd q (by decide), fun _ => ⟨fun q => absurd q (by decide), fun _ => ⟨fun q => absurd q (by decide), fun _ => ⟨fun q => absurd q (by decide), fun _ => ⟨fun _ => (by rw [h5]), fun q => absurd rfl q⟩⟩⟩⟩⟩⟩⟩) (fun k e l => absurd e (by omega)) (fun k e l => absurd e (by omega)))
      · exact done fi (ct _ (fun _ => ⟨fun q => absurd q (by decide), fun _ => ⟨fun q => absurd q (by decide), fun _ => ⟨fun q => absurd q (by decide), fun _ => ⟨fun q => absurd q (by decide), fun _ => ⟨fun q => absurd q (by decide), fun _ => ⟨fun q => absurd q (by decide), fun _ => ⟨fun q => absurd q (by decide), fun _ => ⟨fun _ => rfl, fun q => absurd rfl q⟩⟩⟩⟩⟩⟩⟩⟩) (fun g e l => absurd e (by omega)) (fun k e l => absurd e (by omega)) (fun k e l => absurd e (by omega))) (mtE _ (fun _ _ => ⟨fun q => absurd q (by decide), fun _ => ⟨fun q => absurd q (by decide), fun _ => ⟨fun q => absurd q (by decide), fun _ => ⟨fun q => absurd q (by decide), fun _ => ⟨fun q => absurd q (by decide), fun _ => ⟨fun q => absurd q (by decide), fun _ => ⟨fun q => absurd q (by decide), fun _ => ⟨fun _ => (by rw [h6]), fun q => absurd rfl q⟩⟩⟩⟩⟩⟩⟩⟩) (fun k e l => absurd e (by omega)) (fun k e l => absurd e (by omega)))
    · refine done (mks (j - 8)) (ct _ (fun q => absurd q (by omega)) (fun g e l => by rw [h7 g l]; congr 1; omega) (fun k e l => absurd e (by omega)) (fun k e l => absurd e (by omega))) (mtE _ (fun _ _ => ?_) (fun k e l => absurd e (by omega)) (fun k e l => absurd e (by omega)))
      have ne : ∀ i, i < 8 → ¬ nI j = nI i := fun i hi q => absurd ((nI_eq (by omega) (by omega)).mp q) (by omega)
      have i3 : vp_in (nI (j - 8)) 3 := pk_in (j - 8) 3 (by omega)
      rw [show nI j - 8 = nI (j - 8) from sub 8 (by omega), nI_clamp (by omega)]
      rcases (by omega : j = 8 ∨ j = 9 ∨ j = 10) with rfl | rfl | rfl
      · exact ⟨fun q => absurd q (by decide), fun _ => ⟨fun q => absurd q (by decide), fun _ => ⟨fun q => absurd q (by decide), fun _ => ⟨fun q => absurd q (by decide), fun _ => ⟨fun q => absurd q (by decide), fun _ => ⟨fun q => absurd q (by decide), fun _ => ⟨fun q => absurd q (by decide), fun _ => ⟨fun q => absurd q (by decide), fun _ => ⟨fun _ => ⟨i3, rfl⟩, fun q => absurd rfl q⟩⟩⟩⟩⟩⟩⟩⟩⟩
      · exact ⟨fun q => absurd q (by decide), fun _ => ⟨fun q => absurd q (by decide), fun _ => ⟨fun q => absurd q (by decide), fun _ => ⟨fun q => absurd q (by decide), fun _ => ⟨fun q => absurd q (by decide), fun _ => ⟨fun q => absurd q (by decide), fun _ => ⟨fun q => absurd q (by decide), fun _ => ⟨fun q => absurd q (by decide), fun _ => ⟨fun q => absurd q (by decide), fun _ => ⟨fun _ => ⟨i3, rfl⟩, fun q => absurd rfl q⟩⟩⟩⟩⟩⟩⟩⟩⟩⟩
      · exact ⟨fun q => absurd q (by decide), fun _ => ⟨fun q => absurd q (by decide), fun _ => ⟨fun q => absurd q (by decide), fun _ => ⟨fun q => absurd q (by decide), fun _ => ⟨fun q => absurd q (by decide), fun _ => ⟨fun q => absurd q (by decide), fun _ => ⟨fun q => absurd q (by decide), fun _ => ⟨fun q => absurd q (by decide), fun _ => ⟨fun q => absurd q (by decide), fun _ => ⟨fun q => absurd q (by decide), fun _ => ⟨fun _ => ⟨i3, rfl⟩, fun q => absurd rfl q⟩⟩⟩⟩⟩⟩⟩⟩⟩⟩⟩
    · exact none c
    · have e := hU (j - 20) (by omega)
      refine done (if mthere (j - 20) = 0 then -1 else mf (j - 20)) (ct _ (fun q => absurd q (by omega)) (fun g e l => absurd e (by omega)) (fun k e' l => ?_) (fun k e l => absurd e (by omega))) (mtE _ (fun q => absurd (by omega) q) (fun k e' l => ?_) (fun k e l => absurd e (by omega)))
      · have ek : k = j - 20 := by omega
        subst ek
        rw [e.1, e.2.2.1]
        exact ⟨fun q => by rw [if_pos q], fun q => by rw [if_neg q]⟩
      · have ek : k = j - 20 := by omega
        subst ek
        exact ⟨fun q => by rw [if_pos q], fun q => by rw [if_neg q]⟩
    · have e := hU (j - 30) (by omega)
      refine done (if mthere (j - 30) = 0 then -1 else mm (j - 30)) (ct _ (fun q => absurd q (by omega)) (fun g e l => absurd e (by omega)) (fun k e l => absurd e (by omega)) (fun k e' l => ?_)) (mtE _ (fun _ q => absurd (by omega) q) (fun k e l => absurd e (by omega)) (fun k e' l => ?_))
      · have ek : k = j - 30 := by omega
        subst ek
        rw [e.1, e.2.2.2.1]
        exact ⟨fun q => by rw [if_pos q], fun q => by rw [if_neg q]⟩
      · have ek : k = j - 30 := by omega
        subst ek
        exact ⟨fun q => by rw [if_pos q], fun q => by rw [if_neg q]⟩
theorem o_count : zO_count zI := by
  intro N t_place t_firings t_text_length t_text_at t_text_characters t_text_draft_length t_text_draft_actions t_text_draft_site t_text_draft_exit t_text_draft_conditional t_text_draft_there t_text_draft_on t_text_draft_failures t_text_draft_meetings t_text_draft_steps t_rules_e_length t_rules_e_actions t_rules_e_site t_rules_e_exit t_rules_e_conditional t_rules_e_there t_rules_e_on t_rules_e_failures t_rules_e_meetings t_rules_e_steps t_runner_time t_runner_dropped t_runner_thread t_runner_handedA t_runner_handedB t_runner_handedC t_runner_top t_runner_over t_runner_failed t_runner_met t_runner_stack t_runner_variables t_runner_gatherers_e_size t_runner_gatherers_e_keys t_runner_gatherers_e_least t_runner_gatherers_e_greatest t_runner_gatherers_e_sums t_runner_gatherers_e_values t_runner_gatherers_e_bins t_runner_records_oldest t_runner_records_size t_runner_records_lost t_runner_records_ring m_newSite m_newCondition m_newActions m_size m_place m_pos m_at m_operators m_recorded m_lost m_dropped m_firings m_time m_thread m_thrown m_failed m_text m_code m_site m_condition m_actions m_kind m_target m_first m_second m_failures m_met m_there m_on m_compared m_globals m_own m_records m_pile m_handed m_keys m_key m_count m_bins m_operator m_starts m_sum m_least m_greatest x1 hN hI 
  obtain ⟨i1, i2, i3, i4, i5, i6, i7⟩ := hI
  obtain ⟨n, ch, n1, n2, n3, n4⟩ := i3
  have hq := i7.2.2.2.2
  obtain ⟨qo, qz, q1, q2, q3, q4, q5, q6⟩ := hq
  obtain ⟨c1, c2, c3⟩ := c_core i4 i1 (n2.trans n3.symm) (q4.trans q5.symm) i7.2.1 i7.1 i2 (fun g hg => by obtain ⟨z, a1, a2, a3, _⟩ := i7.2.2.2.1 g hg; exact a2.trans a3.symm) m_thrown x1
  refine ⟨c1, c2, fun k b v0 h1 h2 => ?_⟩
  rw [c3] at h2
  cases h2
  exact ⟨h1.symm, i1, i2, ⟨n, ch, n1, n2, n3, n4⟩, i4, i5, rM_up i6, rX_mono (show 300 * N ≤ 300 * (N + 1) by omega) i7⟩
