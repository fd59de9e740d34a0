/-! type -/
def zsh : Nat → Int32
  | 0 => -8
  | k + 1 => nI (8 * k)
theorem zsh_s : ∀ k, k < 8 → nI (8 * k) + (-8) = zsh k := by decide +kernel
def zby (x : Int64) (k : Nat) : Nat := (s_Te_byteAt x (nI (8 * k))).toNatClampNeg
theorem zby_e (x : Int64) (k : Nat) : s_Te_byteAt x (nI (8 * k)) = nI (zby x k) ∧ zby x k < 256 := by
  have h : ∃ j : Nat, j < 2 ^ 8 ∧ s_Te_byteAt x (nI (8 * k)) = nI j := by
    unfold s_Te_byteAt
    exact pk_andE _ 8 rfl
  obtain ⟨j, h1, h2⟩ := h
  unfold zby
  rw [h2, nI_clamp (by omega)]
  exact ⟨rfl, by omega⟩
theorem zby_m (x : Int64) (k : Nat) : (((x.toUInt64 >>> ((nI (8 * k)).toInt64.toUInt64 &&& Int64.toUInt64 63)).toInt64).toInt32) &&& (255 : Int32) = nI (zby x k) := (zby_e x k).1
def zok (x : Int64) : Nat → Bool
  | 0 => true
  | k + 1 => (zby x k == 0 || (decide (33 ≤ zby x k) && decide (zby x k ≤ 126))) && zok x k
def zcn (x : Int64) : Nat → Nat
  | 0 => 0
  | k + 1 => (if zby x k = 0 then 0 else 1) + zcn x k
theorem zcn_le (x : Int64) : ∀ k, zcn x k ≤ k
  | 0 => Nat.le_refl _
  | k + 1 => by
    have := zcn_le x k
    unfold zcn
    split <;> omega
theorem t_hold (x : Int64) : ∀ k n, k ≤ 8 → WP_Te_mayHold_L3 (n + k + 1) x (zsh k) (fun a _ => a = if zok x k then 1 else 0)
  | 0, n, _ => ⟨fun _ => rfl, fun q => absurd (by decide) q⟩
  | k + 1, n, hk => by
    show WP_Te_mayHold_L3 (n + k + 1 + 1) x (nI (8 * k)) _
    refine ⟨fun q => absurd q (nI_pos (by omega)), fun _ r3 q => ?_⟩
    rw [(zby_e x k).1] at q
    subst q
    have hb := (zby_e x k).2
    have ih := t_hold x k n (by omega)
    rw [zsh_s k (by omega)]
    unfold zok
    refine pk_eq (zby x k) 0 (fun h => ?_) (fun h => pk_lt (zby x k) 33 (fun a => ?_) (fun a => pk_le (zby x k) 126 (fun b => ?_) (fun b => ?_)))
    · simp only [h, beq_self_eq_true, Bool.true_or, Bool.true_and]; exact ih
    · have : (zby x k == 0 || (decide (33 ≤ zby x k) && decide (zby x k ≤ 126))) = false := by simp; omega
      rw [this]; rfl
    · have : (zby x k == 0 || (decide (33 ≤ zby x k) && decide (zby x k ≤ 126))) = true := by simp; omega
      rw [this]; simp only [Bool.true_and]; exact ih
    · have : (zby x k == 0 || (decide (33 ≤ zby x k) && decide (zby x k ≤ 126))) = false := by simp; omega
      rw [this]; rfl
theorem t_room (x : Int64) {l : Nat} (hl : l ≤ 48) : ∀ k y n, y + k ≤ 8 → WP_Te_hasRoomFor_L6 (n + k + 1) x (nI y) (zsh k) (nI l) (fun a _ => a = if l + (y + zcn x k) ≤ 48 then 1 else 0)
  | 0, y, n, hy => by
    refine ⟨fun _ => ?_, fun q => absurd (by decide) q⟩
    rw [nI_add]
    refine pk_lt 48 (l + y) (fun h => ?_) (fun h => ?_)
    · rw [if_neg (by show ¬ l + (y + 0) ≤ 48; omega)]
    · rw [if_pos (by show l + (y + 0) ≤ 48; omega)]
  | k + 1, y, n, hy => by
    show WP_Te_hasRoomFor_L6 (n + k + 1 + 1) x (nI y) (nI (8 * k)) (nI l) _
    refine ⟨fun q => absurd q (nI_pos (by omega)), fun _ r3 q => ?_⟩
    rw [(zby_e x k).1] at q
    subst q
    have hb := (zby_e x k).2
    rw [zsh_s k (by omega), Int32.add_zero, nI_1]
    unfold zcn
    refine pk_eq (zby x k) 0 (fun h => ?_) (fun h => ?_)
    · rw [if_pos h, Nat.zero_add]
      exact t_room x hl k y n (by omega)
    · rw [if_neg h, show y + (1 + zcn x k) = y + 1 + zcn x k by omega]
      exact t_room x hl k (y + 1) n (by omega)
theorem t_scan (x : Int64) {sz mt : Int32} {tx : Nat → Int32} {Q : Int32 → (Int32 × Int32 × (Nat → Int32)) → Prop} : ∀ k y (f : Bool) n, y + k ≤ 8 → WP_Mo_type_L9 (n + 1) x (nI (y + zcn x k)) (if zok x k && f then 1 else 0) (-8) sz mt tx Q → WP_Mo_type_L9 (n + k + 1) x (nI y) (if f then 1 else 0) (zsh k) sz mt tx Q
  | 0, y, f, n, hy, K => by
    simp only [zok, Bool.true_and, zcn, Nat.add_zero] at K
    exact K
  | k + 1, y, f, n, hy, K => by
    show WP_Mo_type_L9 (n + k + 1 + 1) x (nI y) _ (nI (8 * k)) sz mt tx Q
    refine ⟨fun q => absurd q (nI_pos (by omega)), fun _ => ?_⟩
    rw [zby_m x k, zsh_s k (by omega), nI_1]
    have hb := (zby_e x k).2
    unfold zcn zok at K
    refine pk_eq (zby x k) 0 (fun h => ?_) (fun h => ?_)
    · rw [if_pos h, Nat.zero_add] at K
      simp only [h, beq_self_eq_true, Bool.true_or, Bool.true_and] at K
      exact t_scan x k y f n (by omega) K
    · intro r15 q
      rw [show s_Mo_in (nI (zby x k)) 33 126 = if 33 ≤ zby x k ∧ zby x k ≤ 126 then 1 else 0 from f_in (a := 33) (b := 126) (by omega) (by omega) (by omega)] at q
      rw [if_neg h, show y + (1 + zcn x k) = y + 1 + zcn x k by omega] at K
      by_cases c : 33 ≤ zby x k ∧ zby x k ≤ 126
      · have e : (zby x k == 0 || (decide (33 ≤ zby x k) && decide (zby x k ≤ 126))) = true := by simp; omega
        rw [e, Bool.true_and] at K
        rw [if_pos c] at q
        subst q
        exact ⟨fun _ => t_scan x k (y + 1) f n (by omega) K, fun q => absurd q (by decide)⟩
      · have e : (zby x k == 0 || (decide (33 ≤ zby x k) && decide (zby x k ≤ 126))) = false := by simp; omega
        rw [e, Bool.false_and, Bool.false_and] at K
        rw [if_neg c] at q
        subst q
        refine ⟨fun q => absurd rfl q, fun _ => ?_⟩
        exact t_scan x k (y + 1) false n (by omega) (by rw [Bool.and_false]; exact K)
theorem t_add (x : Int64) {mt : Int32} : ∀ k m (tc tx : Nat → Int32) (ch : Nat → Nat), k ≤ 8 → zok x k = true → m + zcn x k ≤ 48 → (∀ i, i < m → 33 ≤ ch i ∧ ch i ≤ 126 ∧ tc i = nI (ch i) ∧ tx i = nI (ch i)) →
    ∃ (tc' tx' : Nat → Int32) (ch' : Nat → Nat), (∀ i, i < m + zcn x k → 33 ≤ ch' i ∧ ch' i ≤ 126 ∧ tc' i = nI (ch' i) ∧ tx' i = nI (ch' i)) ∧ (∀ (Q : (Int32 × (Nat → Int32)) → Prop) n, Q (nI (m + zcn x k), tc') → WP_Te_add_L3 (n + k + 1) x (zsh k) (nI m) tc Q) ∧ ∀ (Q : Int32 → (Int32 × Int32 × (Nat → Int32)) → Prop) n y3 y4, Q (nI (m + zcn x k)) (nI (m + zcn x k), mt, tx') → WP_Mo_type_L92 (n + k + 1) x y3 y4 (zsh k) (nI m) mt tx Q
  | 0, m, tc, tx, ch, _, _, _, h => ⟨tc, tx, ch, h, fun Q n K => ⟨fun _ => K, fun q => absurd (by decide) q⟩, fun Q n y3 y4 K => ⟨fun _ => K, fun q => absurd (by decide) q⟩⟩
  | k + 1, m, tc, tx, ch, hk, hok, hm, h => by
    have hb := (zby_e x k).2
    unfold zok at hok
    unfold zcn at hm ⊢
    by_cases c : zby x k = 0
    · rw [if_pos c, Nat.zero_add] at hm ⊢
      obtain ⟨tc', tx', ch', a1, a2, a3⟩ := t_add x (mt := mt) k m tc tx ch (by omega) (by simp only [c, beq_self_eq_true, Bool.true_or, Bool.true_and] at hok; exact hok) hm h
      refine ⟨tc', tx', ch', a1, fun Q n K => ?_, fun Q n y3 y4 K => ?_⟩
      · show WP_Te_add_L3 (n + k + 1 + 1) x (nI (8 * k)) (nI m) tc Q
        refine ⟨fun q => absurd q (nI_pos (by omega)), fun _ r3 q => ?_⟩
        rw [(zby_e x k).1] at q
        subst q
        rw [zsh_s k (by omega), c]
        exact ⟨fun _ => a2 Q n K, fun q => absurd rfl q⟩
      · show WP_Mo_type_L92 (n + k + 1 + 1) x y3 y4 (nI (8 * k)) (nI m) mt tx Q
        refine ⟨fun q => absurd q (nI_pos (by omega)), fun _ => ?_⟩
        rw [zby_m x k, zsh_s k (by omega), c]
        exact ⟨fun q => absurd rfl q, fun _ => a3 Q n y3 y4 K⟩
    · rw [if_neg c, show m + (1 + zcn x k) = m + 1 + zcn x k by omega] at hm ⊢
      have hr : 33 ≤ zby x k ∧ zby x k ≤ 126 := by
        have := (Bool.and_eq_true _ _ ▸ hok : _ ∧ _).1
        simp at this
        omega
      have hn : vp_nar .char (((nI (zby x k)).toUInt32 % 65536).toInt32) = nI (zby x k) := by
        rw [pk_vc, pk_char, pk_tn (by omega), Nat.mod_eq_of_lt (by omega)]
      obtain ⟨tc', tx', ch', a1, a2, a3⟩ := t_add x (mt := mt) k (m + 1) (upd tc m (nI (zby x k))) (upd tx m (nI (zby x k))) (fun i => if i = m then zby x k else ch i) (by omega) (Bool.and_eq_true _ _ ▸ hok : _ ∧ _).2 hm (fun i hi => by
        simp only [upd]
        by_cases e : i = m
        · simp only [if_pos e]; exact ⟨hr.1, hr.2, trivial, trivial⟩
        · simp only [if_neg e]; exact h i (by omega))
      refine ⟨tc', tx', ch', a1, fun Q n K => ?_, fun Q n y3 y4 K => ?_⟩
      · show WP_Te_add_L3 (n + k + 1 + 1) x (nI (8 * k)) (nI m) tc Q
        refine ⟨fun q => absurd q (nI_pos (by omega)), fun _ r3 q => ?_⟩
        rw [(zby_e x k).1] at q
        subst q
        rw [zsh_s k (by omega)]
        refine ⟨fun q => absurd ((nI_eq (a := zby x k) (b := 0) (by omega) (by omega)).mp q) c, fun _ => pk_le 48 m (fun q => absurd q (by omega)) (fun _ => ⟨pk_in m 48 (by omega), ?_⟩)⟩
        rw [hn, nI_1, nI_clamp (by omega)]
        exact a2 Q n K
      · show WP_Mo_type_L92 (n + k + 1 + 1) x y3 y4 (nI (8 * k)) (nI m) mt tx Q
        refine ⟨fun q => absurd q (nI_pos (by omega)), fun _ => ?_⟩
        rw [zby_m x k, zsh_s k (by omega), nI_1, nI_clamp (by omega)]
        exact ⟨fun _ => ⟨pk_in m 48 (by omega), a3 Q n y3 y4 K⟩, fun q => absurd ((nI_eq (a := zby x k) (b := 0) (by omega) (by omega)).mp q) c⟩
theorem ty_core {tl sz : Int32} {tc tx : Nat → Int32} (h : rT tl tc sz tx) (mt : Int32) (x : Int64) :
    p_Tr_type tl tc x ∧ p_Mo_type sz mt tx x ∧ ∃ (tl' : Int32) (tc' tx' : Nat → Int32), rT tl' tc' tl' tx' ∧ ((s_Tr_type tl tc x = Sum.inl (tl', tl', tc') ∧ s_Mo_type sz mt tx x = (tl', tl', 0, tx')) ∨ (s_Tr_type tl tc x = Sum.inr (n_ISE, tl', tc') ∧ ∃ r, s_Mo_type sz mt tx x = (r, tl', 2, tx')) ∨ (s_Tr_type tl tc x = Sum.inr (n_IAE, tl', tc') ∧ ∃ r, s_Mo_type sz mt tx x = (r, tl', 1, tx'))) := by
  obtain ⟨n, ch, hn, rfl, rfl, hch⟩ := h
  have H := e_Te_mayHold x (t_hold x 8 591 (by omega))
  have R := e_Te_hasRoomFor (nI n) x (t_room x hn 8 0 591 (by omega))
  have c8 := zcn_le x 8
  have bad0 : s_Mo_bad mt 0 = (1, 1) := rfl
  have bad1 : s_Mo_bad mt 1 = (0, 0) := rfl
  have scan := fun (Q : Int32 → (Int32 × Int32 × (Nat → Int32)) → Prop) => t_scan x (sz := nI n) (mt := mt) (tx := tx) (Q := Q) 8 0 true 591 (by omega)
  rw [Nat.zero_add] at R
  simp only [Nat.zero_add, Bool.and_true, if_true] at scan
  by_cases ok : zok x 8 = true
  · rw [if_pos ok] at H
    simp only [if_pos ok] at scan
    by_cases rm : n + zcn x 8 ≤ 48
    · rw [if_pos rm] at R
      obtain ⟨tc', tx', ch', a1, a2, a3⟩ := t_add x (mt := 0) 8 n tc tx ch (by omega) ok rm hch
      have A := e_Te_add (nI n) tc x (Q := fun r => r = (nI (n + zcn x 8), tc')) (a2 _ 591 rfl)
      have C := e_Tr_type (nI n) tc x (Q := fun a b => (a, b) = (nI (n + zcn x 8), nI (n + zcn x 8), tc')) (X := fun _ _ => False) (by
        refine ⟨H.1, fun r1 q => ?_⟩
        rw [H.2] at q
        subst q
        refine ⟨fun _ => ⟨R.1, fun r7 q => ?_⟩, fun q => absurd q (by decide)⟩
        rw [R.2] at q
        subst q
        refine ⟨fun _ => ⟨A.1, fun m1 m2 q => ?_⟩, fun q => absurd q (by decide)⟩
        rw [A.2] at q
        cases q
        rfl)
      have M := e_Mo_type (nI n) mt tx x (Q := fun a b => (a, b) = (nI (n + zcn x 8), nI (n + zcn x 8), 0, tx')) (by
        refine scan _ ⟨fun _ r3 u4 q => ?_, fun q => absurd (by decide) q⟩
        rw [bad1] at q
        cases q
        refine ⟨fun _ => ?_, fun q => absurd rfl q⟩
        rw [nI_add]
        exact pk_le (n + zcn x 8) 48 (fun _ => a3 _ 591 _ _ rfl) (fun q => absurd q (by omega)))
      refine ⟨C.1, M.1, _, tc', tx', ⟨_, ch', rm, rfl, rfl, a1⟩, Or.inl ⟨?_, M.2⟩⟩
      cases h : s_Tr_type (nI n) tc x with
      | inl r => have := C.2; rw [h] at this; rw [show r = (nI (n + zcn x 8), nI (n + zcn x 8), tc') from this]
      | inr E => have := C.2; rw [h] at this; exact this.elim
    · rw [if_neg rm] at R
      have C := e_Tr_type (nI n) tc x (Q := fun a b => False) (X := fun E m => (E, m) = (n_ISE, nI n, tc)) (by
        refine ⟨H.1, fun r1 q => ?_⟩
        rw [H.2] at q
        subst q
        refine ⟨fun _ => ⟨R.1, fun r7 q => ?_⟩, fun q => absurd q (by decide)⟩
        rw [R.2] at q
        subst q
        exact ⟨fun q => absurd rfl q, fun _ => rfl⟩)
      have M := e_Mo_type (nI n) mt tx x (Q := fun a b => (a, b) = (0, nI n, 2, tx)) (by
        refine scan _ ⟨fun _ r3 u4 q => ?_, fun q => absurd (by decide) q⟩
        rw [bad1] at q
        cases q
        refine ⟨fun _ => ?_, fun q => absurd rfl q⟩
        rw [nI_add]
        exact pk_le (n + zcn x 8) 48 (fun q => absurd q (by omega)) (fun _ => rfl))
      refine ⟨C.1, M.1, _, tc, tx, ⟨n, ch, hn, rfl, rfl, hch⟩, Or.inr (Or.inl ⟨?_, 0, M.2⟩)⟩
      cases h : s_Tr_type (nI n) tc x with
      | inl r => have := C.2; rw [h] at this; exact this.elim
      | inr E => have := C.2; rw [h] at this; rw [show E = (n_ISE, nI n, tc) from this]
  · rw [if_neg ok] at H
    simp only [if_neg ok] at scan
    have C := e_Tr_type (nI n) tc x (Q := fun a b => False) (X := fun E m => (E, m) = (n_IAE, nI n, tc)) (by
      refine ⟨H.1, fun r1 q => ?_⟩
      rw [H.2] at q
      subst q
      exact ⟨fun q => absurd rfl q, fun _ => rfl⟩)
    have M := e_Mo_type (nI n) mt tx x (Q := fun a b => (a, b) = (0, nI n, 1, tx)) (by
      refine scan _ ⟨fun _ r3 u4 q => ?_, fun q => absurd (by decide) q⟩
      rw [bad0] at q
      cases q
      exact ⟨fun q => absurd q (by decide), fun _ => rfl⟩)
    refine ⟨C.1, M.1, _, tc, tx, ⟨n, ch, hn, rfl, rfl, hch⟩, Or.inr (Or.inr ⟨?_, 0, M.2⟩)⟩
    cases h : s_Tr_type (nI n) tc x with
    | inl r => have := C.2; rw [h] at this; exact this.elim
    | inr E => have := C.2; rw [h] at this; rw [show E = (n_IAE, nI n, tc) from this]
theorem ne_ISE : ¬ n_IAE = n_ISE := by decide
theorem o_type : zO_type zI := by
  intro N t_place t_firings t_text_length t_text_at t_text_characters t_text_draft_length t_text_draft_actions t_text_draft_site t_text_draft_exit t_text_draft_conditional t_text_draft_there t_text_draft_on t_text_draft_failures t_text_draft_meetings t_text_draft_steps t_rules_e_length t_rules_e_actions t_rules_e_site t_rules_e_exit t_rules_e_conditional t_rules_e_there t_rules_e_on t_rules_e_failures t_rules_e_meetings t_rules_e_steps t_runner_time t_runner_dropped t_runner_thread t_runner_handedA t_runner_handedB t_runner_handedC t_runner_top t_runner_over t_runner_failed t_runner_met t_runner_stack t_runner_variables t_runner_gatherers_e_size t_runner_gatherers_e_keys t_runner_gatherers_e_least t_runner_gatherers_e_greatest t_runner_gatherers_e_sums t_runner_gatherers_e_values t_runner_gatherers_e_bins t_runner_records_oldest t_runner_records_size t_runner_records_lost t_runner_records_ring m_newSite m_newCondition m_newActions m_size m_place m_pos m_at m_operators m_recorded m_lost m_dropped m_firings m_time m_thread m_thrown m_failed m_text m_code m_site m_condition m_actions m_kind m_target m_first m_second m_failures m_met m_there m_on m_compared m_globals m_own m_records m_pile m_handed m_keys m_key m_count m_bins m_operator m_starts m_sum m_least m_greatest x1 o hN hI 
  obtain ⟨i1, i2, i3, i4, i5, i6, i7⟩ := hI
  obtain ⟨q1, q2, tl', tc', tx', q3, q4⟩ := ty_core i3 m_thrown x1
  refine ⟨q1, q2, fun k u0 u1 o' b v0 v1 v2 h1 h2 => ?_⟩
  have i7' := rX_mono (show 300 * N ≤ 300 * (N + 1) by omega) i7
  unfold s_La_type at h1
  rcases q4 with ⟨e1, e2⟩ | ⟨e1, r, e2⟩ | ⟨e1, r, e2⟩
  · rw [e1] at h1
    rw [e2] at h2
    cases h1
    cases h2
    exact ⟨rfl, fun _ => rfl, i1, i2, q3, i4, i5, rM_up i6, i7'⟩
  · rw [e1] at h1
    rw [e2] at h2
    simp only [if_true] at h1
    cases h1
    cases h2
    exact ⟨rfl, fun q => absurd q (by decide), i1, i2, q3, i4, i5, rM_up i6, i7'⟩
  · rw [e1] at h1
    rw [e2] at h2
    simp only [if_neg ne_ISE] at h1
    cases h1
    cases h2
    exact ⟨rfl, fun q => absurd q (by decide), i1, i2, q3, i4, i5, rM_up i6, i7'⟩
