/-! gathered and many -/
theorem ne_IAE : ¬ n_NSE = n_IAE := by decide
theorem z64_mean {x : UInt64} (hx : zg x) {c : Nat} (h1 : 1 ≤ c) (h2 : c < 2 ^ 31) : vf_n64 (FP.ddiv x (FP.i2d (nI c))) := by
  refine z64_div hx (FP.Core.i2d_fin _) (fun q => ?_)
  have := FP.Core.zero_iff.mp ((zcv_l0 _).mp q)
  exact FP.Core.i2d_ne_zero (v := nI c) (nI_ne0 (by omega) h2) ((FP.Core.zero_bits2 _).mp this)
theorem fig_eq {vs : Nat → Int32} {su gr le : Nat → UInt64} {r w c : Nat} (hr : r < 4) (hw : w < 4) (hc : vs r = nI c) (h1 : 1 ≤ c) (h2 : c < 2 ^ 31) (hs : zg (su r)) : p_Ga_figure vs su gr le (nI r) (nI w) ∧ s_Ga_figure vs su gr le (nI r) (nI w) = (if w = 0 then su r else if w = 1 then le r else if w = 2 then gr r else FP.ddiv (su r) (FP.i2d (nI c))) := by
  refine e_Ga_figure vs su gr le (nI r) (nI w) (Q := fun a _ => a = (if w = 0 then su r else if w = 1 then le r else if w = 2 then gr r else FP.ddiv (su r) (FP.i2d (nI c)))) ?_
  have i4 : vp_in (nI r) 4 := pk_in r 4 hr
  unfold WP_Ga_figure
  rw [nI_clamp (by omega), hc]
  rcases (by omega : w = 0 ∨ w = 1 ∨ w = 2 ∨ w = 3) with rfl | rfl | rfl | rfl
  · exact ⟨fun _ => ⟨i4, rfl⟩, fun q => absurd rfl q⟩
  · exact ⟨fun q => absurd q (by decide), fun _ => ⟨fun _ => ⟨i4, rfl⟩, fun q => absurd rfl q⟩⟩
  · exact ⟨fun q => absurd q (by decide), fun _ => ⟨fun q => absurd q (by decide), fun _ => ⟨fun _ => ⟨i4, rfl⟩, fun q => absurd rfl q⟩⟩⟩
  · exact ⟨fun q => absurd q (by decide), fun _ => ⟨fun q => absurd q (by decide), fun _ => ⟨fun q => absurd q (by decide), fun _ => ⟨i4, fun _ => ⟨i4, i4, z64_mean hs h1 h2, rfl⟩, fun q => absurd q (nI_ne0 (by omega) h2)⟩⟩⟩⟩
section ZGM
variable {B : Nat} {sz : Nat → Int32} {ks vs bs : Nat → Nat → Int32} {le gr su : Nat → Nat → UInt64} {mks mk mc mb : Nat → Int32} {ms ml mg : Nat → UInt64}
theorem g_core (hG : rG B sz ks le gr su vs bs mks mk mc mb ms ml mg) (hB : B < 2 ^ 30) (mt x1 x2 x3 : Int32) :
    p_Tr_gathered sz ks vs su gr le x1 x2 x3 ∧ p_Mo_gathered mt mks mk ms ml mg mc x1 x2 x3 ∧ ((∃ r, s_Tr_gathered sz ks vs su gr le x1 x2 x3 = Sum.inl r ∧ s_Mo_gathered mt mks mk ms ml mg mc x1 x2 x3 = (r, 0)) ∨ (s_Tr_gathered sz ks vs su gr le x1 x2 x3 = Sum.inr n_NSE ∧ ∃ r, s_Mo_gathered mt mks mk ms ml mg mc x1 x2 x3 = (r, 2)) ∨ (s_Tr_gathered sz ks vs su gr le x1 x2 x3 = Sum.inr n_IAE ∧ ∃ r, s_Mo_gathered mt mks mk ms ml mg mc x1 x2 x3 = (r, 1))) := by
  have bad0 : s_Mo_bad mt 0 = (1, 1) := rfl
  have bad1 : s_Mo_bad mt 1 = (0, 0) := rfl
  have bads : ∀ (A : WP_Tr_gathered sz ks vs su gr le x1 x2 x3 (fun _ _ => False) (fun E _ => E = n_IAE)) (M : WP_Mo_gathered mt mks mk ms ml mg mc x1 x2 x3 (fun a b => b = 1)), p_Tr_gathered sz ks vs su gr le x1 x2 x3 ∧ p_Mo_gathered mt mks mk ms ml mg mc x1 x2 x3 ∧ ((∃ r, s_Tr_gathered sz ks vs su gr le x1 x2 x3 = Sum.inl r ∧ s_Mo_gathered mt mks mk ms ml mg mc x1 x2 x3 = (r, 0)) ∨ (s_Tr_gathered sz ks vs su gr le x1 x2 x3 = Sum.inr n_NSE ∧ ∃ r, s_Mo_gathered mt mks mk ms ml mg mc x1 x2 x3 = (r, 2)) ∨ (s_Tr_gathered sz ks vs su gr le x1 x2 x3 = Sum.inr n_IAE ∧ ∃ r, s_Mo_gathered mt mks mk ms ml mg mc x1 x2 x3 = (r, 1))) := by
    intro A M
    have A := e_Tr_gathered sz ks vs su gr le x1 x2 x3 A
    have M := e_Mo_gathered mt mks mk ms ml mg mc x1 x2 x3 M
    refine ⟨A.1, M.1, Or.inr (Or.inr ⟨?_, ?_⟩)⟩
    · cases h : s_Tr_gathered sz ks vs su gr le x1 x2 x3 with
      | inl r => have := A.2; rw [h] at this; exact this.elim
      | inr E => have := A.2; rw [h] at this; rw [show E = n_IAE from this]
    · have := M.2
      generalize s_Mo_gathered mt mks mk ms ml mg mc x1 x2 x3 = y at this
      obtain ⟨y1, y2⟩ := y
      simp only at this
      exact ⟨y1, by rw [this]⟩
  rcases wi x1 (n := 3) (by omega) (by omega) with ⟨⟨g, hg, rfl⟩, w1, w2⟩ | ⟨w1, w2⟩
  · rcases wi x3 (n := 4) (by omega) (by omega) with ⟨⟨w, hw, rfl⟩, w3, w4⟩ | ⟨w3, w4⟩
    · obtain ⟨z, a1, a2, a3, a4, a5⟩ := hG g hg
      have i3 : vp_in (nI g) 3 := pk_in g 3 hg
      rcases zfs_or (ks g) x2 z with ⟨r, hr⟩ | hm
      · have hr1 := hr.1
        obtain ⟨c1, c2, c3, c4, ⟨c, d1, d2, d3, d4⟩, c6, c7⟩ := a4 r hr1
        have hr' : zfs (fun i => mk (4 * g + i)) z x2 r := ⟨hr1, by show mk (4 * g + r) = _; rw [← c1]; exact hr.2.1, fun i hi => by show ¬ mk (4 * g + i) = _; rw [← (a4 i (by omega)).1]; exact hr.2.2 i hi⟩
        have R := row_hit a1 hr
        have F := find_hit hg a1 a3 hr'
        have G := fig_eq (vs := vs g) (su := su g) (gr := gr g) (le := le g) (by omega : r < 4) hw d3 d1 (by omega) c6
        generalize hfig : (if w = 0 then su g r else if w = 1 then le g r else if w = 2 then gr g r else FP.ddiv (su g r) (FP.i2d (nI c))) = fig at G
        have A := e_Tr_gathered sz ks vs su gr le (nI g) x2 (nI w) (Q := fun a _ => a = fig) (X := fun _ _ => False) (by
          intro r1 q
          rw [show s_Tr_isWithin (nI g) 3 = 1 from w1] at q
          subst q
          refine ⟨fun q => absurd q (by decide), fun _ r7 q => ?_⟩
          rw [show s_Tr_isWithin (nI w) 4 = 1 from w3] at q
          subst q
          refine ⟨fun _ => ⟨i3, fun j e l => ?_⟩, fun q => absurd q (by decide)⟩
          have ej : g = j := (nI_eq (by omega) (by omega)).mp e
          subst ej
          rw [a2]
          refine ⟨R.1, fun r48 q => ?_⟩
          rw [R.2] at q
          subst q
          refine pk_le 0 r (fun _ => ⟨G.1, fun r54 q => ?_⟩) (fun q => absurd q (by omega))
          rw [G.2] at q
          exact q.symm)
        have M := e_Mo_gathered mt mks mk ms ml mg mc (nI g) x2 (nI w) (Q := fun a b => (a, b) = (fig, 0)) (by
          intro r1 q
          rw [show s_Mo_in (nI g) 0 2 = 1 from w2] at q
          subst q
          refine ⟨fun q => absurd q (by decide), fun _ r35 q => ?_⟩
          rw [show s_Mo_in (nI w) 0 3 = 1 from w4] at q
          subst q
          refine ⟨fun q => absurd q (by decide), fun _ r69 u70 q => ?_⟩
          rw [bad1] at q
          cases q
          refine ⟨fun _ => ⟨F.1, fun r75 q => ?_⟩, fun q => absurd rfl q⟩
          rw [F.2] at q
          subst q
          have i12 : vp_in (nI (4 * g + r)) 12 := pk_in (4 * g + r) 12 (by omega)
          rw [nI_clamp (by omega)]
          rw [c2, c3, c4] at hfig
          rw [c2] at c6
          rw [d4]
          refine pk_le 0 (4 * g + r) (fun _ => ?_) (fun q => absurd q (by omega))
          rcases (by omega : w = 0 ∨ w = 1 ∨ w = 2 ∨ w = 3) with rfl | rfl | rfl | rfl
          · exact ⟨fun q => absurd rfl q, fun _ => ⟨i12, by rw [← hfig]; rfl⟩⟩
          · exact ⟨fun _ => ⟨fun q => absurd rfl q, fun _ => ⟨i12, by rw [← hfig]; rfl⟩⟩, fun q => absurd q (by decide)⟩
          · exact ⟨fun _ => ⟨fun _ => ⟨fun q => absurd rfl q, fun _ => ⟨i12, by rw [← hfig]; rfl⟩⟩, fun q => absurd q (by decide)⟩, fun q => absurd q (by decide)⟩
          · exact ⟨fun _ => ⟨fun _ => ⟨fun _ => ⟨i12, i12, z64_mean c6 d1 (by omega), by rw [← hfig]; rfl⟩, fun q => absurd q (by decide)⟩, fun q => absurd q (by decide)⟩, fun q => absurd q (by decide)⟩)
        refine ⟨A.1, M.1, Or.inl ⟨fig, ?_, M.2⟩⟩
        cases h : s_Tr_gathered sz ks vs su gr le (nI g) x2 (nI w) with
        | inl r => have := A.2; rw [h] at this; rw [show r = fig from this]
        | inr E => have := A.2; rw [h] at this; exact this.elim
      · have hm' : ∀ i, i < z → ¬ mk (4 * g + i) = x2 := fun i hi => by rw [← (a4 i hi).1]; exact hm i hi
        have R := row_miss a1 hm
        have F := find_miss hg a1 a3 hm'
        have A := e_Tr_gathered sz ks vs su gr le (nI g) x2 (nI w) (Q := fun _ _ => False) (X := fun E _ => E = n_NSE) (by
          intro r1 q
          rw [show s_Tr_isWithin (nI g) 3 = 1 from w1] at q
          subst q
          refine ⟨fun q => absurd q (by decide), fun _ r7 q => ?_⟩
          rw [show s_Tr_isWithin (nI w) 4 = 1 from w3] at q
          subst q
          refine ⟨fun _ => ⟨i3, fun j e l => ?_⟩, fun q => absurd q (by decide)⟩
          have ej : g = j := (nI_eq (by omega) (by omega)).mp e
          subst ej
          rw [a2]
          refine ⟨R.1, fun r48 q => ?_⟩
          rw [R.2] at q
          subst q
          exact ⟨fun q => absurd q (by decide), fun _ => rfl⟩)
        have M := e_Mo_gathered mt mks mk ms ml mg mc (nI g) x2 (nI w) (Q := fun a b => b = 2) (by
          intro r1 q
          rw [show s_Mo_in (nI g) 0 2 = 1 from w2] at q
          subst q
          refine ⟨fun q => absurd q (by decide), fun _ r35 q => ?_⟩
          rw [show s_Mo_in (nI w) 0 3 = 1 from w4] at q
          subst q
          refine ⟨fun q => absurd q (by decide), fun _ r69 u70 q => ?_⟩
          rw [bad1] at q
          cases q
          refine ⟨fun _ => ⟨F.1, fun r75 q => ?_⟩, fun q => absurd rfl q⟩
          rw [F.2] at q
          subst q
          refine ⟨fun q => absurd q (by decide), fun _ r93 u94 q => ?_⟩
          simp only [s_Mo_fail] at q
          cases q
          rfl)
        refine ⟨A.1, M.1, Or.inr (Or.inl ⟨?_, ?_⟩)⟩
        · cases h : s_Tr_gathered sz ks vs su gr le (nI g) x2 (nI w) with
          | inl r => have := A.2; rw [h] at this; exact this.elim
          | inr E => have := A.2; rw [h] at this; rw [show E = n_NSE from this]
        · have := M.2
          generalize s_Mo_gathered mt mks mk ms ml mg mc (nI g) x2 (nI w) = y at this
          obtain ⟨y1, y2⟩ := y
          simp only at this
          exact ⟨y1, by rw [this]⟩
    · refine bads ?_ ?_
      · intro r1 q
        rw [show s_Tr_isWithin (nI g) 3 = 1 from w1] at q
        subst q
        refine ⟨fun q => absurd q (by decide), fun _ r7 q => ?_⟩
        rw [show s_Tr_isWithin x3 4 = 0 from w3] at q
        subst q
        exact ⟨fun q => absurd rfl q, fun _ => rfl⟩
      · intro r1 q
        rw [show s_Mo_in (nI g) 0 2 = 1 from w2] at q
        subst q
        refine ⟨fun q => absurd q (by decide), fun _ r35 q => ?_⟩
        rw [show s_Mo_in x3 0 3 = 0 from w4] at q
        subst q
        refine ⟨fun _ r41 u42 q => ?_, fun q => absurd rfl q⟩
        rw [bad0] at q
        cases q
        exact ⟨fun q => absurd q (by decide), fun _ => rfl⟩
  · refine bads ?_ ?_
    · intro r1 q
      rw [show s_Tr_isWithin x1 3 = 0 from w1] at q
      subst q
      exact ⟨fun _ => rfl, fun q => absurd rfl q⟩
    · intro r1 q
      rw [show s_Mo_in x1 0 2 = 0 from w2] at q
      subst q
      refine ⟨fun _ r7 u8 q => ?_, fun q => absurd rfl q⟩
      rw [bad0] at q
      cases q
      exact ⟨fun q => absurd q (by decide), fun _ => rfl⟩
theorem m_core (hG : rG B sz ks le gr su vs bs mks mk mc mb ms ml mg) (hB : B < 2 ^ 30) (mt x1 x2 x3 : Int32) :
    p_Tr_many sz ks vs bs x1 x2 x3 ∧ p_Mo_many mt mks mk mb mc x1 x2 x3 ∧ ((∃ r, s_Tr_many sz ks vs bs x1 x2 x3 = Sum.inl r ∧ s_Mo_many mt mks mk mb mc x1 x2 x3 = (r, 0)) ∨ (s_Tr_many sz ks vs bs x1 x2 x3 = Sum.inr n_NSE ∧ ∃ r, s_Mo_many mt mks mk mb mc x1 x2 x3 = (r, 2)) ∨ (s_Tr_many sz ks vs bs x1 x2 x3 = Sum.inr n_IAE ∧ ∃ r, s_Mo_many mt mks mk mb mc x1 x2 x3 = (r, 1))) := by
  have bad0 : s_Mo_bad mt 0 = (1, 1) := rfl
  have bad1 : s_Mo_bad mt 1 = (0, 0) := rfl
  have bads : ∀ (A : WP_Tr_many sz ks vs bs x1 x2 x3 (fun _ _ => False) (fun E _ => E = n_IAE)) (M : WP_Mo_many mt mks mk mb mc x1 x2 x3 (fun a b => b = 1)), p_Tr_many sz ks vs bs x1 x2 x3 ∧ p_Mo_many mt mks mk mb mc x1 x2 x3 ∧ ((∃ r, s_Tr_many sz ks vs bs x1 x2 x3 = Sum.inl r ∧ s_Mo_many mt mks mk mb mc x1 x2 x3 = (r, 0)) ∨ (s_Tr_many sz ks vs bs x1 x2 x3 = Sum.inr n_NSE ∧ ∃ r, s_Mo_many mt mks mk mb mc x1 x2 x3 = (r, 2)) ∨ (s_Tr_many sz ks vs bs x1 x2 x3 = Sum.inr n_IAE ∧ ∃ r, s_Mo_many mt mks mk mb mc x1 x2 x3 = (r, 1))) := by
    intro A M
    have A := e_Tr_many sz ks vs bs x1 x2 x3 A
    have M := e_Mo_many mt mks mk mb mc x1 x2 x3 M
    refine ⟨A.1, M.1, Or.inr (Or.inr ⟨?_, ?_⟩)⟩
    · cases h : s_Tr_many sz ks vs bs x1 x2 x3 with
      | inl r => have := A.2; rw [h] at this; exact this.elim
      | inr E => have := A.2; rw [h] at this; rw [show E = n_IAE from this]
    · have := M.2
      generalize s_Mo_many mt mks mk mb mc x1 x2 x3 = y at this
      obtain ⟨y1, y2⟩ := y
      simp only at this
      exact ⟨y1, by rw [this]⟩
  rcases wi x1 (n := 3) (by omega) (by omega) with ⟨⟨g, hg, rfl⟩, w1, w2⟩ | ⟨w1, w2⟩
  · rcases wi x3 (n := 9) (by omega) (by omega) with ⟨⟨w, hw, rfl⟩, w3, w4⟩ | ⟨w3, w4⟩
    · obtain ⟨z, a1, a2, a3, a4, a5⟩ := hG g hg
      have i3 : vp_in (nI g) 3 := pk_in g 3 hg
      rcases zfs_or (ks g) x2 z with ⟨r, hr⟩ | hm
      · have hr1 := hr.1
        obtain ⟨c1, c2, c3, c4, ⟨c, d1, d2, d3, d4⟩, c6, c7⟩ := a4 r hr1
        have hr' : zfs (fun i => mk (4 * g + i)) z x2 r := ⟨hr1, by show mk (4 * g + r) = _; rw [← c1]; exact hr.2.1, fun i hi => by show ¬ mk (4 * g + i) = _; rw [← (a4 i (by omega)).1]; exact hr.2.2 i hi⟩
        have R := row_hit a1 hr
        have F := find_hit hg a1 a3 hr'
        have A := e_Tr_many sz ks vs bs (nI g) x2 (nI w) (Q := fun a _ => a = if w = 8 then nI c else bs g (8 * r + w)) (X := fun _ _ => False) (by
          intro r1 q
          rw [show s_Tr_isWithin (nI g) 3 = 1 from w1] at q
          subst q
          refine ⟨fun q => absurd q (by decide), fun _ r7 q => ?_⟩
          rw [show s_Tr_isWithin (nI w) 9 = 1 from w3] at q
          subst q
          refine ⟨fun _ => ⟨i3, fun j e l => ?_⟩, fun q => absurd q (by decide)⟩
          have ej : g = j := (nI_eq (by omega) (by omega)).mp e
          subst ej
          rw [a2]
          refine ⟨R.1, fun r48 q => ?_⟩
          rw [R.2] at q
          subst q
          have e : nI r * 8 + nI w = nI (8 * r + w) := by
            have := pk_mul r 8
            rw [show nI r * 8 = nI (r * 8) from this, nI_add, Nat.mul_comm]
          rw [e]
          refine pk_le 0 r (fun _ => ⟨fun q => ?_, fun q => ?_⟩) (fun q => absurd q (by omega))
          · have w8 : ¬ w = 8 := fun h => q (by rw [h]; rfl)
            rw [nI_clamp (by omega), if_neg w8]
            exact ⟨pk_in (8 * r + w) 32 (by omega), rfl⟩
          · have w8 : w = 8 := (nI_eq (a := w) (b := 8) (by omega) (by omega)).mp q
            rw [nI_clamp (by omega), if_pos w8, d3]
            exact ⟨pk_in r 4 (by omega), rfl⟩)
        have M := e_Mo_many mt mks mk mb mc (nI g) x2 (nI w) (Q := fun a b => (a, b) = (if w = 8 then nI c else bs g (8 * r + w), 0)) (by
          intro r1 q
          rw [show s_Mo_in (nI g) 0 2 = 1 from w2] at q
          subst q
          refine ⟨fun q => absurd q (by decide), fun _ r35 q => ?_⟩
          rw [show s_Mo_in (nI w) 0 8 = 1 from w4] at q
          subst q
          refine ⟨fun q => absurd q (by decide), fun _ r69 u70 q => ?_⟩
          rw [bad1] at q
          cases q
          refine ⟨fun _ => ⟨F.1, fun r75 q => ?_⟩, fun q => absurd rfl q⟩
          rw [F.2] at q
          subst q
          have e : nI (4 * g + r) * 8 + nI w = nI (8 * (4 * g + r) + w) := by
            have := pk_mul (4 * g + r) 8
            rw [show nI (4 * g + r) * 8 = nI ((4 * g + r) * 8) from this, nI_add, Nat.mul_comm]
          rw [e]
          refine pk_le 0 (4 * g + r) (fun _ => pk_le 8 w (fun h => ?_) (fun h => ?_)) (fun q => absurd q (by omega))
          · rw [nI_clamp (by omega), if_pos (by omega), d4]
            exact ⟨pk_in (4 * g + r) 12 (by omega), rfl⟩
          · rw [nI_clamp (by omega), if_neg (by omega), c7 w h]
            exact ⟨pk_in (8 * (4 * g + r) + w) 96 (by omega), rfl⟩)
        refine ⟨A.1, M.1, Or.inl ⟨_, ?_, M.2⟩⟩
        cases h : s_Tr_many sz ks vs bs (nI g) x2 (nI w) with
        | inl r' => have := A.2; rw [h] at this; rw [show r' = if w = 8 then nI c else bs g (8 * r + w) from this]
        | inr E => have := A.2; rw [h] at this; exact this.elim
      · have hm' : ∀ i, i < z → ¬ mk (4 * g + i) = x2 := fun i hi => by rw [← (a4 i hi).1]; exact hm i hi
        have R := row_miss a1 hm
        have F := find_miss hg a1 a3 hm'
        have A := e_Tr_many sz ks vs bs (nI g) x2 (nI w) (Q := fun _ _ => False) (X := fun E _ => E = n_NSE) (by
          intro r1 q
          rw [show s_Tr_isWithin (nI g) 3 = 1 from w1] at q
          subst q
          refine ⟨fun q => absurd q (by decide), fun _ r7 q => ?_⟩
          rw [show s_Tr_isWithin (nI w) 9 = 1 from w3] at q
          subst q
          refine ⟨fun _ => ⟨i3, fun j e l => ?_⟩, fun q => absurd q (by decide)⟩
          have ej : g = j := (nI_eq (by omega) (by omega)).mp e
          subst ej
          rw [a2]
          refine ⟨R.1, fun r48 q => ?_⟩
          rw [R.2] at q
          subst q
          exact ⟨fun q => absurd q (by decide), fun _ => rfl⟩)
        have M := e_Mo_many mt mks mk mb mc (nI g) x2 (nI w) (Q := fun a b => b = 2) (by
          intro r1 q
          rw [show s_Mo_in (nI g) 0 2 = 1 from w2] at q
          subst q
          refine ⟨fun q => absurd q (by decide), fun _ r35 q => ?_⟩
          rw [show s_Mo_in (nI w) 0 8 = 1 from w4] at q
          subst q
          refine ⟨fun q => absurd q (by decide), fun _ r69 u70 q => ?_⟩
          rw [bad1] at q
          cases q
          refine ⟨fun _ => ⟨F.1, fun r75 q => ?_⟩, fun q => absurd rfl q⟩
          rw [F.2] at q
          subst q
          exact ⟨fun q => absurd q (by decide), fun _ => rfl⟩)
        refine ⟨A.1, M.1, Or.inr (Or.inl ⟨?_, ?_⟩)⟩
        · cases h : s_Tr_many sz ks vs bs (nI g) x2 (nI w) with
          | inl r => have := A.2; rw [h] at this; exact this.elim
          | inr E => have := A.2; rw [h] at this; rw [show E = n_NSE from this]
        · have := M.2
          generalize s_Mo_many mt mks mk mb mc (nI g) x2 (nI w) = y at this
          obtain ⟨y1, y2⟩ := y
          simp only at this
          exact ⟨y1, by rw [this]⟩
    · refine bads ?_ ?_
      · intro r1 q
        rw [show s_Tr_isWithin (nI g) 3 = 1 from w1] at q
        subst q
        refine ⟨fun q => absurd q (by decide), fun _ r7 q => ?_⟩
        rw [show s_Tr_isWithin x3 9 = 0 from w3] at q
        subst q
        exact ⟨fun q => absurd rfl q, fun _ => rfl⟩
      · intro r1 q
        rw [show s_Mo_in (nI g) 0 2 = 1 from w2] at q
        subst q
        refine ⟨fun q => absurd q (by decide), fun _ r35 q => ?_⟩
        rw [show s_Mo_in x3 0 8 = 0 from w4] at q
        subst q
        refine ⟨fun _ r41 u42 q => ?_, fun q => absurd rfl q⟩
        rw [bad0] at q
        cases q
        exact ⟨fun q => absurd q (by decide), fun _ => rfl⟩
  · refine bads ?_ ?_
    · intro r1 q
      rw [show s_Tr_isWithin x1 3 = 0 from w1] at q
      subst q
      exact ⟨fun _ => rfl, fun q => absurd rfl q⟩
    · intro r1 q
      rw [show s_Mo_in x1 0 2 = 0 from w2] at q
      subst q
      refine ⟨fun _ r7 u8 q => ?_, fun q => absurd rfl q⟩
      rw [bad0] at q
      cases q
      exact ⟨fun q => absurd q (by decide), fun _ => rfl⟩
end ZGM
theorem o_gathered : zO_gathered zI := by
  intro N t_place t_firings t_text_length t_text_at t_text_characters t_text_draft_length t_text_draft_actions t_text_draft_site t_text_draft_exit t_text_draft_conditional t_text_draft_there t_text_draft_on t_text_draft_failures t_text_draft_meetings t_text_draft_steps t_rules_e_length t_rules_e_actions t_rules_e_site t_rules_e_exit t_rules_e_conditional t_rules_e_there t_rules_e_on t_rules_e_failures t_rules_e_meetings t_rules_e_steps t_runner_time t_runner_dropped t_runner_thread t_runner_handedA t_runner_handedB t_runner_handedC t_runner_top t_runner_over t_runner_failed t_runner_met t_runner_stack t_runner_variables t_runner_gatherers_e_size t_runner_gatherers_e_keys t_runner_gatherers_e_least t_runner_gatherers_e_greatest t_runner_gatherers_e_sums t_runner_gatherers_e_values t_runner_gatherers_e_bins t_runner_records_oldest t_runner_records_size t_runner_records_lost t_runner_records_ring m_newSite m_newCondition m_newActions m_size m_place m_pos m_at m_operators m_recorded m_lost m_dropped m_firings m_time m_thread m_thrown m_failed m_text m_code m_site m_condition m_actions m_kind m_target m_first m_second m_failures m_met m_there m_on m_compared m_globals m_own m_records m_pile m_handed m_keys m_key m_count m_bins m_operator m_starts m_sum m_least m_greatest x1 x2 x3 o hN hI 
  obtain ⟨i1, i2, i3, i4, i5, i6, i7⟩ := hI
  obtain ⟨q1, q2, q3⟩ := g_core i7.2.2.2.1 (by omega) m_thrown x1 x2 x3
  refine ⟨q1, q2, fun k o' b v0 h1 h2 => ?_⟩
  have i7' := rX_mono (show 300 * N ≤ 300 * (N + 1) by omega) i7
  unfold s_La_gathered at h1
  rcases q3 with ⟨r, e1, e2⟩ | ⟨e1, r, e2⟩ | ⟨e1, r, e2⟩
  · rw [e1] at h1
    rw [e2] at h2
    cases h1
    cases h2
    exact ⟨rfl, fun _ => by simp only [vf_upd, if_true]; exact zDeq.rf _, i1, i2, i3, i4, i5, rM_up i6, i7'⟩
  · rw [e1] at h1
    rw [e2] at h2
    simp only [if_neg ne_IAE] at h1
    cases h1
    cases h2
    exact ⟨rfl, fun q => absurd q (by decide), i1, i2, i3, i4, i5, rM_up i6, i7'⟩
  · rw [e1] at h1
    rw [e2] at h2
    simp only [if_true] at h1
    cases h1
    cases h2
    exact ⟨rfl, fun q => absurd q (by decide), i1, i2, i3, i4, i5, rM_up i6, i7'⟩
theorem o_many : zO_many zI := by
  intro N t_place t_firings t_text_length t_text_at t_text_characters t_text_draft_length t_text_draft_actions t_text_draft_site t_text_draft_exit t_text_draft_conditional t_text_draft_there t_text_draft_on t_text_draft_failures t_text_draft_meetings t_text_draft_steps t_rules_e_length t_rules_e_actions t_rules_e_site t_rules_e_exit t_rules_e_conditional t_rules_e_there t_rules_e_on t_rules_e_failures t_rules_e_meetings t_rules_e_steps t_runner_time t_runner_dropped t_runner_thread t_runner_handedA t_runner_handedB t_runner_handedC t_runner_top t_runner_over t_runner_failed t_runner_met t_runner_stack t_runner_variables t_runner_gatherers_e_size t_runner_gatherers_e_keys t_runner_gatherers_e_least t_runner_gatherers_e_greatest t_runner_gatherers_e_sums t_runner_gatherers_e_values t_runner_gatherers_e_bins t_runner_records_oldest t_runner_records_size t_runner_records_lost t_runner_records_ring m_newSite m_newCondition m_newActions m_size m_place m_pos m_at m_operators m_recorded m_lost m_dropped m_firings m_time m_thread m_thrown m_failed m_text m_code m_site m_condition m_actions m_kind m_target m_first m_second m_failures m_met m_there m_on m_compared m_globals m_own m_records m_pile m_handed m_keys m_key m_count m_bins m_operator m_starts m_sum m_least m_greatest x1 x2 x3 o hN hI 
  obtain ⟨i1, i2, i3, i4, i5, i6, i7⟩ := hI
  obtain ⟨q1, q2, q3⟩ := m_core i7.2.2.2.1 (by omega) m_thrown x1 x2 x3
  refine ⟨q1, q2, fun k o' b v0 h1 h2 => ?_⟩
  have i7' := rX_mono (show 300 * N ≤ 300 * (N + 1) by omega) i7
  unfold s_La_many at h1
  rcases q3 with ⟨r, e1, e2⟩ | ⟨e1, r, e2⟩ | ⟨e1, r, e2⟩
  · rw [e1] at h1
    rw [e2] at h2
    cases h1
    cases h2
    exact ⟨rfl, fun _ => rfl, i1, i2, i3, i4, i5, rM_up i6, i7'⟩
  · rw [e1] at h1
    rw [e2] at h2
    simp only [if_neg ne_IAE] at h1
    cases h1
    cases h2
    exact ⟨rfl, fun q => absurd q (by decide), i1, i2, i3, i4, i5, rM_up i6, i7'⟩
  · rw [e1] at h1
    rw [e2] at h2
    simp only [if_true] at h1
    cases h1
    cases h2
    exact ⟨rfl, fun q => absurd q (by decide), i1, i2, i3, i4, i5, rM_up i6, i7'⟩
