section ZME
variable {n : Nat} {ch : Nat → Nat} {tc mt : Nat → Int32} {A0 : Nat} {cd0 : Nat → Int32} {Q : Int32 → (Int32 × Int32 × Int32 × (Nat → Int32) × (Nat → Int32) × (Nat → Int32) × (Nat → Int32)) → Prop}
theorem kL_s (hT : zTx n ch tc mt) {f : Nat} (ihL : kL n ch mt A0 cd0 Q f) (ihU : kU n ch mt A0 cd0 Q f) : kL n ch mt A0 cd0 Q (f + 1) := by
  intro lev dep p b a lo s0 F st cm cd op hp hdep hb hlev hf hst hs0 hlo hlp hI hF hA hcd hc0 K0 K1
  have hn := hT.1
  have h127 := zN_lt hT
  unfold gP at K0 K1
  rw [if_pos rfl] at K0 K1
  by_cases h3 : 2 < lev
  · rw [if_pos h3] at K0 K1
    have hnz : lo = s0 ∨ ¬ op (lo - 1) = 0 := by
      rcases hlo with h | ⟨g, g1, g2, g3, g4⟩
      · exact Or.inl h
      · refine Or.inr ?_
        rw [g1]
        rcases Nat.eq_zero_or_pos g with q | q
        · subst q; exact absurd rfl g3
        · exact nI_ne0 q (by omega)
    refine ihU dep p 0 b a lo s0 F st cm cd op hp hdep (by omega) (by clear hlo hnz; omega) hst hs0 hnz (fun i hi => absurd hi (by omega)) (by omega) (by clear hlo hnz; omega) hF hA hcd K0 (fun q F' st' cm' cd' op' j1 j2 j3 j4 j5 j6 => ?_)
    have := K1 q F' (gP (zN n ch) f 1 0 dep p).2.2 [] st' cm' cd' op' j1 (by simp) trivial (by simp) (by simpa using j2) j3 j4 j5 (fun i hi => j6 i (by omega)) (fun _ => j6 b (Nat.le_refl _)) (fun e => absurd e (by omega))
    exact this
  · rw [if_neg h3] at K0 K1
    have hgB := gP_b (n := n) (ch := ch) h127 f 0 (lev + 1) dep p hp
    have hlo' : lo = s0 ∨ ∃ g, op (lo - 1) = nI g ∧ g < 127 ∧ ¬ lvN g = 9 ∧ lvN g < lev + 1 := by
      rcases hlo with h | ⟨g, g1, g2, g3, g4⟩
      · exact Or.inl h
      · exact Or.inr ⟨g, g1, g2, g3, by omega⟩
    have hf' : 5 * (5 - dep) + 1 + (4 - (lev + 1)) ≤ f := by clear hlo hlo'; omega
    refine ihL (lev + 1) dep p b a lo s0 F st cm cd op hp hdep hb (by clear hlo hlo'; omega) hf' hst hs0 hlo' hlp hI hF hA hcd (fun e => absurd e (Nat.succ_ne_zero lev)) ?_ ?_
    · intro q
      rw [if_neg q] at K0
      exact K0 (by simp)
    · intro q
      rw [if_pos q] at K0 K1
      obtain ⟨b1, b2, b3, b4⟩ := hgB
      intro F' E H st' cm' cd' op' j1 j2 j3 j4 j5 j6 j7 j8 j9 j10 j11
      have hl2 : lev ≤ 2 := by clear hlo hlo'; omega
      have hmm : lev = 0 → (0 < (if lev = 0 then 1 else 48) → cm' b = 0) ∧ ((if lev = 0 then 1 else 48) ≤ 1) ∧ ((if lev = 0 then 1 else 48) = 0 → ¬ cm' b = 0) := fun e => by
        rw [if_pos e]
        exact ⟨fun _ => (j10 (Nat.succ_pos lev)).trans (hc0 e), Nat.le_refl _, fun q => absurd q (by decide)⟩
      exact kW hT ihL hdep hb hl2 hf' hst hs0 hlo hlp hI hA hcd (if lev = 0 then 1 else 48) _ _ E H F' st' cm' cd' op' b2 b1 b3 j1 j2 j3 (fun h hh => ⟨(j4 h hh).1, (j4 h hh).2.1, Nat.le_of_succ_le (j4 h hh).2.2⟩) j5 j6 j7 j8 j9 (fun _ => j10 (Nat.succ_pos lev)) hmm K0 K1
theorem kU_s (hT : zTx n ch tc mt) {f : Nat} (ihL : kL n ch mt A0 cd0 Q f) (ihU : kU n ch mt A0 cd0 Q f) : kU n ch mt A0 cd0 Q (f + 1) := by
  intro dep p m b a lo s0 F st cm cd op hp hdep hb hf hst hs0 hnz hz hlp hI hF hA hcd K0 K1
  have hn := hT.1
  have h127 := zN_lt hT
  unfold gP at K0 K1
  rw [if_neg (by omega)] at K0 K1
  unfold gU at K0 K1
  obtain ⟨F1, rfl⟩ : ∃ F1, F = F1 + 1 := ⟨F - 1, by omega⟩
  by_cases h1 : dgN (zN n ch p) = true
  · rw [if_pos h1] at K0 K1
    obtain ⟨g1, g2, g3⟩ := gN_b h1
    refine x_unit hT hp (by omega) (Or.inl ⟨h1, rfl, rfl⟩) hst hs0 hnz hz (by omega) (by omega) (by omega) (fun cd' k1 k2 => ?_)
    have := K1 rfl F1 st cm cd' op (by simp only; omega) k1 k2 (fun _ _ => rfl) (fun _ _ => rfl) (fun _ _ => rfl)
    simp only [List.length_cons, List.length_nil] at this
    rw [show a + 2 * (0 + 1 + m) = a + 2 + 2 * m by omega] at this
    exact this
  rw [if_neg h1] at K0 K1
  by_cases h2 : nmN (zN n ch p) = true
  · rw [if_pos h2] at K0 K1
    refine x_unit hT hp (by omega) (Or.inr ⟨h1, h2, rfl, rfl⟩) hst hs0 hnz hz (by omega) (by omega) (by omega) (fun cd' k1 k2 => ?_)
    have := K1 rfl F1 st cm cd' op (by simp only; omega) k1 k2 (fun _ _ => rfl) (fun _ _ => rfl) (fun _ _ => rfl)
    simp only [List.length_cons, List.length_nil] at this
    rw [show a + 2 * (0 + 1 + m) = a + 2 + 2 * m by omega] at this
    exact this
  rw [if_neg h2] at K0 K1
  refine x_open hT hp (by omega) h1 h2 (by omega) (by omega) hdep ?_ ?_ ?_
  · intro q
    have e : kF A0 cd0 Q p := by
      by_cases h3 : zN n ch p = 40
      · rw [if_pos h3] at K0
        by_cases h5 : dep < 5
        · rcases q with q | q
          · exact absurd (Or.inl h3) q
          · exact absurd h5 q
        · rw [if_neg h5] at K0
          exact K0 (by simp)
      · rw [if_neg h3] at K0
        by_cases h4 : zN n ch p = 45
        · rw [if_pos h4] at K0
          by_cases h5 : dep < 5
          · rcases q with q | q
            · exact absurd (Or.inr h4) q
            · exact absurd h5 q
          · rw [if_neg h5] at K0
            exact K0 (by simp)
        · rw [if_neg h4] at K0
          exact K0 (by simp)
    exact e _ _ st cm cd op hcd
  · intro h3 h5
    rw [if_pos h3, if_pos h5] at K0 K1
    have hpn : p < n := zN_p (ch := ch) (by omega)
    have hgB := gP_b (n := n) (ch := ch) h127 f 0 0 (dep + 1) (p + 1) (by omega)
    have hnx := gP_nx hn h127 f 0 (dep + 1) (p + 1) (by omega)
    refine ihL 0 (dep + 1) (p + 1) (b + 1) a (lo + m) (lo + m) F1 (upd st (b + 1) (nI (lo + m))) (upd cm (b + 1) 0) cd op (by omega) (by omega) (by omega) (by omega) (by omega) (if_pos rfl) (Nat.le_refl _) (Or.inl rfl) (by omega) (by omega) (by omega) hA hcd (fun _ => if_pos rfl) ?_ ?_
    · intro q
      rw [if_neg q] at K0
      exact K0 (by simp)
    · intro q
      rw [if_pos q] at K0 K1
      have hnx := hnx q
      intro F' E H st' cm' cd' op' j1 j2 j3 j4 j5 j6 j7 j8 j9 j10 j11
      generalize gP (zN n ch) f 0 0 (dep + 1) (p + 1) = R at hgB hnx K0 K1 j1 j2 j11 ⊢
      obtain ⟨b1, b2, b3, b4⟩ := hgB
      have hlen : E.length + H.length = R.2.2.length := by rw [← j2, List.length_append, List.length_map]
      obtain ⟨F2, rfl⟩ : ∃ F2, F' = F2 + 1 := ⟨F' - 1, by omega⟩
      have hne : lvN (zN n ch R.2.1) = 9 ∨ (lvN (zN n ch R.2.1) = 0 ∧ ¬ cm' (b + 1) = 0) := by
        rcases lv_cases _ (h127 R.2.1) with w | w | w | w
        · exact Or.inr ⟨w, fun e => j11 rfl e w⟩
        · exact absurd w (hnx 1 (by omega) (by omega) (by omega))
        · exact absurd w (hnx 2 (by omega) (by omega) (by omega))
        · exact Or.inl w
      have stb : st' b = nI s0 := by
        rw [j8 b (by omega)]
        simp only [upd]
        rw [if_neg (by omega)]
        exact hst
      have hnz' : lo = s0 ∨ ¬ op' (lo - 1) = 0 := by
        by_cases e : lo = s0
        · exact Or.inl e
        · rcases hnz with h | h
          · exact absurd h e
          · exact Or.inr (by rw [j7 (lo - 1) (by omega)]; exact h)
      refine x_close hT (m := m) (s0 := s0) (lo2 := lo) (D := dep) (by omega) (by omega) hne (by rw [j8 (b + 1) (Nat.le_refl _)]; exact if_pos rfl) j3 j4 (by omega) (by omega) rfl stb hs0 hnz' (fun i hi => by rw [j7 (lo + i) (by omega)]; exact hz i hi) (by omega) ?_ ?_
      · intro h41 cd'' k1
        rw [if_neg h41] at K0
        exact K0 (by simp) _ _ st' cm' cd'' op' (fun i hi => (k1 i (by omega)).trans ((j6 i (by omega)).trans (hcd i hi)))
      · intro h41 cd'' k1 k2
        rw [if_pos h41] at K1
        have := K1 rfl F2 st' cm' cd'' op' (by simp only; omega) (by
          have w := cE_more (U := H.map zot ++ List.replicate m (4, 0)) rfl j5 k2 k1
          rw [← List.append_assoc, j2] at w
          exact w) (fun i hi => (k2 i (by omega)).trans (j6 i hi)) (fun i hi => j7 i (by omega)) (fun i hi => by
          rw [j8 i (by omega)]
          simp only [upd]
          rw [if_neg (by omega)]) (fun i hi => by
          rw [j9 i (by omega)]
          simp only [upd]
          rw [if_neg (by omega)])
        rw [show a + 2 * E.length + 2 * H.length + 2 * m = a + 2 * (R.2.2.length + m) by omega]
        exact this
  · intro h4 h5
    have h3 : ¬ zN n ch p = 40 := by omega
    rw [if_neg h3, if_pos h4, if_pos h5] at K0 K1
    have hpn : p < n := zN_p (ch := ch) (by omega)
    refine ihU (dep + 1) (p + 1) (m + 1) b a lo s0 F1 st cm cd (upd op (lo + m) 0) (by omega) (by omega) (by omega) (by omega) hst hs0 ?_ (fun i hi => ?_) (by omega) (by omega) (by omega) hA hcd ?_ ?_
    · by_cases e : lo = s0
      · exact Or.inl e
      · rcases hnz with h | h
        · exact absurd h e
        · refine Or.inr ?_
          simp only [upd]
          rw [if_neg (by omega)]
          exact h
    · simp only [upd]
      by_cases e : i = m
      · rw [if_pos (by omega)]
      · rw [if_neg (by omega)]
        exact hz i (by omega)
    · intro q
      rw [if_neg q] at K0
      exact K0 (by simp)
    · intro q
      rw [if_pos q] at K0 K1
      intro F' st' cm' cd' op' j1 j2 j3 j4 j5 j6
      generalize gP (zN n ch) f 1 0 (dep + 1) (p + 1) = R at K0 K1 j1 j2 ⊢
      have := K1 rfl F' st' cm' cd' op' j1 (by
        rw [List.append_assoc]
        exact j2) j3 (fun i hi => by
        rw [j4 i hi]
        simp only [upd]
        rw [if_neg (by omega)]) j5 j6
      simp only [List.length_append, List.length_cons, List.length_nil] at this
      rw [show R.2.2.length + (m + 1) = R.2.2.length + (0 + 1) + m by omega, show dep + 1 - (m + 1) = dep - m by omega]
      exact this
theorem kLU (hT : zTx n ch tc mt) : ∀ f, kL n ch mt A0 cd0 Q f ∧ kU n ch mt A0 cd0 Q f
  | 0 => ⟨fun lev dep p b a lo s0 F st cm cd op _ _ _ _ h => absurd h (by omega), fun dep p m b a lo s0 F st cm cd op _ _ _ h => absurd h (by omega)⟩
  | f + 1 => ⟨kL_s hT (kLU hT f).1 (kLU hT f).2, kU_s hT (kLU hT f).1 (kLU hT f).2⟩
end ZME
