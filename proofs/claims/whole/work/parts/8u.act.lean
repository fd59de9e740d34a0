/-! actions and rules, read by neither -/
section ZGA
variable (nx : Nat → Nat)
def gE (p : Nat) : Bool × Nat × List zTok := gP nx 30 0 0 0 p
def gG (p : Nat) : Bool × Nat × zAct :=
  if 65 ≤ nx p ∧ nx p ≤ 67 then (if nx (p + 1) = 91 then (if (gE nx (p + 2)).1 then (if nx (gE nx (p + 2)).2.1 = 93 then (if nx ((gE nx (p + 2)).2.1 + 1) = 61 then ((gE nx ((gE nx (p + 2)).2.1 + 2)).1, (gE nx ((gE nx (p + 2)).2.1 + 2)).2.1, (64, nx p - 65, (gE nx (p + 2)).2.2, (gE nx ((gE nx (p + 2)).2.1 + 2)).2.2)) else (false, (gE nx (p + 2)).2.1 + 1, (0, 0, [], []))) else (false, (gE nx (p + 2)).2.1, (0, 0, [], []))) else (false, (gE nx (p + 2)).2.1, (0, 0, [], []))) else (false, p + 1, (0, 0, [], []))) else (false, p, (0, 0, [], []))
def gA (p : Nat) : Bool × Nat × zAct :=
  if nx p = 64 then gG nx (p + 1)
  else if 117 ≤ nx p ∧ nx p ≤ 122 then (if nx (p + 1) = 61 then ((gE nx (p + 2)).1, (gE nx (p + 2)).2.1, (61, nx p - 117, [], (gE nx (p + 2)).2.2)) else (false, p + 1, (0, 0, [], [])))
  else if nx p = 33 ∨ nx p = 63 then ((gE nx (p + 1)).1, (gE nx (p + 1)).2.1, (nx p, 0, [], (gE nx (p + 1)).2.2))
  else (false, p, (0, 0, [], []))
end ZGA
section ZCA
variable {n : Nat} {ch : Nat → Nat} {tc mt : Nat → Int32}
/-- what an action's reading keeps -/
def gAB (n p : Nat) (r : Bool × Nat × zAct) : Prop := p ≤ r.2.1 ∧ r.2.1 ≤ n ∧ (r.1 = true → p + 2 ≤ r.2.1 ∧ (zxS r.2.2).length + p ≤ r.2.1)
theorem gE_b (hT : zTx n ch tc mt) {p : Nat} (hp : p ≤ n) : gB n p (gE (zN n ch) p) := gP_b (n := n) (ch := ch) (zN_lt hT) 30 0 0 0 p hp
theorem gG_b (hT : zTx n ch tc mt) {p : Nat} (hp : p ≤ n) : p ≤ (gG (zN n ch) p).2.1 ∧ (gG (zN n ch) p).2.1 ≤ n ∧ ((gG (zN n ch) p).1 = true → p + 2 ≤ (gG (zN n ch) p).2.1 ∧ (zxS (gG (zN n ch) p).2.2).length + p ≤ (gG (zN n ch) p).2.1) := by
  unfold gG
  by_cases h1 : 65 ≤ zN n ch p ∧ zN n ch p ≤ 67
  · have q1 : p < n := zN_p (ch := ch) (by omega)
    rw [if_pos h1]
    by_cases h2 : zN n ch (p + 1) = 91
    · have q2 : p + 1 < n := zN_p (ch := ch) (by omega)
      rw [if_pos h2]
      obtain ⟨b1, b2, b3, b4⟩ := gE_b hT (p := p + 2) (by omega)
      by_cases h3 : (gE (zN n ch) (p + 2)).1 = true
      · rw [if_pos h3]
        obtain ⟨b5, b6⟩ := b4 h3
        by_cases h4 : zN n ch (gE (zN n ch) (p + 2)).2.1 = 93
        · have q3 : (gE (zN n ch) (p + 2)).2.1 < n := zN_p (ch := ch) (by omega)
          rw [if_pos h4]
          by_cases h5 : zN n ch ((gE (zN n ch) (p + 2)).2.1 + 1) = 61
          · have q4 : (gE (zN n ch) (p + 2)).2.1 + 1 < n := zN_p (ch := ch) (by omega)
            rw [if_pos h5]
            obtain ⟨c1, c2, c3, c4⟩ := gE_b hT (p := (gE (zN n ch) (p + 2)).2.1 + 2) (by omega)
            refine ⟨by simp only; omega, c2, fun q => ⟨by simp only; omega, ?_⟩⟩
            simp only [zxS, if_true, List.length_append, List.length_map, List.length_cons, List.length_nil]
            omega
          · rw [if_neg h5]
            exact ⟨by simp only; omega, by simp only; omega, fun q => absurd q (by simp)⟩
        · rw [if_neg h4]
          exact ⟨by simp only; omega, b2, fun q => absurd q (by simp)⟩
      · rw [if_neg h3]
        exact ⟨by simp only; omega, b2, fun q => absurd q (by simp)⟩
    · rw [if_neg h2]
      exact ⟨by simp only; omega, by simp only; omega, fun q => absurd q (by simp)⟩
  · rw [if_neg h1]
    exact ⟨Nat.le_refl _, hp, fun q => absurd q (by simp)⟩
theorem gA_b (hT : zTx n ch tc mt) {p : Nat} (hp : p ≤ n) : gAB n p (gA (zN n ch) p) := by
  unfold gA
  by_cases h1 : zN n ch p = 64
  · rw [if_pos h1]
    have q1 : p < n := zN_p (ch := ch) (by omega)
    obtain ⟨a, b, c⟩ := gG_b hT (p := p + 1) (by omega)
    exact ⟨by omega, b, fun q => by have := c q; omega⟩
  rw [if_neg h1]
  by_cases h2 : 117 ≤ zN n ch p ∧ zN n ch p ≤ 122
  · rw [if_pos h2]
    have q1 : p < n := zN_p (ch := ch) (by omega)
    by_cases h3 : zN n ch (p + 1) = 61
    · rw [if_pos h3]
      have q2 : p + 1 < n := zN_p (ch := ch) (by omega)
      obtain ⟨b1, b2, b3, b4⟩ := gE_b hT (p := p + 2) (by omega)
      refine ⟨by simp only; omega, b2, fun q => ⟨by simp only; omega, ?_⟩⟩
      simp only [zxS, show ¬ (61 = 64) by omega, if_false, if_true, List.length_append, List.length_map, List.length_cons, List.length_nil]
      omega
    · rw [if_neg h3]
      exact ⟨by simp only; omega, by simp only; omega, fun q => absurd q (by simp)⟩
  rw [if_neg h2]
  by_cases h3 : zN n ch p = 33 ∨ zN n ch p = 63
  · rw [if_pos h3]
    have q1 : p < n := zN_p (ch := ch) (by omega)
    obtain ⟨b1, b2, b3, b4⟩ := gE_b hT (p := p + 1) (by omega)
    refine ⟨by simp only; omega, b2, fun q => ⟨by have := (b4 q).1; simp only; omega, ?_⟩⟩
    simp only [zxS, if_neg h1, List.length_append, List.length_map, List.length_cons, List.length_nil]
    omega
  · rw [if_neg h3]
    exact ⟨Nat.le_refl _, hp, fun q => absurd q (by simp)⟩
/-- what the class's draft holds when an action has been read -/
def cAQ (d : Nat) (ds : Nat → Int32) (r : Bool × Nat × zAct) (a : Int32) (b : Int32 × Int32 × (Nat → Int32)) : Prop := a = (if r.1 then 1 else 0) ∧ b.1 = nI r.2.1 ∧ (r.1 = true → b.2.1 = nI (d + (zxS r.2.2).length) ∧ sE b.2.2 d (zxS r.2.2) ∧ ∀ i, i < d → b.2.2 i = ds i)
theorem c_gath (hT : zTx n ch tc mt) {p d : Nat} {ds : Nat → Int32} (hp : p ≤ n) (hd : d ≤ p) : p_Te_readGathering (nI n) (nI p) tc (nI d) ds ∧ cAQ d ds (gG (zN n ch) p) (s_Te_readGathering (nI n) (nI p) tc (nI d) ds).1 (s_Te_readGathering (nI n) (nI p) tc (nI d) ds).2 := by
  have hn := hT.1
  have h127 := zN_lt hT
  refine e_Te_readGathering (nI n) (nI p) tc (nI d) ds (Q := cAQ d ds (gG (zN n ch) p)) ?_
  have l := f_next hT (p := p) (by omega)
  refine ⟨l.1, fun r1 q => ?_⟩
  rw [l.2] at q
  subst q
  have h1' := h127 p
  unfold gG
  refine pk_lt (zN n ch p) 65 (fun h => ?_) (fun h => pk_le (zN n ch p) 67 (fun h' => ?_) (fun h' => ?_))
  · rw [if_neg (by omega)]
    exact ⟨rfl, rfl, fun q => absurd q (by simp)⟩
  · have h1 : 65 ≤ zN n ch p ∧ zN n ch p ≤ 67 := ⟨h, h'⟩
    have q1 : p < n := zN_p (ch := ch) (by omega)
    rw [if_pos h1, nI_1]
    have a := f_pass hT (p := p + 1) (c := 91) (by omega) (by omega)
    refine ⟨a.1, fun r9 u10 q => ?_⟩
    rw [show s_Te_pass (nI n) (nI (p + 1)) tc 91 = _ from a.2] at q
    by_cases h2 : zN n ch (p + 1) = 91
    · have q2 : p + 1 < n := zN_p (ch := ch) (by omega)
      rw [if_pos h2] at q ⊢
      cases q
      refine ⟨fun q => absurd q (by decide), fun _ => ?_⟩
      have hb := gE_b hT (p := p + 2) (by omega)
      refine (c_exp hT (p := p + 2) (d := d) (ds := ds) (by omega) (by omega)).use (P := fun r15 m18 m19 m20 => ((r15 = 0) → cAQ d ds _ (0 : Int32) (m18, m19, m20)) ∧ ((¬ r15 = 0) → p_Te_pass (nI n) m18 tc (93 : Int32) ∧ (∀ (r24 u25 : Int32), s_Te_pass (nI n) m18 tc (93 : Int32) = (r24, u25) → ((¬ r24 = 0) → p_Te_pass (nI n) u25 tc (61 : Int32) ∧ (∀ (r30 u31 : Int32), s_Te_pass (nI n) u25 tc (61 : Int32) = (r30, u31) → ((r30 = 0) → cAQ d ds _ (0 : Int32) (u31, m19, m20)) ∧ ((¬ r30 = 0) → p_Te_readLevel (nI n) u31 tc m19 m20 (0 : Int32) (0 : Int32) ∧ (∀ (r36 m39 m40 : Int32) (m41 : Nat → Int32), s_Te_readLevel (nI n) u31 tc m19 m20 (0 : Int32) (0 : Int32) = (r36, m39, m40, m41) → ((¬ r36 = 0) → p_Ru_add m40 m41 (nI (zN n ch p)) ∧ (∀ (m48 : Int32) (m49 : Nat → Int32), s_Ru_add m40 m41 (nI (zN n ch p)) = (m48, m49) → cAQ d ds _ (1 : Int32) (m39, m48, m49))) ∧ ((r36 = 0) → cAQ d ds _ (0 : Int32) (m39, m40, m41)))))) ∧ ((r24 = 0) → cAQ d ds _ (0 : Int32) (u25, m19, m20))))) (fun ds' e1 e2 => ?_)
      show ((if (gE (zN n ch) (p + 2)).1 = true then (1 : Int32) else 0) = 0 → _) ∧ _
      have e1 : sE ds' d ((gE (zN n ch) (p + 2)).2.2.map zkc) := e1
      change gB n (p + 2) (gE (zN n ch) (p + 2)) at hb
      generalize hR : gE (zN n ch) (p + 2) = R at hb e1 ⊢
      have hR' : gP (zN n ch) 30 0 0 0 (p + 2) = R := hR
      rw [hR']
      obtain ⟨b1, b2, b3, b4⟩ := hb
      by_cases h6 : R.1 = true
      · rw [if_pos h6, if_pos h6]
        refine ⟨fun q => absurd q (by decide), fun _ => ?_⟩
        have c := f_pass hT (p := R.2.1) (c := 93) (by omega) (by omega)
        refine ⟨c.1, fun r24 u25 q => ?_⟩
        rw [show s_Te_pass (nI n) (nI R.2.1) tc 93 = _ from c.2] at q
        by_cases h7 : zN n ch R.2.1 = 93
        · have q3 : R.2.1 < n := zN_p (ch := ch) (by omega)
          rw [if_pos h7] at q ⊢
          cases q
          refine ⟨fun _ => ?_, fun q => absurd q (by decide)⟩
          have c := f_pass hT (p := R.2.1 + 1) (c := 61) (by omega) (by omega)
          refine ⟨c.1, fun r30 u31 q => ?_⟩
          rw [show s_Te_pass (nI n) (nI (R.2.1 + 1)) tc 61 = _ from c.2] at q
          by_cases h8 : zN n ch (R.2.1 + 1) = 61
          · have q4 : R.2.1 + 1 < n := zN_p (ch := ch) (by omega)
            rw [if_pos h8] at q ⊢
            cases q
            refine ⟨fun q => absurd q (by decide), fun _ => ?_⟩
            have hb2 := gE_b hT (p := R.2.1 + 2) (by omega)
            refine (c_exp hT (p := R.2.1 + 2) (d := d + R.2.2.length) (ds := ds') (by omega) (by omega)).use (P := fun r36 m39 m40 m41 => ((¬ r36 = 0) → p_Ru_add m40 m41 (nI (zN n ch p)) ∧ (∀ (m48 : Int32) (m49 : Nat → Int32), s_Ru_add m40 m41 (nI (zN n ch p)) = (m48, m49) → cAQ d ds _ (1 : Int32) (m39, m48, m49))) ∧ ((r36 = 0) → cAQ d ds _ (0 : Int32) (m39, m40, m41))) (fun ds2 e3 e4 => ?_)
            have e3 : sE ds2 (d + R.2.2.length) ((gE (zN n ch) (R.2.1 + 2)).2.2.map zkc) := e3
            generalize hS : gE (zN n ch) (R.2.1 + 2) = S at hb2 e3 ⊢
            have hS' : gP (zN n ch) 30 0 0 0 (R.2.1 + 2) = S := hS
            rw [hS']
            obtain ⟨s1, s2, s3, s4⟩ := hb2
            by_cases h9 : S.1 = true
            · rw [if_pos h9]
              refine ⟨fun _ => ?_, fun q => absurd q (by decide)⟩
              have u := f_ruadd (d := d + R.2.2.length + S.2.2.length) (by omega) ds2 (nI (zN n ch p))
              refine ⟨u.1, fun m48 m49 q => ?_⟩
              rw [u.2] at q
              cases q
              have hzx : zxS (64, zN n ch p - 65, R.2.2, S.2.2) = R.2.2.map zkc ++ (S.2.2.map zkc ++ [zN n ch p]) := by
                show R.2.2.map zkc ++ (S.2.2.map zkc ++ [65 + (zN n ch p - 65)]) = _
                rw [show 65 + (zN n ch p - 65) = zN n ch p by omega]
              refine ⟨by simp only; rw [if_pos h9], rfl, fun _ => ⟨?_, ?_, fun i hi => ?_⟩⟩
              · rw [hzx]
                simp only [List.length_append, List.length_map, List.length_cons, List.length_nil]
                congr 1; omega
              · rw [hzx, ← List.append_assoc]
                refine sE_snoc (by simp only [List.length_append, List.length_map]; omega) ?_
                exact sE_more (by rw [List.length_map]) e1 e4 e3
              · simp only [upd]
                rw [if_neg (by omega), e4 i (by omega), e2 i hi]
            · rw [if_neg h9]
              exact ⟨fun q => absurd rfl q, fun _ => ⟨by simp only; rw [if_neg h9], rfl, fun q => absurd q h9⟩⟩
          · rw [if_neg h8] at q ⊢
            cases q
            exact ⟨fun _ => ⟨rfl, rfl, fun q => absurd q (by simp)⟩, fun q => absurd rfl q⟩
        · rw [if_neg h7] at q ⊢
          cases q
          exact ⟨fun q => absurd rfl q, fun _ => ⟨rfl, rfl, fun q => absurd q (by simp)⟩⟩
      · rw [if_neg h6, if_neg h6]
        exact ⟨fun _ => ⟨rfl, rfl, fun q => absurd q (by simp)⟩, fun q => absurd rfl q⟩
    · rw [if_neg h2] at q ⊢
      cases q
      exact ⟨fun _ => ⟨rfl, rfl, fun q => absurd q (by simp)⟩, fun q => absurd rfl q⟩
  · rw [if_neg (by omega)]
    exact ⟨rfl, rfl, fun q => absurd q (by simp)⟩
end ZCA
