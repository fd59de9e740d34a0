section ZCB
variable {n : Nat} {ch : Nat → Nat} {tc mt : Nat → Int32}
theorem c_expadd (hT : zTx n ch tc mt) {p d x : Nat} {ds : Nat → Int32} (hp : p ≤ n) (hd : d < p) {X : Int32} (hX : X = nI x) {act : zAct} (hz : zxS act = (gE (zN n ch) p).2.2.map zkc ++ [x]) :
    p_Te_readLevel (nI n) (nI p) tc (nI d) ds 0 0 ∧ (∀ (r15 m18 m19 : Int32) (m20 : Nat → Int32), s_Te_readLevel (nI n) (nI p) tc (nI d) ds 0 0 = (r15, m18, m19, m20) → ((¬ r15 = 0) → p_Ru_add m19 m20 X ∧ (∀ (m27 : Int32) (m28 : Nat → Int32), s_Ru_add m19 m20 X = (m27, m28) → cAQ d ds ((gE (zN n ch) p).1, (gE (zN n ch) p).2.1, act) 1 (m18, m27, m28))) ∧ ((r15 = 0) → cAQ d ds ((gE (zN n ch) p).1, (gE (zN n ch) p).2.1, act) 0 (m18, m19, m20))) := by
  have hn := hT.1
  have hb := gE_b hT (p := p) hp
  subst hX
  refine (c_exp hT (p := p) (d := d) (ds := ds) hp (by omega)).use (P := fun r15 m18 m19 m20 => ((¬ r15 = 0) → p_Ru_add m19 m20 (nI x) ∧ (∀ (m27 : Int32) (m28 : Nat → Int32), s_Ru_add m19 m20 (nI x) = (m27, m28) → cAQ d ds ((gE (zN n ch) p).1, (gE (zN n ch) p).2.1, act) 1 (m18, m27, m28))) ∧ ((r15 = 0) → cAQ d ds ((gE (zN n ch) p).1, (gE (zN n ch) p).2.1, act) 0 (m18, m19, m20))) (fun ds' e1 e2 => ?_)
  have e1 : sE ds' d ((gE (zN n ch) p).2.2.map zkc) := e1
  generalize hR : gE (zN n ch) p = R at hb e1 hz ⊢
  have hR' : gP (zN n ch) 30 0 0 0 p = R := hR
  rw [hR']
  obtain ⟨b1, b2, b3, b4⟩ := hb
  by_cases h9 : R.1 = true
  · rw [if_pos h9]
    refine ⟨fun _ => ?_, fun q => absurd q (by decide)⟩
    have u := f_ruadd (d := d + R.2.2.length) (by omega) ds' (nI x)
    refine ⟨u.1, fun m48 m49 q => ?_⟩
    rw [u.2] at q
    cases q
    refine ⟨by simp only; rw [if_pos h9], rfl, fun _ => ⟨?_, ?_, fun i hi => ?_⟩⟩
    · rw [hz]
      simp only [List.length_append, List.length_map, List.length_cons, List.length_nil]
      congr 1
    · rw [hz]
      exact sE_snoc (by rw [List.length_map]) e1
    · simp only [upd]
      rw [if_neg (by omega), e2 i hi]
  · rw [if_neg h9]
    exact ⟨fun q => absurd rfl q, fun _ => ⟨by simp only; rw [if_neg h9], rfl, fun q => absurd q h9⟩⟩
theorem c_act (hT : zTx n ch tc mt) {p d : Nat} {ds : Nat → Int32} (hp : p ≤ n) (hd : d ≤ p) : p_Te_readAction (nI n) (nI p) tc (nI d) ds ∧ cAQ d ds (gA (zN n ch) p) (s_Te_readAction (nI n) (nI p) tc (nI d) ds).1 (s_Te_readAction (nI n) (nI p) tc (nI d) ds).2 := by
  have hn := hT.1
  have h127 := zN_lt hT
  have h1' := h127 p
  refine e_Te_readAction (nI n) (nI p) tc (nI d) ds (Q := cAQ d ds (gA (zN n ch) p)) ?_
  have l := f_next hT (p := p) (by omega)
  refine ⟨l.1, fun r1 q => ?_⟩
  rw [l.2] at q
  subst q
  by_cases h64 : zN n ch p = 64
  · have q1 : p < n := zN_p (ch := ch) (by omega)
    refine ⟨fun q => absurd (by rw [h64]; rfl) q, fun _ => ?_⟩
    unfold gA
    rw [if_pos h64, nI_1]
    have g := c_gath hT (p := p + 1) (d := d) (ds := ds) (by omega) (by omega)
    refine ⟨g.1, fun r116 m119 m120 m121 q => ?_⟩
    have g2 := g.2
    rw [q] at g2
    obtain ⟨a, b, c⟩ := g2
    simp only at a b c
    exact ⟨by rw [a]; exact zb_if _, a, b, c⟩
  refine ⟨fun _ => ?_, fun q => absurd ((nI_eq (a := zN n ch p) (b := 64) (by omega) (by omega)).mp q) h64⟩
  have blk : ¬ (117 ≤ zN n ch p ∧ zN n ch p ≤ 122) → p_Te_pass (nI n) (nI p) tc 33 ∧ (∀ (r9 u10 : Int32), s_Te_pass (nI n) (nI p) tc 33 = (r9, u10) → ((¬ r9 = 0) → p_Te_readLevel (nI n) u10 tc (nI d) ds 0 0 ∧ (∀ (r15 m18 m19 : Int32) (m20 : Nat → Int32), s_Te_readLevel (nI n) u10 tc (nI d) ds 0 0 = (r15, m18, m19, m20) → ((¬ r15 = 0) → p_Ru_add m19 m20 (nI (zN n ch p)) ∧ (∀ (m27 : Int32) (m28 : Nat → Int32), s_Ru_add m19 m20 (nI (zN n ch p)) = (m27, m28) → cAQ d ds (gA (zN n ch) p) 1 (m18, m27, m28))) ∧ ((r15 = 0) → cAQ d ds (gA (zN n ch) p) 0 (m18, m19, m20)))) ∧ ((r9 = 0) → p_Te_pass (nI n) u10 tc 63 ∧ (∀ (r30 u31 : Int32), s_Te_pass (nI n) u10 tc 63 = (r30, u31) → ((¬ r30 = 0) → p_Te_readLevel (nI n) u31 tc (nI d) ds 0 0 ∧ (∀ (r36 m39 m40 : Int32) (m41 : Nat → Int32), s_Te_readLevel (nI n) u31 tc (nI d) ds 0 0 = (r36, m39, m40, m41) → ((¬ r36 = 0) → p_Ru_add m40 m41 (nI (zN n ch p)) ∧ (∀ (m48 : Int32) (m49 : Nat → Int32), s_Ru_add m40 m41 (nI (zN n ch p)) = (m48, m49) → cAQ d ds (gA (zN n ch) p) 1 (m39, m48, m49))) ∧ ((r36 = 0) → cAQ d ds (gA (zN n ch) p) 0 (m39, m40, m41)))) ∧ ((r30 = 0) → cAQ d ds (gA (zN n ch) p) 0 (u31, nI d, ds))))) := by
    intro hu
    unfold gA
    rw [if_neg h64, if_neg hu]
    have a := f_pass hT (p := p) (c := 33) (by omega) (by omega)
    refine ⟨a.1, fun r9 u10 q => ?_⟩
    rw [show s_Te_pass (nI n) (nI p) tc 33 = _ from a.2] at q
    have hzx : ∀ c, c = 33 ∨ c = 63 → zxS (c, 0, [], (gE (zN n ch) (p + 1)).2.2) = (gE (zN n ch) (p + 1)).2.2.map zkc ++ [c] := fun c hc => by
      unfold zxS
      rw [if_neg (by simp only; omega), if_neg (by simp only; omega)]
    by_cases h33 : zN n ch p = 33
    · have q1 : p < n := zN_p (ch := ch) (by omega)
      rw [if_pos h33] at q
      cases q
      rw [if_pos (Or.inl h33)]
      exact ⟨fun _ => c_expadd hT (by omega) (by omega) rfl (hzx _ (Or.inl h33)), fun q => absurd q (by decide)⟩
    · rw [if_neg h33] at q
      cases q
      refine ⟨fun q => absurd rfl q, fun _ => ?_⟩
      have a := f_pass hT (p := p) (c := 63) (by omega) (by omega)
      refine ⟨a.1, fun r9 u10 q => ?_⟩
      rw [show s_Te_pass (nI n) (nI p) tc 63 = _ from a.2] at q
      by_cases h63 : zN n ch p = 63
      · have q1 : p < n := zN_p (ch := ch) (by omega)
        rw [if_pos h63] at q
        cases q
        rw [if_pos (Or.inr h63)]
        exact ⟨fun _ => c_expadd hT (by omega) (by omega) rfl (hzx _ (Or.inr h63)), fun q => absurd q (by decide)⟩
      · rw [if_neg h63] at q
        cases q
        rw [if_neg (by omega)]
        exact ⟨fun q => absurd rfl q, fun _ => ⟨rfl, rfl, fun q => absurd q (by simp)⟩⟩
  refine pk_lt (zN n ch p) 117 (fun h => blk (by omega)) (fun h => pk_lt 122 (zN n ch p) (fun h' => blk (by omega)) (fun h' => ?_))
  have q1 : p < n := zN_p (ch := ch) (by omega)
  unfold gA
  rw [if_neg h64, if_pos (by omega), nI_1]
  have a := f_pass hT (p := p + 1) (c := 61) (by omega) (by omega)
  refine ⟨a.1, fun r95 u96 q => ?_⟩
  rw [show s_Te_pass (nI n) (nI (p + 1)) tc 61 = _ from a.2] at q
  by_cases h61 : zN n ch (p + 1) = 61
  · have q2 : p + 1 < n := zN_p (ch := ch) (by omega)
    rw [if_pos h61] at q ⊢
    cases q
    refine ⟨fun _ => c_expadd hT (x := 85 + (zN n ch p - 117)) (by omega) (by omega) ?_ ?_, fun q => absurd q (by decide)⟩
    · have e1 : (85 : Int32) + nI (zN n ch p) = nI (85 + zN n ch p) := nI_add 85 _
      have e2 := pk_sub (a := 85 + zN n ch p) (b := 117) (by omega)
      rw [show 85 + zN n ch p - 117 = 85 + (zN n ch p - 117) by omega] at e2
      rw [e1]
      exact e2
    · rfl
  · rw [if_neg h61] at q ⊢
    cases q
    exact ⟨fun q => absurd rfl q, fun _ => ⟨rfl, rfl, fun q => absurd q (by simp)⟩⟩
end ZCB
