/-! one round of the reference's expression loop -/
section ZXS
variable {n : Nat} {ch : Nat → Nat} {tc mt : Nat → Int32} {Q : Int32 → (Int32 × Int32 × Int32 × (Nat → Int32) × (Nat → Int32) × (Nat → Int32) × (Nat → Int32)) → Prop}
/-- an operator is taken -/
theorem x_op (hT : zTx n ch tc mt) {F b D p a lo s0 lev : Nat} {H : List Nat} {st cm cd op : Nat → Int32} (hp : p < 1000) (hb : b < 8) (hlev : lev ≤ 2) (hc : lvN (zN n ch p) = lev) (h0 : lev = 0 → cm b = 0) (hst : st b = nI s0) (hs0 : s0 ≤ lo) (hlo : lo = s0 ∨ ∃ g, op (lo - 1) = nI g ∧ g < 127 ∧ ¬ lvN g = 9 ∧ lvN g < lev) (hs : zsk op lo H) (hh : ∀ h ∈ H, zhi lev h) (h60 : lo + H.length < 60) (ha : a + 2 * H.length ≤ 1400)
    (K : ∀ cd', cE cd' a (H.map zot) → (∀ i, i < a → cd' i = cd i) → WP_Mo_expression_L25 F (nI b) (nI D) 1 (nI n) (nI (p + 1)) (nI (a + 2 * H.length)) (nI (lo + 1)) st (if lev = 0 then upd cm b 1 else cm) mt cd' (upd op lo (nI (zN n ch p))) Q) :
    WP_Mo_expression_L25 (F + 1) (nI b) (nI D) 0 (nI n) (nI p) (nI a) (nI (lo + H.length)) st cm mt cd op Q := by
  have h127 := zN_lt hT p
  have l := f_look hT hp
  have hr : s_Mo_rank (nI (zN n ch p)) = nI (lev + 1) := by rw [f_rank _ h127, if_neg (by omega), hc]
  have i8 : vp_in (nI b) 8 := pk_in b 8 hb
  obtain ⟨w1, cd', w2, w3, w4⟩ := f_write (c := cd) hs0 hlev hlo hs hh (by omega) ha
  have k := K cd' w3 w4
  have clb : (nI b).toNatClampNeg = b := nI_clamp (by omega)
  have cll : (nI lo).toNatClampNeg = lo := nI_clamp (by omega)
  have i60 : vp_in (nI lo) 60 := pk_in lo 60 (by omega)
  refine ⟨l.1, fun r1 q => ?_⟩
  rw [l.2] at q
  subst q
  refine ⟨fun _ r7 q7 => ?_, fun q => absurd rfl q⟩
  rw [hr] at q7
  subst q7
  rw [clb, hst]
  by_cases e0 : lev = 0
  · subst e0
    rw [if_pos rfl] at k
    refine ⟨fun q => absurd q (by decide), fun _ r46 _ => ⟨fun q => absurd rfl q, fun _ => ⟨i8, fun q => absurd (h0 rfl) q, fun _ r115 _ => ⟨i8, i8, fun r122 _ => ⟨w1, fun m1 m2 m3 q => ?_⟩⟩⟩⟩⟩
    rw [w2] at q
    cases q
    rw [cll, nI_1, nI_1]
    exact ⟨i60, k⟩
  · rw [if_neg e0] at k
    have ne1 : ¬ nI (lev + 1) = 1 := fun q => e0 (by have := (nI_eq (a := lev + 1) (b := 1) (by omega) (by omega)).mp q; omega)
    refine ⟨fun _ r13 _ => ⟨fun _ => ⟨i8, fun r20 _ => ⟨w1, fun m1 m2 m3 q => ?_⟩⟩, fun q => absurd q ne1⟩, fun q => absurd (nI_lt (a := 1) (b := lev + 1) (by omega) (by omega)) q⟩
    rw [w2] at q
    cases q
    rw [cll, nI_1, nI_1]
    exact ⟨i60, k⟩
/-- the end of an expression in no parentheses -/
theorem x_end {F D p a : Nat} {H : List Nat} {st cm cd op : Nat → Int32} (hT : zTx n ch tc mt) (hp : p < 1000) (hne : lvN (zN n ch p) = 9 ∨ (lvN (zN n ch p) = 0 ∧ ¬ cm 0 = 0)) (hst : st 0 = nI 0) (hs : zsk op 0 H) (hh : ∀ h ∈ H, zhi 0 h) (h60 : H.length ≤ 60) (ha : a + 2 * H.length + 2 ≤ 1400)
    (K : ∀ cd', mE cd' a (H.map zot) → (∀ i, i < a → cd' i = cd i) → Q 1 (nI p, nI (a + 2 * H.length + 2), nI 0, st, cm, cd', op)) :
    WP_Mo_expression_L25 (F + 1) (nI 0) (nI D) 0 (nI n) (nI p) (nI a) (nI H.length) st cm mt cd op Q := by
  have h127 := zN_lt hT p
  have l := f_look hT hp
  obtain ⟨w1, cd', w2, w3, w4⟩ := f_write (op := op) (s0 := 0) (lo := 0) (v := 0) (a := a) (c := cd) (Nat.le_refl _) (by omega) (Or.inl rfl) hs hh (by omega) (by omega)
  rw [Nat.zero_add] at w1 w2
  have em := f_emit (a := a + 2 * H.length) (by omega) cd' 0 0
  have k := K (upd (upd cd' (a + 2 * H.length) 0) (a + 2 * H.length + 1) 0) (by
    refine mE_of _ _ (cE_congr _ _ (fun i _ h2 => ?_) w3) ?_
    · rw [List.length_map] at h2
      exact em_lt (by omega)
    · rw [List.length_map]
      exact (em_cE (c := cd') (x := 0) (y := 0)).1) (fun i hi => (em_lt (by omega)).trans (w4 i hi))
  have i8 : vp_in (nI 0) 8 := pk_in 0 8 (by omega)
  have fin : p_Mo_emit (nI (a + 2 * H.length)) cd' 0 0 ∧ ∀ (m79 : Int32) (m80 : Nat → Int32), s_Mo_emit (nI (a + 2 * H.length)) cd' 0 0 = (m79, m80) → Q 1 (nI p, m79, nI 0, st, cm, m80, op) := by
    refine ⟨em.1, fun m1 m2 q => ?_⟩
    rw [em.2] at q
    cases q
    exact k
  refine ⟨l.1, fun r1 q => ?_⟩
  rw [l.2] at q
  subst q
  refine ⟨fun _ r7 q7 => ?_, fun q => absurd rfl q⟩
  rw [f_rank _ h127] at q7
  rw [show (nI 0).toNatClampNeg = 0 from rfl, hst]
  rcases hne with h9 | ⟨h0, hc⟩
  · rw [if_pos h9] at q7
    subst q7
    refine ⟨fun q => absurd q (by decide), fun _ r46 _ => ⟨fun _ => ⟨i8, w1, fun m1 m2 m3 q => ?_⟩, fun q => absurd q (by decide)⟩⟩
    rw [show s_Mo_write (nI a) (nI H.length) op cd (nI 0) 1 = _ from w2] at q
    cases q
    exact ⟨fun q => absurd rfl q, fun _ => fin⟩
  · rw [h0, if_neg (by omega)] at q7
    subst q7
    refine ⟨fun q => absurd q (by decide), fun _ r46 _ => ⟨fun q => absurd rfl q, fun _ => ⟨i8, fun _ => ⟨i8, w1, fun m1 m2 m3 q => ?_⟩, fun q => absurd q hc⟩⟩⟩
    rw [show s_Mo_write (nI a) (nI H.length) op cd (nI 0) 1 = _ from w2] at q
    cases q
    exact ⟨fun q => absurd rfl q, fun _ => fin⟩
/-- the end of what stands in parentheses -/
theorem x_close {F b D p a lo m s0 lo2 : Nat} {H : List Nat} {st cm cd op : Nat → Int32} (hT : zTx n ch tc mt) (hp : p < 1000) (hb : b + 1 < 8) (hne : lvN (zN n ch p) = 9 ∨ (lvN (zN n ch p) = 0 ∧ ¬ cm (b + 1) = 0)) (hst : st (b + 1) = nI lo) (hs : zsk op lo H) (hh : ∀ h ∈ H, zhi 0 h) (h60 : lo + H.length ≤ 60) (ha : a + 2 * H.length + 2 * m ≤ 1400)
    (hlo2 : lo = lo2 + m) (hst0 : st b = nI s0) (hs0 : s0 ≤ lo2) (hnz : lo2 = s0 ∨ ¬ op (lo2 - 1) = 0) (hz : ∀ i, i < m → op (lo2 + i) = 0) (hD : m ≤ D)
    (K0 : ¬ zN n ch p = 41 → ∀ cd', (∀ i, i < a → cd' i = cd i) → Q 0 (nI p, nI (a + 2 * H.length), nI lo, st, cm, cd', op))
    (K1 : zN n ch p = 41 → ∀ cd', cE cd' a (H.map zot ++ List.replicate m (4, 0)) → (∀ i, i < a → cd' i = cd i) → WP_Mo_expression_L25 F (nI b) (nI (D - m)) 0 (nI n) (nI (p + 1)) (nI (a + 2 * H.length + 2 * m)) (nI lo2) st cm mt cd' op Q) :
    WP_Mo_expression_L25 (F + 1) (nI (b + 1)) (nI (D + 1)) 0 (nI n) (nI p) (nI a) (nI (lo + H.length)) st cm mt cd op Q := by
  have h127 := zN_lt hT p
  have l := f_look hT hp
  obtain ⟨w1, cd', w2, w3, w4⟩ := f_write (op := op) (s0 := lo) (lo := lo) (v := 0) (a := a) (c := cd) (Nat.le_refl _) (by omega) (Or.inl rfl) hs hh (by omega) (by omega)
  have ps := f_passes hT (p := p) (c := 41) hp (by omega)
  have i8 : vp_in (nI (b + 1)) 8 := pk_in (b + 1) 8 hb
  have i8' : vp_in (nI b) 8 := pk_in b 8 (by omega)
  have eb : nI (b + 1) + (-1) = nI b := pk_m1 b
  have eD : nI (D + 1) + (-1) = nI D := pk_m1 D
  have clb : (nI b).toNatClampNeg = b := nI_clamp (by omega)
  have clb1 : (nI (b + 1)).toNatClampNeg = b + 1 := nI_clamp (by omega)
  obtain ⟨x1, cd2, x2, x3, x4⟩ := f_minus (op := op) (s0 := s0) (lo := lo2) (m := m) (a := a + 2 * H.length) (c := cd') hs0 hnz hz (by omega) (by omega)
  rw [← hlo2] at x1 x2
  have eDm : nI D - nI m = nI (D - m) := pk_sub hD
  have fin : (¬ nI (b + 1) = 0 → p_Mo_passes (nI n) (nI p) mt 41 ∧ ∀ (r62 u63 : Int32), s_Mo_passes (nI n) (nI p) mt 41 = (r62, u63) → ((¬ r62 = 0) → vp_in (nI (b + 1) + (-1)) 8 ∧ p_Mo_writeMinus (nI (a + 2 * H.length)) (nI lo) op cd' (st (nI (b + 1) + (-1)).toNatClampNeg) ∧ (∀ (r69 m72 m73 : Int32) (m74 : Nat → Int32), s_Mo_writeMinus (nI (a + 2 * H.length)) (nI lo) op cd' (st (nI (b + 1) + (-1)).toNatClampNeg) = (r69, m72, m73, m74) → WP_Mo_expression_L25 F (nI (b + 1) + (-1)) ((nI (D + 1) + (-1)) - r69) 0 (nI n) u63 m72 m73 st cm mt m74 op Q)) ∧ ((r62 = 0) → Q 0 (u63, nI (a + 2 * H.length), nI lo, st, cm, cd', op))) ∧ (nI (b + 1) = 0 → False) := by
    refine ⟨fun _ => ⟨ps.1, fun r62 u63 q => ?_⟩, fun q => absurd q (nI_ne0 (by omega) (by omega))⟩
    rw [show s_Mo_passes (nI n) (nI p) mt 41 = _ from ps.2] at q
    rw [eb, eD, clb, hst0]
    by_cases h41 : zN n ch p = 41
    · rw [if_pos h41] at q
      cases q
      refine ⟨fun _ => ⟨i8', x1, fun r69 m72 m73 m74 q => ?_⟩, fun q => absurd q (by decide)⟩
      rw [x2] at q
      cases q
      rw [eDm]
      refine K1 h41 cd2 (cE_more (by rw [List.length_map]) w3 x4 x3) (fun i hi => (x4 i (by omega)).trans (w4 i hi))
    · rw [if_neg h41] at q
      cases q
      exact ⟨fun q => absurd rfl q, fun _ => K0 h41 cd' w4⟩
  refine ⟨l.1, fun r1 q => ?_⟩
  rw [l.2] at q
  subst q
  refine ⟨fun _ r7 q7 => ?_, fun q => absurd rfl q⟩
  rw [f_rank _ h127] at q7
  rw [clb1, hst]
  rcases hne with h9 | ⟨h0, hc⟩
  · rw [if_pos h9] at q7
    subst q7
    refine ⟨fun q => absurd q (by decide), fun _ r46 _ => ⟨fun _ => ⟨i8, w1, fun m1 m2 m3 q => ?_⟩, fun q => absurd q (by decide)⟩⟩
    rw [show s_Mo_write (nI a) (nI (lo + H.length)) op cd (nI lo) 1 = _ from w2] at q
    cases q
    exact ⟨fin.1, fun q => (fin.2 q).elim⟩
  · rw [h0, if_neg (by omega)] at q7
    subst q7
    refine ⟨fun q => absurd q (by decide), fun _ r46 _ => ⟨fun q => absurd rfl q, fun _ => ⟨i8, fun _ => ⟨i8, w1, fun m1 m2 m3 q => ?_⟩, fun q => absurd q hc⟩⟩⟩
    rw [show s_Mo_write (nI a) (nI (lo + H.length)) op cd (nI lo) 1 = _ from w2] at q
    cases q
    exact ⟨fin.1, fun q => (fin.2 q).elim⟩
/-- a number or a name, and the signs that wait before it -/
theorem x_unit {F b D p a lo m s0 p' : Nat} {t : zTok} {st cm cd op : Nat → Int32} (hT : zTx n ch tc mt) (hp : p ≤ n) (hb : b < 8) (ht : (dgN (zN n ch p) = true ∧ p' = (gN (zN n ch) p).1 ∧ t = (1, (gN (zN n ch) p).2)) ∨ (¬ dgN (zN n ch p) = true ∧ nmN (zN n ch p) = true ∧ p' = p + 1 ∧ t = (2, zN n ch p)))
    (hst : st b = nI s0) (hs0 : s0 ≤ lo) (hnz : lo = s0 ∨ ¬ op (lo - 1) = 0) (hz : ∀ i, i < m → op (lo + i) = 0) (h60 : lo + m ≤ 60) (ha : a + 2 + 2 * m ≤ 1400) (hD : m ≤ D)
    (K : ∀ cd', cE cd' a (t :: List.replicate m (4, 0)) → (∀ i, i < a → cd' i = cd i) → WP_Mo_expression_L25 F (nI b) (nI (D - m)) 0 (nI n) (nI p') (nI (a + 2 + 2 * m)) (nI lo) st cm mt cd' op Q) :
    WP_Mo_expression_L25 (F + 1) (nI b) (nI D) 1 (nI n) (nI p) (nI a) (nI (lo + m)) st cm mt cd op Q := by
  have hn := hT.1
  have h127 := zN_lt hT p
  have l := f_look hT (p := p) (by omega)
  have u := m_unit hT (p := p) (a := a) hp (by omega) cd
  have i8 : vp_in (nI b) 8 := pk_in b 8 hb
  have clb : (nI b).toNatClampNeg = b := nI_clamp (by omega)
  have eDm : nI D - nI m = nI (D - m) := pk_sub hD
  obtain ⟨t1, t2⟩ := t
  have u2 : s_Mo_unit (nI n) (nI p) (nI a) mt cd = (1, nI p', nI (a + 2), upd (upd cd a (nI t1)) (a + 1) (nI t2)) := by
    rw [u.2]
    rcases ht with ⟨h1, h2, h3⟩ | ⟨h1, h2, h3, h4⟩
    · rw [if_pos h1, h2]
      cases h3
      rfl
    · rw [if_neg h1, if_pos h2, h3]
      cases h4
      rfl
  obtain ⟨x1, cd2, x2, x3, x4⟩ := f_minus (op := op) (s0 := s0) (lo := lo) (m := m) (a := a + 2) (c := upd (upd cd a (nI t1)) (a + 1) (nI t2)) hs0 hnz hz (by omega) (by omega)
  refine ⟨l.1, fun r1 q => ?_⟩
  rw [l.2] at q
  subst q
  refine ⟨fun q => absurd q (by decide), fun _ => ⟨u.1, fun r134 m137 m138 m139 q => ?_⟩⟩
  rw [u2] at q
  cases q
  refine ⟨fun q => absurd q (by decide), fun _ => ?_⟩
  rw [clb, hst]
  refine ⟨i8, x1, fun r159 m162 m163 m164 q => ?_⟩
  rw [x2] at q
  cases q
  rw [eDm]
  exact K cd2 ⟨(x4 a (by omega)).trans em_cE.1, (x4 (a + 1) (by omega)).trans em_cE.2.1, x3⟩ (fun i hi => (x4 i (by omega)).trans (em_lt hi))
/-- neither: an opening, a sign, or the end of what can be read -/
theorem x_open {F b D p a os : Nat} {st cm cd op : Nat → Int32} (hT : zTx n ch tc mt) (hp : p ≤ n) (hb : b + 1 < 8) (hd : ¬ dgN (zN n ch p) = true) (hnm : ¬ nmN (zN n ch p) = true) (h60 : os < 60) (ha : a + 2 ≤ 1400) (hD : D ≤ 5)
    (K0 : (¬ (zN n ch p = 40 ∨ zN n ch p = 45) ∨ ¬ D < 5) → Q 0 (nI p, nI a, nI os, st, cm, cd, op))
    (K1 : zN n ch p = 40 → D < 5 → WP_Mo_expression_L25 F (nI (b + 1)) (nI (D + 1)) 1 (nI n) (nI (p + 1)) (nI a) (nI os) (upd st (b + 1) (nI os)) (upd cm (b + 1) 0) mt cd op Q)
    (K2 : zN n ch p = 45 → D < 5 → WP_Mo_expression_L25 F (nI b) (nI (D + 1)) 1 (nI n) (nI (p + 1)) (nI a) (nI (os + 1)) st cm mt cd (upd op os 0) Q) :
    WP_Mo_expression_L25 (F + 1) (nI b) (nI D) 1 (nI n) (nI p) (nI a) (nI os) st cm mt cd op Q := by
  have hn := hT.1
  have h127 := zN_lt hT p
  have l := f_look hT (p := p) (by omega)
  have u := m_unit hT (p := p) (a := a) hp (by omega) cd
  rw [if_neg hd, if_neg hnm] at u
  have i8 : vp_in (nI (b + 1)) 8 := pk_in (b + 1) 8 hb
  have i60 : vp_in (nI os) 60 := pk_in os 60 h60
  refine ⟨l.1, fun r1 q => ?_⟩
  rw [l.2] at q
  subst q
  refine ⟨fun q => absurd q (by decide), fun _ => ⟨u.1, fun r134 m137 m138 m139 q => ?_⟩⟩
  rw [u.2] at q
  cases q
  refine ⟨fun _ => ?_, fun q => absurd rfl q⟩
  rw [nI_1, nI_1, nI_1, nI_1, nI_clamp (by omega), nI_clamp (by omega)]
  refine pk_eq (zN n ch p) 40 (fun h => ?_) (fun h => ?_)
  · refine ⟨fun q => ⟨fun _ => ⟨i8, i8, ?_⟩, fun q2 => absurd ((nI_eq (a := zN n ch p) (b := 45) (by omega) (by omega)).mp q2) (by omega)⟩, fun q => K0 (Or.inr ?_)⟩
    · refine K1 h ?_
      have : ¬ D = 5 := fun e => q (by rw [e]; rfl)
      omega
    · have := (nI_eq (a := D) (b := 5) (by omega) (by omega)).mp q
      omega
  · refine ⟨fun q => K0 (Or.inl (fun h2 => ?_)), fun q => ⟨fun q2 => ⟨i60, ?_⟩, fun q2 => K0 (Or.inr ?_)⟩⟩
    · rcases h2 with h2 | h2
      · exact h h2
      · exact q (by rw [h2]; rfl)
    · refine K2 ((nI_eq (a := zN n ch p) (b := 45) (by omega) (by omega)).mp q) ?_
      have : ¬ D = 5 := fun e => q2 (by rw [e]; rfl)
      omega
    · have := (nI_eq (a := D) (b := 5) (by omega) (by omega)).mp q2
      omega
end ZXS
