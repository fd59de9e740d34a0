/-! the reference reads expressions as gP says -/
theorem zsk_app {op : Nat → Int32} {lo c : Nat} (h0 : op lo = nI c) : ∀ (H : List Nat), zsk op (lo + 1) H → zsk op lo (H ++ [c])
  | [], _ => ⟨h0, trivial⟩
  | x :: H, h => ⟨by
      have := h.1
      rw [show lo + 1 + H.length = lo + (H ++ [c]).length by simp only [List.length_append, List.length_cons, List.length_nil]; omega] at this
      exact this, zsk_app h0 H h.2⟩
section ZMC
variable (n : Nat) (ch : Nat → Nat) (mt : Nat → Int32) (A0 : Nat) (cd0 : Nat → Int32) (Q : Int32 → (Int32 × Int32 × Int32 × (Nat → Int32) × (Nat → Int32) × (Nat → Int32) × (Nat → Int32)) → Prop)
/-- the loop stops, nothing can be read at p -/
def kF (p : Nat) : Prop := ∀ (a' os' : Int32) (st' cm' cd' op' : Nat → Int32), (∀ i, i < A0 → cd' i = cd0 i) → Q 0 (nI p, a', os', st', cm', cd', op')
def kU (f : Nat) : Prop := ∀ (dep p m b a lo s0 F : Nat) (st cm cd op : Nat → Int32), p ≤ n → dep ≤ 5 → b + m ≤ dep → 5 * (5 - dep) + 1 ≤ f → st b = nI s0 → s0 ≤ lo → (lo = s0 ∨ ¬ op (lo - 1) = 0) → (∀ i, i < m → op (lo + i) = 0) → lo + m ≤ p → a + 2 * (lo + m) + 2 * (48 - p) ≤ 1390 → 100 ≤ F + p → A0 ≤ a → (∀ i, i < A0 → cd i = cd0 i) →
  (¬ (gP (zN n ch) f 1 0 dep p).1 = true → kF A0 cd0 Q (gP (zN n ch) f 1 0 dep p).2.1) →
  ((gP (zN n ch) f 1 0 dep p).1 = true → ∀ (F' : Nat) (st' cm' cd' op' : Nat → Int32), 100 ≤ F' + (gP (zN n ch) f 1 0 dep p).2.1 → cE cd' a ((gP (zN n ch) f 1 0 dep p).2.2 ++ List.replicate m (4, 0)) → (∀ i, i < a → cd' i = cd i) → (∀ i, i < lo → op' i = op i) → (∀ i, i ≤ b → st' i = st i) → (∀ i, i ≤ b → cm' i = cm i) → WP_Mo_expression_L25 F' (nI b) (nI (dep - m)) 0 (nI n) (nI (gP (zN n ch) f 1 0 dep p).2.1) (nI (a + 2 * ((gP (zN n ch) f 1 0 dep p).2.2.length + m))) (nI lo) st' cm' mt cd' op' Q) →
  WP_Mo_expression_L25 F (nI b) (nI dep) 1 (nI n) (nI p) (nI a) (nI (lo + m)) st cm mt cd op Q
/-- an operand of level lev has been read: p', its tokens, where the loop stands then -/
def kS (lev dep b a lo : Nat) (st cm cd op : Nat → Int32) (p' : Nat) (T : List zTok) : Prop := ∀ (F' : Nat) (E : List zTok) (H : List Nat) (st' cm' cd' op' : Nat → Int32), 100 ≤ F' + p' → E ++ H.map zot = T → zsk op' lo H → (∀ h ∈ H, zhi lev h) → cE cd' a E → (∀ i, i < a → cd' i = cd i) → (∀ i, i < lo → op' i = op i) → (∀ i, i ≤ b → st' i = st i) → (∀ i, i < b → cm' i = cm i) → (1 ≤ lev → cm' b = cm b) → (lev = 0 → cm' b = 0 → ¬ lvN (zN n ch p') = 0) → WP_Mo_expression_L25 F' (nI b) (nI dep) 0 (nI n) (nI p') (nI (a + 2 * E.length)) (nI (lo + H.length)) st' cm' mt cd' op' Q
def kL (f : Nat) : Prop := ∀ (lev dep p b a lo s0 F : Nat) (st cm cd op : Nat → Int32), p ≤ n → dep ≤ 5 → b ≤ dep → lev ≤ 3 → 5 * (5 - dep) + 1 + (4 - lev) ≤ f → st b = nI s0 → s0 ≤ lo → (lo = s0 ∨ ∃ g, op (lo - 1) = nI g ∧ g < 127 ∧ ¬ lvN g = 9 ∧ lvN g < lev) → lo ≤ p → a + 2 * lo + 2 * (48 - p) ≤ 1390 → 100 ≤ F + p → A0 ≤ a → (∀ i, i < A0 → cd i = cd0 i) → (lev = 0 → cm b = 0) →
  (¬ (gP (zN n ch) f 0 lev dep p).1 = true → kF A0 cd0 Q (gP (zN n ch) f 0 lev dep p).2.1) →
  ((gP (zN n ch) f 0 lev dep p).1 = true → kS n ch mt Q lev dep b a lo st cm cd op (gP (zN n ch) f 0 lev dep p).2.1 (gP (zN n ch) f 0 lev dep p).2.2) →
  WP_Mo_expression_L25 F (nI b) (nI dep) 1 (nI n) (nI p) (nI a) (nI lo) st cm mt cd op Q
end ZMC
section ZMD
variable {n : Nat} {ch : Nat → Nat} {tc mt : Nat → Int32} {A0 : Nat} {cd0 : Nat → Int32} {Q : Int32 → (Int32 × Int32 × Int32 × (Nat → Int32) × (Nat → Int32) × (Nat → Int32) × (Nat → Int32)) → Prop}
theorem kW (hT : zTx n ch tc mt) {f lev dep b a lo s0 p0 : Nat} {st0 cm0 cdb op0 : Nat → Int32} (ih : kL n ch mt A0 cd0 Q f) (hdep : dep ≤ 5) (hb : b ≤ dep) (hlev : lev ≤ 2) (hf : 5 * (5 - dep) + 1 + (4 - (lev + 1)) ≤ f) (hst0 : st0 b = nI s0) (hs0 : s0 ≤ lo) (hlo : lo = s0 ∨ ∃ g, op0 (lo - 1) = nI g ∧ g < 127 ∧ ¬ lvN g = 9 ∧ lvN g < lev) (hlp : lo ≤ p0) (hI : a + 2 * lo + 2 * (48 - p0) ≤ 1390) (hA : A0 ≤ a) (hcd : ∀ i, i < A0 → cdb i = cd0 i) :
    ∀ (m p : Nat) (T E : List zTok) (H : List Nat) (F : Nat) (st cm cd op : Nat → Int32), p ≤ n → p0 ≤ p → T.length + p0 ≤ p → 100 ≤ F + p → E ++ H.map zot = T → zsk op lo H → (∀ h ∈ H, zhi lev h) → cE cd a E → (∀ i, i < a → cd i = cdb i) → (∀ i, i < lo → op i = op0 i) → (∀ i, i ≤ b → st i = st0 i) → (∀ i, i < b → cm i = cm0 i) → (1 ≤ lev → cm b = cm0 b) → (lev = 0 → (0 < m → cm b = 0) ∧ (m ≤ 1) ∧ (m = 0 → ¬ cm b = 0)) →
    (¬ (gW (zN n ch) (gP (zN n ch) f 0 (lev + 1) dep) lev m p T).1 = true → kF A0 cd0 Q (gW (zN n ch) (gP (zN n ch) f 0 (lev + 1) dep) lev m p T).2.1) →
    ((gW (zN n ch) (gP (zN n ch) f 0 (lev + 1) dep) lev m p T).1 = true → kS n ch mt Q lev dep b a lo st0 cm0 cdb op0 (gW (zN n ch) (gP (zN n ch) f 0 (lev + 1) dep) lev m p T).2.1 (gW (zN n ch) (gP (zN n ch) f 0 (lev + 1) dep) lev m p T).2.2) →
    WP_Mo_expression_L25 F (nI b) (nI dep) 0 (nI n) (nI p) (nI (a + 2 * E.length)) (nI (lo + H.length)) st cm mt cd op Q
  | 0, p, T, E, H, F, st, cm, cd, op, hp, hpp, hTl, hF, hET, hz, hh, hE, hc1, ho1, hs1, hm1, hm2, hm3, K0, K1 =>
    K1 rfl F E H st cm cd op hF hET hz hh hE hc1 ho1 hs1 hm1 hm2 (fun e0 q => absurd q ((hm3 e0).2.2 rfl))
  | m + 1, p, T, E, H, F, st, cm, cd, op, hp, hpp, hTl, hF, hET, hz, hh, hE, hc1, ho1, hs1, hm1, hm2, hm3, K0, K1 => by
    have hn := hT.1
    have h127 := zN_lt hT
    have hlen : E.length + H.length = T.length := by rw [← hET, List.length_append, List.length_map]
    unfold gW at K0 K1
    by_cases h1 : lvN (zN n ch p) = lev
    · rw [if_pos h1] at K0 K1
      have hpn : p < n := zN_p (ch := ch) (fun e => by rw [e, lv_0] at h1; omega)
      obtain ⟨F1, rfl⟩ : ∃ F1, F = F1 + 1 := ⟨F - 1, by omega⟩
      have ho2 : lo = s0 ∨ ∃ g, op (lo - 1) = nI g ∧ g < 127 ∧ ¬ lvN g = 9 ∧ lvN g < lev := by
        by_cases e : lo = s0
        · exact Or.inl e
        · rcases hlo with q | ⟨g, g1, g2⟩
          · exact absurd q e
          · exact Or.inr ⟨g, by rw [ho1 (lo - 1) (by omega)]; exact g1, g2⟩
      refine x_op hT (lev := lev) (s0 := s0) (by omega) (by omega) hlev h1 (fun e0 => (hm3 e0).1 (by omega)) (by rw [hs1 b (by omega)]; exact hst0) hs0 ho2 hz hh (by omega) (by omega) (fun cd' k1 k2 => ?_)
      have hEH : cE cd' a (E ++ H.map zot) := cE_more rfl hE k2 k1
      have cb : ∀ i, i < a → cd' i = cdb i := fun i hi => (k2 i (by omega)).trans (hc1 i hi)
      have hcm' : ∀ i, i < b → (if lev = 0 then upd cm b 1 else cm) i = cm i := fun i hi => by
        split
        · simp only [upd]; rw [if_neg (by omega)]
        · rfl
      have hcmb : (lev = 0 → (if lev = 0 then upd cm b 1 else cm) b = 1) ∧ (1 ≤ lev → (if lev = 0 then upd cm b 1 else cm) b = cm b) := by
        refine ⟨fun e => ?_, fun e => ?_⟩
        · rw [if_pos e]; exact if_pos rfl
        · rw [if_neg (by omega)]
      generalize (if lev = 0 then upd cm b 1 else cm) = cm1 at hcm' hcmb ⊢
      have hgB := gP_b (n := n) (ch := ch) h127 f 0 (lev + 1) dep (p + 1) (by omega)
      have hI2 : a + 2 * E.length + 2 * H.length + 2 * (lo + 1) + 2 * (48 - (p + 1)) ≤ 1390 := by clear ho2 hlo; omega
      refine ih (lev + 1) dep (p + 1) b (a + 2 * E.length + 2 * H.length) (lo + 1) s0 F1 st cm1 cd' (upd op lo (nI (zN n ch p))) (by omega) hdep hb (by omega) hf (by rw [hs1 b (by omega)]; exact hst0) (by omega) (Or.inr ⟨zN n ch p, if_pos rfl, h127 p, by omega, by omega⟩) (by omega) hI2 (by omega) (by omega) (fun i hi => (cb i (by omega)).trans (hcd i hi)) (fun e => absurd e (Nat.succ_ne_zero lev)) ?_ ?_
      · intro q
        rw [if_neg q] at K0
        exact K0 (by simp)
      · intro q
        rw [if_pos q] at K0 K1
        intro F' E2 H2 st' cm' cd2 op' j1 j2 j3 j4 j5 j6 j7 j8 j9 j10 j11
        obtain ⟨b1, b2, b3, b4⟩ := hgB
        have := kW hT ih hdep hb hlev hf hst0 hs0 hlo hlp hI hA hcd m _ (T ++ ((gP (zN n ch) f 0 (lev + 1) dep (p + 1)).2.2 ++ [(3, zN n ch p)])) (E ++ H.map zot ++ E2) (H2 ++ [zN n ch p]) F' st' cm' cd2 op' b2 (by omega) (by simp only [List.length_append, List.length_cons, List.length_nil]; omega) j1 (by
            rw [← j2, List.map_append, hET]
            simp only [List.append_assoc, List.map_cons, List.map_nil]
            rfl) (zsk_app (by rw [j7 lo (by omega)]; exact if_pos rfl) H2 j3) (fun h hh2 => by
            rcases List.mem_append.mp hh2 with w | w
            · obtain ⟨w1, w2, w3⟩ := j4 h w
              exact ⟨w1, w2, by omega⟩
            · have : h = zN n ch p := by simpa using w
              rw [this]
              exact ⟨h127 p, by omega, by omega⟩) (cE_more (by rw [List.length_append, List.length_map]; omega) hEH j6 j5) (fun i hi => (j6 i (by omega)).trans (cb i hi)) (fun i hi => by
            rw [j7 i (by omega)]
            simp only [upd]
            rw [if_neg (by omega)]
            exact ho1 i hi) (fun i hi => (j8 i hi).trans (hs1 i hi)) (fun i hi => (j9 i hi).trans ((hcm' i hi).trans (hm1 i hi))) (fun e => (j10 (by omega)).trans ((hcmb.2 e).trans (hm2 e))) (fun e => ⟨fun q => absurd (hm3 e).2.1 (by omega), by have := (hm3 e).2.1; omega, fun _ => by rw [j10 (by omega), hcmb.1 e]; decide⟩) K0 K1
        rw [show a + 2 * E.length + 2 * H.length + 2 * E2.length = a + 2 * (E ++ H.map zot ++ E2).length by simp only [List.length_append, List.length_map]; omega, show lo + 1 + H2.length = lo + (H2 ++ [zN n ch p]).length by simp only [List.length_append, List.length_cons, List.length_nil]; omega]
        exact this
    · rw [if_neg h1] at K0 K1
      exact K1 rfl F E H st cm cd op hF hET hz hh hE hc1 ho1 hs1 hm1 hm2 (fun e0 _ => by rw [← e0]; exact h1)
end ZMD
