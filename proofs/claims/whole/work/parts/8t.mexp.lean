section ZMX
variable {n : Nat} {ch : Nat → Nat} {tc mt : Nat → Int32}
theorem mE_app {c : Nat → Int32} : ∀ (E U : List zTok) (a : Nat), cE c a E → mE c (a + 2 * E.length) U → mE c a (E ++ U)
  | [], U, a, _, h => h
  | t :: E, U, a, hs, h => ⟨hs.1, hs.2.1, mE_app E U (a + 2) hs.2.2 (by rw [show a + 2 + 2 * E.length = a + 2 * (t :: E).length by simp only [List.length_cons]; omega]; exact h)⟩
/-- an expression, read by the reference -/
theorem m_exp (hT : zTx n ch tc mt) {p a : Nat} {os0 : Int32} {st cm cd op : Nat → Int32} (hp : p ≤ n) (ha : a + 2 * (48 - p) ≤ 1390) :
    p_Mo_expression (nI n) (nI p) (nI a) os0 st cm mt cd op ∧ ∃ (a' os' : Int32) (st' cm' cd' op' : Nat → Int32), s_Mo_expression (nI n) (nI p) (nI a) os0 st cm mt cd op = ((if (gP (zN n ch) 30 0 0 0 p).1 then 1 else 0), nI (gP (zN n ch) 30 0 0 0 p).2.1, a', os', st', cm', cd', op') ∧ (∀ i, i < a → cd' i = cd i) ∧ ((gP (zN n ch) 30 0 0 0 p).1 = true → a' = nI (a + 2 * (gP (zN n ch) 30 0 0 0 p).2.2.length + 2) ∧ mE cd' a (gP (zN n ch) 30 0 0 0 p).2.2) := by
  have hn := hT.1
  have h127 := zN_lt hT
  have hgB := gP_b (n := n) (ch := ch) h127 30 0 0 0 p hp
  have hnx := gP_nx hn h127 30 0 0 p hp
  generalize hR : gP (zN n ch) 30 0 0 0 p = R at *
  obtain ⟨b1, b2, b3, b4⟩ := hgB
  have X := e_Mo_expression (nI n) (nI p) (nI a) os0 st cm mt cd op (Q := fun r x => r = (if R.1 then 1 else 0) ∧ x.1 = nI R.2.1 ∧ (∀ i, i < a → x.2.2.2.2.2.1 i = cd i) ∧ (R.1 = true → x.2.1 = nI (a + 2 * R.2.2.length + 2) ∧ mE x.2.2.2.2.2.1 a R.2.2)) (by
    show WP_Mo_expression_L25 600 (nI 0) (nI 0) 1 (nI n) (nI p) (nI a) (nI 0) (upd st 0 0) (upd cm 0 (vp_nar .boolean 0)) mt cd op _
    refine (kLU (A0 := a) (cd0 := cd) hT 30).1 0 0 p 0 a 0 0 600 _ _ cd op hp (by omega) (by omega) (by omega) (by omega) (if_pos rfl) (by omega) (Or.inl rfl) (by omega) (by omega) (by omega) (Nat.le_refl _) (fun _ _ => rfl) (fun _ => rfl) ?_ ?_
    · rw [hR]
      intro q a' os' st' cm' cd' op' k
      exact ⟨(if_neg q).symm, rfl, k, fun q2 => absurd q2 q⟩
    · rw [hR]
      intro q F' E H st' cm' cd' op' j1 j2 j3 j4 j5 j6 j7 j8 j9 j10 j11
      have hnx := hnx q
      have hlen : E.length + H.length = R.2.2.length := by rw [← j2, List.length_append, List.length_map]
      obtain ⟨F2, rfl⟩ : ∃ F2, F' = F2 + 1 := ⟨F' - 1, by omega⟩
      have hne : lvN (zN n ch R.2.1) = 9 ∨ (lvN (zN n ch R.2.1) = 0 ∧ ¬ cm' 0 = 0) := by
        rcases lv_cases _ (h127 R.2.1) with w | w | w | w
        · exact Or.inr ⟨w, fun e => j11 rfl e w⟩
        · exact absurd w (hnx 1 (by omega) (by omega) (by omega))
        · exact absurd w (hnx 2 (by omega) (by omega) (by omega))
        · exact Or.inl w
      rw [Nat.zero_add]
      refine x_end hT (by omega) hne (by rw [j8 0 (by omega)]; exact if_pos rfl) j3 j4 (by omega) (by omega) (fun cd'' k1 k2 => ?_)
      refine ⟨(if_pos q).symm, rfl, fun i hi => (k2 i (by omega)).trans (j6 i hi), fun _ => ⟨?_, ?_⟩⟩
      · show nI (a + 2 * E.length + 2 * H.length + 2) = _
        congr 1; omega
      · rw [← j2]
        exact mE_app E _ a (cE_congr E a (fun i _ h2 => k2 i h2) j5) k1)
  obtain ⟨t1, t2, t3, t4, t5⟩ := X
  generalize s_Mo_expression (nI n) (nI p) (nI a) os0 st cm mt cd op = x at t2 t3 t4 t5
  obtain ⟨x1, x2, x3, x4, x5, x6, x7, x8⟩ := x
  simp only at t2 t3 t4 t5
  exact ⟨t1, x3, x4, x5, x6, x7, x8, by rw [t2, t3], t4, t5⟩
end ZMX
