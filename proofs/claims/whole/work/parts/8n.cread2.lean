section ZCL
variable {n : Nat} {ch : Nat → Nat} {tc mt : Nat → Int32}
theorem sE_more {s s' : Nat → Int32} {L M : List Nat} {o d : Nat} (hd : o + L.length = d) (hs : sE s o L) (he : ∀ i, i < d → s' i = s i) (hm : sE s' d M) : sE s' o (L ++ M) := by
  rw [sE_app, hd]
  exact ⟨sE_congr L o (fun i _ h2 => he i (by omega)) hs, hm⟩
theorem f_lev_eq {c lev : Nat} (hc : c < 127) (hlev : lev ≤ 2) : (s_Te_levelOf (nI c) = nI lev) ↔ lvN c = lev := by
  rw [f_lev c hc]
  rcases lv_cases c hc with h | h | h | h <;> rw [h]
  · rw [if_neg (by omega)]; exact nI_eq (by omega) (by omega)
  · rw [if_neg (by omega)]; exact nI_eq (by omega) (by omega)
  · rw [if_neg (by omega)]; exact nI_eq (by omega) (by omega)
  · rw [if_pos rfl]
    refine iff_of_false (fun q => ?_) (by omega)
    have : ¬ nI lev < 0 := nI_pos (by omega)
    rw [← q] at this
    exact this (by decide)
theorem c_loop (hT : zTx n ch tc mt) {rd : zRD} {prd : zRP} {f lev dep : Nat} (hlev : lev ≤ 2) (hs : ∀ (q d : Nat) (ds : Nat → Int32), q ≤ n → d ≤ q → cOk tc n rd prd 0 q d ds (nI (lev + 1)) (nI dep) (gP (zN n ch) f 0 (lev + 1) dep q)) :
    ∀ (m k F p d0 : Nat) (T : List zTok) (ds ds0 : Nat → Int32), k + m < 100 → p ≤ n → d0 + T.length ≤ p → sE ds d0 (T.map zkc) → (∀ i, i < d0 → ds i = ds0 i) → WP_Te_readLevel_L38 rd prd (F + m + 1) (nI lev) (nI dep) (nI (k + m)) (nI k) (nI n) (nI p) tc (nI (d0 + T.length)) ds (cQ d0 ds0 (gW (zN n ch) (gP (zN n ch) f 0 (lev + 1) dep) lev m p T))
  | 0, k, F, p, d0, T, ds, ds0, hk, hp, hd, h1, h2 => pk_le k k (fun _ => ⟨rfl, rfl, rfl, h1, h2⟩) (fun q => absurd q (by omega))
  | m + 1, k, F, p, d0, T, ds, ds0, hk, hp, hd, h1, h2 => by
    have hn := hT.1
    have h127 := zN_lt hT
    have a := f_next hT (p := p) (by omega)
    show WP_Te_readLevel_L38 rd prd (F + m + 1 + 1) _ _ _ _ _ _ _ _ _ _
    refine pk_le (k + (m + 1)) k (fun q => absurd q (by omega)) (fun _ => ⟨a.1, fun r23 q => ?_⟩)
    rw [a.2] at q
    subst q
    intro r27 q27
    subst q27
    unfold gW
    by_cases hl : lvN (zN n ch p) = lev
    · rw [if_pos hl]
      have hop := lv_Op _ (h127 p) (by omega)
      have hpn : p < n := zN_p (ch := ch) (fun e => by rw [e, lv_0] at hl; omega)
      refine ⟨fun q => absurd ((f_lev_eq (h127 p) hlev).mpr hl) q, fun _ => ⟨a.1, fun r33 _ => ?_⟩⟩
      rw [nI_1, nI_1]
      have hb := gP_b (n := n) (ch := ch) h127 f 0 (lev + 1) dep (p + 1) (by omega)
      refine (hs (p + 1) (d0 + T.length) ds (by omega) (by omega)).use (P := fun r37 m40 m41 m42 => ((¬ r37 = 0) → p_Ru_add m41 m42 (nI (zN n ch p)) ∧ (∀ (m49 : Int32) (m50 : Nat → Int32), s_Ru_add m41 m42 (nI (zN n ch p)) = (m49, m50) → WP_Te_readLevel_L38 rd prd (F + m + 1) (nI lev) (nI dep) (nI (k + (m + 1))) (nI k + (1 : Int32)) (nI n) m40 tc m49 m50 (cQ d0 ds0 _))) ∧ ((r37 = 0) → cQ d0 ds0 _ (0 : Int32) (m40, m41, m42))) (fun ds' e1 e2 => ?_)
      have e3 := sE_more (M := ((gP (zN n ch) f 0 (lev + 1) dep (p + 1)).2.2.map zkc)) (by rw [List.length_map]) h1 e2 e1
      have e4 : ∀ i, i < d0 → ds' i = ds0 i := fun i hi => (e2 i (by omega)).trans (h2 i hi)
      by_cases h6 : (gP (zN n ch) f 0 (lev + 1) dep (p + 1)).1 = true
      · rw [if_pos h6, if_pos h6]
        refine ⟨fun _ => ?_, fun q => absurd q (by decide)⟩
        obtain ⟨b1, b2, b3, b4⟩ := hb
        have c := f_ruadd (d := d0 + T.length + (gP (zN n ch) f 0 (lev + 1) dep (p + 1)).2.2.length) (by omega) ds' (nI (zN n ch p))
        refine ⟨c.1, fun m49 m50 q => ?_⟩
        rw [c.2] at q
        cases q
        have ih := c_loop hT hlev hs m (k + 1) F (gP (zN n ch) f 0 (lev + 1) dep (p + 1)).2.1 d0 (T ++ ((gP (zN n ch) f 0 (lev + 1) dep (p + 1)).2.2 ++ [(3, zN n ch p)])) (upd ds' (d0 + T.length + (gP (zN n ch) f 0 (lev + 1) dep (p + 1)).2.2.length) (nI (zN n ch p))) ds0 (by omega) b2 (by simp only [List.length_append, List.length_cons, List.length_nil]; omega) (by
          rw [← List.append_assoc, List.map_append, List.map_append]
          exact sE_snoc (x := zN n ch p) (by simp only [List.length_append, List.length_map]; omega) e3) (fun i hi => by
          simp only [upd]
          rw [if_neg (by omega)]
          exact e4 i hi)
        rw [nI_1, show k + (m + 1) = k + 1 + m by omega, show d0 + T.length + (gP (zN n ch) f 0 (lev + 1) dep (p + 1)).2.2.length + 1 = d0 + (T ++ ((gP (zN n ch) f 0 (lev + 1) dep (p + 1)).2.2 ++ [(3, zN n ch p)])).length by simp only [List.length_append, List.length_cons, List.length_nil]; omega]
        exact ih
      · rw [if_neg h6, if_neg h6]
        refine ⟨fun q => absurd rfl q, fun _ => ⟨rfl, rfl, by simp only [List.length_append]; rw [Nat.add_assoc], ?_, e4⟩⟩
        rw [List.map_append]
        exact e3
    · rw [if_neg hl]
      exact ⟨fun _ => ⟨rfl, rfl, rfl, h1, h2⟩, fun q => absurd ((f_lev_eq (h127 p) hlev).mp q) hl⟩
theorem c_rd (hT : zTx n ch tc mt) : ∀ (f : Nat), (∀ (lev dep p d : Nat) (ds : Nat → Int32), p ≤ n → d ≤ p → lev ≤ 3 → dep ≤ 5 → 5 * (5 - dep) + 1 + (4 - lev) ≤ f → cOk tc n (s_Te_rd f) (p_Te_rd f) 0 p d ds (nI lev) (nI dep) (gP (zN n ch) f 0 lev dep p)) ∧ (∀ (dep p d : Nat) (ds : Nat → Int32), p ≤ n → d ≤ p → dep ≤ 5 → 5 * (5 - dep) + 1 ≤ f → cOk tc n (s_Te_rd f) (p_Te_rd f) 1 p d ds (nI dep) 0 (gP (zN n ch) f 1 0 dep p))
  | 0 => ⟨fun lev dep p d ds _ _ _ _ h => absurd h (by omega), fun dep p d ds _ _ _ h => absurd h (by omega)⟩
  | f + 1 => by
    have h127 := zN_lt hT
    have hn := hT.1
    obtain ⟨ihL, ihU⟩ := c_rd hT f
    refine ⟨fun lev dep p d ds hp hd hlev hdep hf => ?_, fun dep p d ds hp hd hdep hf => ?_⟩
    · show pR_Te_readLevel (s_Te_rd f) (p_Te_rd f) (nI n) (nI p) tc (nI d) ds (nI lev) (nI dep) ∧ cQ d ds _ (sR_Te_readLevel (s_Te_rd f) (nI n) (nI p) tc (nI d) ds (nI lev) (nI dep)).1 (sR_Te_readLevel (s_Te_rd f) (nI n) (nI p) tc (nI d) ds (nI lev) (nI dep)).2
      refine e_Te_readLevel (s_Te_rd f) (p_Te_rd f) (nI n) (nI p) tc (nI d) ds (nI lev) (nI dep) (Q := cQ d ds (gP (zN n ch) (f + 1) 0 lev dep p)) ?_
      unfold gP
      rw [if_pos rfl]
      refine pk_le lev 2 (fun h => ?_) (fun h => ?_)
      · rw [if_neg (by omega), nI_1]
        have hb := gP_b (n := n) (ch := ch) h127 f 0 (lev + 1) dep p hp
        refine (ihL (lev + 1) dep p d ds hp hd (by omega) hdep (by omega)).use (P := fun r3 m6 m7 m8 => ((¬ r3 = 0) → ((¬ nI lev = 0) → WP_Te_readLevel_L38 (s_Te_rd f) (p_Te_rd f) 600 (nI lev) (nI dep) (48 : Int32) (0 : Int32) (nI n) m6 tc m7 m8 (cQ d ds _)) ∧ ((nI lev = 0) → WP_Te_readLevel_L38 (s_Te_rd f) (p_Te_rd f) 600 (nI lev) (nI dep) (1 : Int32) (0 : Int32) (nI n) m6 tc m7 m8 (cQ d ds _))) ∧ ((r3 = 0) → cQ d ds _ (0 : Int32) (m6, m7, m8))) (fun ds' e1 e2 => ?_)
        obtain ⟨b1, b2, b3, b4⟩ := hb
        by_cases h6 : (gP (zN n ch) f 0 (lev + 1) dep p).1 = true
        · rw [if_pos h6, if_pos h6]
          refine ⟨fun _ => ⟨fun q => ?_, fun q => ?_⟩, fun q => absurd q (by decide)⟩
          · have hl0 : ¬ lev = 0 := fun e => q (by rw [e]; rfl)
            rw [if_neg hl0]
            exact c_loop hT h (fun q d ds hq hd => ihL (lev + 1) dep q d ds hq hd (by omega) hdep (by omega)) 48 0 551 _ d _ ds' ds (by omega) b2 (by omega) e1 e2
          · have hl0 : lev = 0 := (nI_eq (a := lev) (b := 0) (by omega) (by omega)).mp q
            rw [if_pos hl0]
            exact c_loop hT h (fun q d ds hq hd => ihL (lev + 1) dep q d ds hq hd (by omega) hdep (by omega)) 1 0 598 _ d _ ds' ds (by omega) b2 (by omega) e1 e2
        · rw [if_neg h6, if_neg h6]
          exact ⟨fun q => absurd rfl q, fun _ => ⟨rfl, rfl, rfl, e1, e2⟩⟩
      · rw [if_pos h]
        refine (ihU dep p d ds hp hd hdep (by omega)).use (P := fun r14 m17 m18 m19 => zb r14 ∧ cQ d ds _ r14 (m17, m18, m19)) (fun ds' e1 e2 => ⟨zb_if _, rfl, rfl, rfl, e1, e2⟩)
    · show pR_Te_readUnit (s_Te_rd f) (p_Te_rd f) (nI n) (nI p) tc (nI d) ds (nI dep) ∧ cQ d ds _ (sR_Te_readUnit (s_Te_rd f) (nI n) (nI p) tc (nI d) ds (nI dep)).1 (sR_Te_readUnit (s_Te_rd f) (nI n) (nI p) tc (nI d) ds (nI dep)).2
      refine e_Te_readUnit (s_Te_rd f) (p_Te_rd f) (nI n) (nI p) tc (nI d) ds (nI dep) (Q := cQ d ds (gP (zN n ch) (f + 1) 1 0 dep p)) ?_
      unfold gP
      rw [if_neg (by omega)]
      exact c_unit hT hp hd hdep (fun h5 q d ds hq hd => ihL 0 (dep + 1) q d ds hq hd (by omega) (by omega) (by omega)) (fun h5 q d ds hq hd => ihU (dep + 1) q d ds hq hd (by omega) (by omega))
/-- an expression, read by the class -/
theorem c_exp (hT : zTx n ch tc mt) {p d : Nat} {ds : Nat → Int32} (hp : p ≤ n) (hd : d ≤ p) : cOk tc n (fun _ => s_Te_readLevel) (fun _ => p_Te_readLevel) 0 p d ds 0 0 (gP (zN n ch) 30 0 0 0 p) := (c_rd hT 30).1 0 0 p d ds hp hd (by omega) (by omega) (by omega)
end ZCL
