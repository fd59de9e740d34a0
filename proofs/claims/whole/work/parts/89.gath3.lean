theorem rG1_frame {B B' g : Nat} {sz : Int32} {ks vs bs mks mk mc mb mks' mk' mc' mb' : Nat → Int32} {le gr su ms ml mg ms' ml' mg' : Nat → UInt64} (h : rG1 B g sz ks le gr su vs bs mks mk mc mb ms ml mg) (hB : B ≤ B') (h0 : mks' g = mks g) (h1 : ∀ r, r < 4 → mk' (4 * g + r) = mk (4 * g + r) ∧ mc' (4 * g + r) = mc (4 * g + r) ∧ ms' (4 * g + r) = ms (4 * g + r) ∧ ml' (4 * g + r) = ml (4 * g + r) ∧ mg' (4 * g + r) = mg (4 * g + r) ∧ ∀ b, b < 8 → mb' (8 * (4 * g + r) + b) = mb (8 * (4 * g + r) + b)) :
    rG1 B' g sz ks le gr su vs bs mks' mk' mc' mb' ms' ml' mg' := by
  obtain ⟨z, a1, a2, a3, a4, a5⟩ := h
  refine ⟨z, a1, a2, h0.trans a3, fun r hr => ?_, fun r hr hr4 => ?_⟩
  · obtain ⟨b1, b2, b3, b4, ⟨c, c1, c2, c3, c4⟩, b6, b7⟩ := a4 r hr
    obtain ⟨d1, d2, d3, d4, d5, d6⟩ := h1 r (by omega)
    exact ⟨b1.trans d1.symm, b2.trans d3.symm, b3.trans d4.symm, b4.trans d5.symm, ⟨c, c1, by omega, c3, d2.trans c4⟩, b6, fun b hb => (b7 b hb).trans (d6 b hb).symm⟩
  · obtain ⟨b1, b2, b3, b4⟩ := a5 r hr hr4
    obtain ⟨d1, d2, d3, d4, d5, d6⟩ := h1 r hr4
    exact ⟨b1, b2, d2.trans b3, fun b hb => ⟨(b4 b hb).1, (d6 b hb).trans (b4 b hb).2⟩⟩
theorem g_gather {B g : Nat} {sz : Nat → Int32} {ks vs bs : Nat → Nat → Int32} {le gr su : Nat → Nat → UInt64} {mks mk mc mb : Nat → Int32} {ms ml mg : Nat → UInt64} (hG : rG B sz ks le gr su vs bs mks mk mc mb ms ml mg) (hg : g < 3) (hB : B + 1 < 2 ^ 30) {v : UInt64} (kx : UInt64) (hv : zg v) (dr mdr : Int32) :
    p_Mo_gather mdr 0 mks mk ms ml mg mc mb (nI g) (FP.d2i kx) v ∧
    ∃ (sz' : Int32) (k' : Nat → Int32) (su' : Nat → UInt64) (vs' bs' : Nat → Int32) (le' gr' : Nat → UInt64) (dr' ov' fl' mdr' mfl' : Int32) (mks' mk' : Nat → Int32) (ms' ml' mg' : Nat → UInt64) (mc' mb' : Nat → Int32),
      (∀ (S : List UInt64) (st : Nat → UInt64), zst st (v :: kx :: S) → S.length + 2 ≤ 48 → p_Rn_gather (sz g) (ks g) (su g) (vs g) (bs g) (le g) (gr g) dr (nI (S.length + 2)) 0 0 st ∧ s_Rn_gather (sz g) (ks g) (su g) (vs g) (bs g) (le g) (gr g) dr (nI (S.length + 2)) 0 0 st = (sz', k', su', vs', bs', le', gr', dr', nI S.length, ov', fl')) ∧
      s_Mo_gather mdr 0 mks mk ms ml mg mc mb (nI g) (FP.d2i kx) v = (mdr', mfl', mks', mk', ms', ml', mg', mc', mb') ∧
      rG (B + 1) (va_up sz g sz') (va_up ks g k') (va_up le g le') (va_up gr g gr') (va_up su g su') (va_up vs g vs') (va_up bs g bs') mks' mk' mc' mb' ms' ml' mg' ∧ (dr = mdr → dr' = mdr') ∧ ((ov' = 0 ∧ fl' = 0 ∧ mfl' = 0) ∨ (ov' = 1 ∧ fl' = 1 ∧ mfl' = 1)) := by
  have hG0 := hG g hg
  obtain ⟨z, a1, a2, a3, a4, a5⟩ := hG0
  obtain ⟨b, hb, hb1, hb2⟩ := bin_eq (zg_n hv)
  have same : rG (B + 1) (va_up sz g (nI z)) (va_up ks g (ks g)) (va_up le g (le g)) (va_up gr g (gr g)) (va_up su g (su g)) (va_up vs g (vs g)) (va_up bs g (bs g)) mks mk mc mb ms ml mg := by
    intro g' hg'
    have := rG1_frame (hG g' hg') (Nat.le_succ B) (rfl : mks g' = mks g') (fun r _ => ⟨rfl, rfl, rfl, rfl, rfl, fun _ _ => rfl⟩)
    by_cases e : g' = g
    · subst e
      simp only [va_up, if_true, ← a2]
      exact this
    · simp only [va_up, if_neg e]
      exact this
  rcases zfs_or (ks g) (FP.d2i kx) z with ⟨r, hr⟩ | hm
  · have hr1 := hr.1
    obtain ⟨c1, c2, c3, c4, ⟨c, d1, d2, d3, d4⟩, c6, c7⟩ := a4 r hr1
    have hr' : zfs (fun i => mk (4 * g + i)) z (FP.d2i kx) r := ⟨hr1, by show mk (4 * g + r) = _; rw [← c1]; exact hr.2.1, fun i hi => by show ¬ mk (4 * g + i) = _; rw [← (a4 i (by omega)).1]; exact hr.2.2 i hi⟩
    have A := fun (S : List UInt64) (st : Nat → UInt64) (hS : zst st (v :: kx :: S)) (hl : S.length + 2 ≤ 48) => cg_row (su := su g) (le := le g) (gr := gr g) (bs := bs g) (dr := dr) (ov := 0) (fl := 0) hS hl (by omega) d3 (by omega) hv c6 hb hb1 (rowFor_hit a1 hr)
    have M := mg_hit (su := ms) (cn := mc) (bi := mb) (le := ml) (gr := mg) (dr := mdr) (fl := 0) hg a1 a3 hr' hv (by rw [← c2]; exact c6) hb hb2
    rw [← a2] at A
    rw [← a2] at same
    refine ⟨M.1, ?_⟩
    rw [← c2] at M
    rcases M.2 with ⟨x1, y2⟩ | ⟨x1, y2⟩
    · have x2 := fun (S : List UInt64) (st : Nat → UInt64) (hS : zst st (v :: kx :: S)) (hl : S.length + 2 ≤ 48) => And.intro (A S st hS hl).1 ((A S st hS hl).2.elim (fun q => q.2) (fun q => by rw [x1] at q; exact absurd q.1 (by simp)))
      · refine ⟨_, _, _, _, _, _, _, _, _, _, _, _, _, _, _, _, _, _, _, x2, y2, ?_, fun q => q, Or.inl ⟨rfl, rfl, rfl⟩⟩
        intro g' hg'
        by_cases e : g' = g
        · subst e
          simp only [va_up, if_true]
          refine ⟨z, a1, a2, a3, fun r' hr' => ?_, fun r' h1 h2 => ?_⟩
          · by_cases er : r' = r
            · subst er
              have hc0 : ¬ c = 0 := by omega
              refine ⟨c1, ?_, ?_, ?_, ⟨c + 1, by omega, by omega, if_pos rfl, ?_⟩, ?_, fun b' hb' => ?_⟩
              · simp only [vf_upd, if_true]
              · simp only [vf_upd, if_true, hc0, false_or, ← c3]
                split <;> simp_all [vf_upd]
              · simp only [vf_upd, if_true, hc0, false_or, ← c4]
                split <;> simp_all [vf_upd]
              · simp only [upd, if_true, d4, nI_1]
              · simp only [vf_upd, if_true]
                exact zbd_g (z64_add c6 hv) x1
              · simp only [upd]
                by_cases eb : b' = b
                · subst eb
                  rw [if_pos rfl, if_pos rfl, c7 b' hb']
                · rw [if_neg (by omega), if_neg (by omega)]
                  exact c7 b' hb'
            · obtain ⟨c1', c2', c3', c4', ⟨cc, d1', d2', d3', d4'⟩, c6', c7'⟩ := a4 r' hr'
              have n1 : ¬ 4 * g' + r' = 4 * g' + r := by omega
              refine ⟨c1', ?_, ?_, ?_, ⟨cc, by omega, by omega, ?_, ?_⟩, ?_, fun b' hb' => ?_⟩
              · simp only [vf_upd, if_neg er, if_neg n1]; exact c2'
              · simp only [vf_upd, if_neg er]
                split
                · exact c3'
                · show le g' r' = vf_upd ml (4 * g' + r) v (4 * g' + r')
                  simp only [vf_upd, if_neg n1]; exact c3'
              · simp only [vf_upd, if_neg er]
                split
                · exact c4'
                · show gr g' r' = vf_upd mg (4 * g' + r) v (4 * g' + r')
                  simp only [vf_upd, if_neg n1]; exact c4'
              · simp only [upd, if_neg er]; exact d3'
              · simp only [upd, if_neg n1]; exact d4'
              · simp only [vf_upd, if_neg er]; exact c6'
              · simp only [upd]
                rw [if_neg (by omega), if_neg (by omega)]
                exact c7' b' hb'
          · obtain ⟨e1, e2, e3, e4⟩ := a5 r' h1 h2
            have er : ¬ r' = r := by omega
            have n1 : ¬ 4 * g' + r' = 4 * g' + r := by omega
            refine ⟨?_, ?_, ?_, fun b' hb' => ?_⟩
            · simp only [vf_upd, if_neg er]; exact e1
            · simp only [upd, if_neg er]; exact e2
            · simp only [upd, if_neg n1]; exact e3
            · simp only [upd]
              rw [if_neg (by omega), if_neg (by omega)]
              exact e4 b' hb'
        · simp only [va_up, if_neg e]
          refine rG1_frame (hG g' hg') (Nat.le_succ B) rfl (fun r' hr' => ⟨rfl, ?_, ?_, ?_, ?_, fun b' hb' => ?_⟩)
          · simp only [upd]; rw [if_neg (by omega)]
          · simp only [vf_upd]; rw [if_neg (by omega)]
          · split
            · rfl
            · simp only [vf_upd]; rw [if_neg (by omega)]
          · split
            · rfl
            · simp only [vf_upd]; rw [if_neg (by omega)]
          · simp only [upd]; rw [if_neg (by omega)]
    · have x2 := fun (S : List UInt64) (st : Nat → UInt64) (hS : zst st (v :: kx :: S)) (hl : S.length + 2 ≤ 48) => And.intro (A S st hS hl).1 ((A S st hS hl).2.elim (fun q => by rw [x1] at q; exact absurd q.1 (by simp)) (fun q => q.2))
      · exact ⟨_, _, _, _, _, _, _, _, _, _, _, _, _, _, _, _, _, _, _, x2, y2, same, fun q => q, Or.inr ⟨rfl, rfl, rfl⟩⟩
  · have hm' : ∀ i, i < z → ¬ mk (4 * g + i) = FP.d2i kx := fun i hi => by rw [← (a4 i hi).1]; exact hm i hi
    by_cases hz4 : z = 4
    · subst hz4
      have A := fun (S : List UInt64) (st : Nat → UInt64) (hS : zst st (v :: kx :: S)) (hl : S.length + 2 ≤ 48) => cg_full (su := su g) (le := le g) (gr := gr g) (vs := vs g) (bs := bs g) (dr := dr) (ov := 0) (fl := 0) hS hl (rowFor_full hm)
      have M := mg_full (su := ms) (le := ml) (gr := mg) (cn := mc) (bi := mb) (dr := mdr) (fl := 0) (v := v) hg a3 hm'
      rw [← a2] at A
      rw [← a2] at same
      exact ⟨M.1, _, _, _, _, _, _, _, _, _, _, _, _, _, _, _, _, _, _, _, A, M.2, same, fun q => by rw [q], Or.inl ⟨rfl, rfl, rfl⟩⟩
    · have hz : z < 4 := by omega
      obtain ⟨e1, e2, e3, e4⟩ := a5 z (Nat.le_refl _) hz
      have A := fun (S : List UInt64) (st : Nat → UInt64) (hS : zst st (v :: kx :: S)) (hl : S.length + 2 ≤ 48) => cg_row (su := su g) (le := le g) (gr := gr g) (bs := bs g) (dr := dr) (ov := 0) (fl := 0) (c := 0) hS hl hz e2 (by omega) hv (by rw [e1]; exact zg_0) hb hb1 (rowFor_new hz hm)
      have M := mg_new (su := ms) (le := ml) (gr := mg) (cn := mc) (bi := mb) (dr := mdr) (fl := 0) hg hz a3 hm' hv hb hb2
      rw [← a2] at A
      refine ⟨M.1, ?_⟩
      rw [e1] at A
      have z0 : FP.dadd 0 v = FP.dadd FP.dconst0 v := rfl
      have x2 := fun (S : List UInt64) (st : Nat → UInt64) (hS : zst st (v :: kx :: S)) (hl : S.length + 2 ≤ 48) => And.intro (A S st hS hl).1 ((A S st hS hl).2.elim (fun q => q.2) (fun q => by rw [z0, zg_zbd (zg_add0 hv)] at q; exact absurd q.1 (by simp)))
      · refine ⟨_, _, _, _, _, _, _, _, _, _, _, _, _, _, _, _, _, _, _, x2, M.2, ?_, fun q => q, Or.inl ⟨rfl, rfl, rfl⟩⟩
        intro g' hg'
        by_cases e : g' = g
        · subst e
          simp only [va_up, if_true]
          refine ⟨z + 1, by omega, rfl, if_pos rfl, fun r' hr' => ?_, fun r' h1 h2 => ?_⟩
          · by_cases er : r' = z
            · subst er
              refine ⟨?_, ?_, ?_, ?_, ⟨1, by omega, by omega, if_pos rfl, ?_⟩, ?_, fun b' hb' => ?_⟩
              · simp only [upd, if_true]
              · simp only [vf_upd, if_true]; exact z0
              · simp only [vf_upd, if_true, true_or]
              · simp only [vf_upd, if_true, true_or]
              · simp only [upd, if_true, e3]; rfl
              · simp only [vf_upd, if_true]
                rw [z0]
                exact zg_add0 hv
              · simp only [upd]
                by_cases eb : b' = b
                · subst eb
                  rw [if_pos rfl, if_pos rfl, (e4 b' hb').1, (e4 b' hb').2]
                · rw [if_neg (by omega), if_neg (by omega), (e4 b' hb').1, (e4 b' hb').2]
            · obtain ⟨c1', c2', c3', c4', ⟨cc, d1', d2', d3', d4'⟩, c6', c7'⟩ := a4 r' (by omega)
              have n1 : ¬ 4 * g' + r' = 4 * g' + z := by omega
              refine ⟨?_, ?_, ?_, ?_, ⟨cc, by omega, by omega, ?_, ?_⟩, ?_, fun b' hb' => ?_⟩
              · simp only [upd, if_neg er, if_neg n1]; exact c1'
              · simp only [vf_upd, if_neg er, if_neg n1]; exact c2'
              · simp only [vf_upd, if_neg er, if_neg n1]; exact c3'
              · simp only [vf_upd, if_neg er, if_neg n1]; exact c4'
              · simp only [upd, if_neg er]; exact d3'
              · simp only [upd, if_neg n1]; exact d4'
              · simp only [vf_upd, if_neg er]; exact c6'
              · simp only [upd]
                rw [if_neg (by omega), if_neg (by omega)]
                exact c7' b' hb'
          · obtain ⟨f1, f2, f3, f4⟩ := a5 r' (by omega) h2
            have er : ¬ r' = z := by omega
            have n1 : ¬ 4 * g' + r' = 4 * g' + z := by omega
            refine ⟨?_, ?_, ?_, fun b' hb' => ?_⟩
            · simp only [vf_upd, if_neg er]; exact f1
            · simp only [upd, if_neg er]; exact f2
            · simp only [upd, if_neg n1]; exact f3
            · simp only [upd]
              rw [if_neg (by omega), if_neg (by omega)]
              exact f4 b' hb'
        · simp only [va_up, if_neg e]
          refine rG1_frame (hG g' hg') (Nat.le_succ B) (if_neg e) (fun r' hr' => ⟨?_, ?_, ?_, ?_, ?_, fun b' hb' => ?_⟩)
          · simp only [upd]; rw [if_neg (by omega)]
          · simp only [upd]; rw [if_neg (by omega)]
          · simp only [vf_upd]; rw [if_neg (by omega)]
          · simp only [vf_upd]; rw [if_neg (by omega)]
          · simp only [vf_upd]; rw [if_neg (by omega)]
          · simp only [upd]; rw [if_neg (by omega)]
