theorem f_add {vs bs : Nat → Int32} {su le gr : Nat → UInt64} {r c b : Nat} {v : UInt64} (hr : r < 4) (hc : vs r = nI c) (hc2 : c < 2 ^ 30) (hv : zg v) (hs : zg (su r)) (hb : b < 8) (hB : p_Ga_binOf v ∧ s_Ga_binOf v = nI b) :
    p_Ga_add vs su bs le gr (nI r) v ∧ s_Ga_add vs su bs le gr (nI r) v = (upd vs r (nI (c + 1)), vf_upd su r (FP.dadd (su r) v), upd bs (8 * r + b) (bs (8 * r + b) + 1), vf_upd le r (if c = 0 ∨ ¬ 0 ≤ Op.cmpValue (FP.dcmp v (le r)) .g then v else le r), vf_upd gr r (if c = 0 ∨ ¬ Op.cmpValue (FP.dcmp v (gr r)) .l ≤ 0 then v else gr r)) := by
  refine e_Ga_add vs su bs le gr (nI r) v (Q := fun x => x = (upd vs r (nI (c + 1)), vf_upd su r (FP.dadd (su r) v), upd bs (8 * r + b) (bs (8 * r + b) + 1), vf_upd le r (if c = 0 ∨ ¬ 0 ≤ Op.cmpValue (FP.dcmp v (le r)) .g then v else le r), vf_upd gr r (if c = 0 ∨ ¬ Op.cmpValue (FP.dcmp v (gr r)) .l ≤ 0 then v else gr r))) ?_
  have i4 : vp_in (nI r) 4 := pk_in r 4 hr
  have e : nI r * 8 + nI b = nI (8 * r + b) := by
    have := pk_mul r 8
    rw [show nI r * 8 = nI (r * 8) from this, nI_add, Nat.mul_comm]
  have ib : vp_in (nI (8 * r + b)) 32 := pk_in (8 * r + b) 32 (by omega)
  have cl : (nI r).toNatClampNeg = r := nI_clamp (by omega)
  have clb : (nI (8 * r + b)).toNatClampNeg = 8 * r + b := nI_clamp (by omega)
  have n64 := z64_add hs hv
  unfold WP_Ga_add
  simp only [cl, hc, nI_1]
  refine ⟨i4, fun h0 => ⟨i4, i4, i4, n64, i4, hB.1, fun r9 q => ?_⟩, fun h0 => ⟨i4, i4, i4, n64, i4, hB.1, fun r9 q => ?_⟩⟩
  · rw [hB.2] at q
    subst q
    have hc0 : ¬ c = 0 := fun q => h0 (by rw [q]; rfl)
    simp only [e, clb]
    refine ⟨ib, ib, i4, fun h1 => ⟨i4, i4, i4, fun h2 => ⟨i4, i4, ?_⟩, fun h2 => ⟨i4, ?_⟩⟩, fun h1 => ⟨i4, i4, fun h2 => ⟨i4, i4, ?_⟩, fun h2 => ⟨i4, ?_⟩⟩⟩
    · simp [hc0, h1, h2]
    · simp [hc0, h1, h2]
    · simp [hc0, h1, h2]
    · simp [hc0, h1, h2]
  · rw [hB.2] at q
    subst q
    have hc0 : c = 0 := (nI_eq (by omega) (by omega)).mp (h0.trans zI0)
    simp only [e, clb]
    refine ⟨ib, ib, i4, i4, ?_⟩
    simp [hc0]
theorem rowFor_hit {k : Nat → Int32} {z r : Nat} {x : Int32} (hz : z ≤ 4) (h : zfs k z x r) : p_Ga_rowFor (nI z) k x ∧ s_Ga_rowFor (nI z) k x = (nI r, nI z, k) := by
  have a := row_hit hz h
  have h1 := h.1
  refine e_Ga_rowFor (nI z) k x (Q := fun a b => (a, b) = (nI r, nI z, k)) ⟨a.1, fun r1 q => ?_⟩
  rw [a.2] at q
  subst q
  exact pk_le 0 r (fun _ => rfl) (fun q => absurd q (by omega))
theorem rowFor_new {k : Nat → Int32} {z : Nat} {x : Int32} (hz : z < 4) (h : ∀ i, i < z → ¬ k i = x) : p_Ga_rowFor (nI z) k x ∧ s_Ga_rowFor (nI z) k x = (nI z, nI (z + 1), upd k z x) := by
  have a := row_miss (by omega) h
  refine e_Ga_rowFor (nI z) k x (Q := fun a b => (a, b) = (nI z, nI (z + 1), upd k z x)) ⟨a.1, fun r1 q => ?_⟩
  rw [a.2] at q
  subst q
  refine ⟨fun q => absurd q (by decide), fun _ => pk_lt z 4 (fun _ => ⟨pk_in z 4 hz, ?_⟩) (fun q => absurd q (by omega))⟩
  rw [nI_1, nI_pred, nI_clamp (by omega)]
theorem rowFor_full {k : Nat → Int32} {x : Int32} (h : ∀ i, i < 4 → ¬ k i = x) : p_Ga_rowFor (nI 4) k x ∧ s_Ga_rowFor (nI 4) k x = (-1, nI 4, k) := by
  have a := row_miss (by omega) h
  refine e_Ga_rowFor (nI 4) k x (Q := fun a b => (a, b) = (-1, nI 4, k)) ⟨a.1, fun r1 q => ?_⟩
  rw [a.2] at q
  subst q
  exact ⟨fun q => absurd q (by decide), fun _ => pk_lt 4 4 (fun q => absurd q (by omega)) (fun _ => rfl)⟩
/-- what the class gathers, by what its row is -/
theorem cg_row {S : List UInt64} {st su le gr : Nat → UInt64} {vs bs k k' : Nat → Int32} {sz sz' dr ov fl : Int32} {r c b : Nat} {v kx : UInt64} (hS : zst st (v :: kx :: S)) (hl : S.length + 2 ≤ 48) (hr : r < 4) (hc : vs r = nI c) (hc2 : c < 2 ^ 30) (hv : zg v) (hs : zg (su r)) (hb : b < 8) (hB : p_Ga_binOf v ∧ s_Ga_binOf v = nI b)
    (hR : p_Ga_rowFor sz k (FP.d2i kx) ∧ s_Ga_rowFor sz k (FP.d2i kx) = (nI r, sz', k')) :
    p_Rn_gather sz k su vs bs le gr dr (nI (S.length + 2)) ov fl st ∧ ((zbd (FP.dadd (su r) v) = some (FP.dadd (su r) v) ∧ s_Rn_gather sz k su vs bs le gr dr (nI (S.length + 2)) ov fl st = (sz', k', vf_upd su r (FP.dadd (su r) v), upd vs r (nI (c + 1)), upd bs (8 * r + b) (bs (8 * r + b) + 1), vf_upd le r (if c = 0 ∨ ¬ 0 ≤ Op.cmpValue (FP.dcmp v (le r)) .g then v else le r), vf_upd gr r (if c = 0 ∨ ¬ Op.cmpValue (FP.dcmp v (gr r)) .l ≤ 0 then v else gr r), dr, nI S.length, ov, fl)) ∨
      (zbd (FP.dadd (su r) v) = none ∧ s_Rn_gather sz k su vs bs le gr dr (nI (S.length + 2)) ov fl st = (sz', k', su, vs, bs, le, gr, dr, nI S.length, 1, 1))) := by
  have h1 : st (S.length + 1) = v := hS.1
  have h2 : st S.length = kx := hS.2.1
  have a1 := f_pop (n := S.length + 1) (by omega) st
  have a2 := f_pop (n := S.length) (by omega) st
  rw [h1] at a1
  rw [h2] at a2
  refine e_Rn_gather sz k su vs bs le gr dr (nI (S.length + 2)) ov fl st (Q := fun x => (zbd (FP.dadd (su r) v) = some (FP.dadd (su r) v) ∧ x = (sz', k', vf_upd su r (FP.dadd (su r) v), upd vs r (nI (c + 1)), upd bs (8 * r + b) (bs (8 * r + b) + 1), vf_upd le r (if c = 0 ∨ ¬ 0 ≤ Op.cmpValue (FP.dcmp v (le r)) .g then v else le r), vf_upd gr r (if c = 0 ∨ ¬ Op.cmpValue (FP.dcmp v (gr r)) .l ≤ 0 then v else gr r), dr, nI S.length, ov, fl)) ∨ (zbd (FP.dadd (su r) v) = none ∧ x = (sz', k', su, vs, bs, le, gr, dr, nI S.length, 1, 1))) ?_
  refine ⟨a1.1, fun r1 u2 q => ?_⟩
  rw [a1.2] at q
  cases q
  refine ⟨a2.1, fun r1 u2 q => ?_⟩
  rw [a2.2] at q
  cases q
  refine ⟨hR.1, fun r9 m12 m13 q => ?_⟩
  rw [hR.2] at q
  cases q
  refine pk_le 0 r (fun _ => ⟨pk_in r 4 hr, ?_⟩) (fun q => absurd q (by omega))
  rw [nI_clamp (by omega)]
  have ad := f_add (bs := bs) (le := le) (gr := gr) hr hc hc2 hv hs hb hB
  refine ⟨z64_add hs hv, fun r19 q => ⟨fun h0 => ⟨ad.1, fun m28 m29 m30 m31 m32 q2 => ?_⟩, fun h0 m37 m38 q2 => ?_⟩⟩
  · rw [ad.2] at q2
    cases q2
    rw [← q] at h0
    exact Or.inl ⟨by unfold zbd; rw [if_pos h0], rfl⟩
  · simp only [s_Rn_fail] at q2
    cases q2
    rw [← q] at h0
    exact Or.inr ⟨by unfold zbd; rw [if_neg h0], rfl⟩
theorem cg_full {S : List UInt64} {st su le gr : Nat → UInt64} {vs bs k : Nat → Int32} {dr ov fl : Int32} {v kx : UInt64} (hS : zst st (v :: kx :: S)) (hl : S.length + 2 ≤ 48)
    (hR : p_Ga_rowFor (nI 4) k (FP.d2i kx) ∧ s_Ga_rowFor (nI 4) k (FP.d2i kx) = (-1, nI 4, k)) :
    p_Rn_gather (nI 4) k su vs bs le gr dr (nI (S.length + 2)) ov fl st ∧ s_Rn_gather (nI 4) k su vs bs le gr dr (nI (S.length + 2)) ov fl st = (nI 4, k, su, vs, bs, le, gr, dr + 1, nI S.length, ov, fl) := by
  have h1 : st (S.length + 1) = v := hS.1
  have h2 : st S.length = kx := hS.2.1
  have a1 := f_pop (n := S.length + 1) (by omega) st
  have a2 := f_pop (n := S.length) (by omega) st
  rw [h1] at a1
  rw [h2] at a2
  refine e_Rn_gather (nI 4) k su vs bs le gr dr (nI (S.length + 2)) ov fl st (Q := fun x => x = (nI 4, k, su, vs, bs, le, gr, dr + 1, nI S.length, ov, fl)) ?_
  refine ⟨a1.1, fun r1 u2 q => ?_⟩
  rw [a1.2] at q
  cases q
  refine ⟨a2.1, fun r1 u2 q => ?_⟩
  rw [a2.2] at q
  cases q
  refine ⟨hR.1, fun r9 m12 m13 q => ?_⟩
  rw [hR.2] at q
  cases q
  exact ⟨fun q => absurd q (by decide), fun _ => rfl⟩
/-- what the reference gathers -/
theorem mg_hit {ks k cn bi : Nat → Int32} {su le gr : Nat → UInt64} {dr fl x : Int32} {g z r b : Nat} {v : UInt64} (hg : g < 3) (hz : z ≤ 4) (hk : ks g = nI z) (h : zfs (fun i => k (4 * g + i)) z x r) (hv : zg v) (hs : zg (su (4 * g + r))) (hb : b < 8) (hB : p_Mo_binOf v ∧ s_Mo_binOf v = nI b) :
    p_Mo_gather dr fl ks k su le gr cn bi (nI g) x v ∧ ((zbd (FP.dadd (su (4 * g + r)) v) = some (FP.dadd (su (4 * g + r)) v) ∧ s_Mo_gather dr fl ks k su le gr cn bi (nI g) x v = (dr, fl, ks, k, vf_upd su (4 * g + r) (FP.dadd (su (4 * g + r)) v), (if 0 ≤ Op.cmpValue (FP.dcmp v (le (4 * g + r))) .g then le else vf_upd le (4 * g + r) v), (if Op.cmpValue (FP.dcmp v (gr (4 * g + r))) .l ≤ 0 then gr else vf_upd gr (4 * g + r) v), upd cn (4 * g + r) (cn (4 * g + r) + 1), upd bi (8 * (4 * g + r) + b) (bi (8 * (4 * g + r) + b) + 1))) ∨
      (zbd (FP.dadd (su (4 * g + r)) v) = none ∧ s_Mo_gather dr fl ks k su le gr cn bi (nI g) x v = (dr, 1, ks, k, su, le, gr, cn, bi))) := by
  have f := find_hit hg hz hk h
  have h1 := h.1
  generalize hq : 4 * g + r = q at *
  have hq12 : q < 12 := by omega
  refine e_Mo_gather dr fl ks k su le gr cn bi (nI g) x v (Q := fun y => (zbd (FP.dadd (su q) v) = some (FP.dadd (su q) v) ∧ y = (dr, fl, ks, k, vf_upd su q (FP.dadd (su q) v), (if 0 ≤ Op.cmpValue (FP.dcmp v (le q)) .g then le else vf_upd le q v), (if Op.cmpValue (FP.dcmp v (gr q)) .l ≤ 0 then gr else vf_upd gr q v), upd cn q (cn q + 1), upd bi (8 * q + b) (bi (8 * q + b) + 1))) ∨
      (zbd (FP.dadd (su q) v) = none ∧ y = (dr, 1, ks, k, su, le, gr, cn, bi))) ?_
  refine ⟨f.1, fun r1 e => ?_⟩
  rw [f.2] at e
  subst e
  have i12 : vp_in (nI q) 12 := pk_in q 12 hq12
  have cl : (nI q).toNatClampNeg = q := nI_clamp (by omega)
  have e : nI q * 8 + nI b = nI (8 * q + b) := by
    have := pk_mul q 8
    rw [show nI q * 8 = nI (q * 8) from this, nI_add, Nat.mul_comm]
  have ib : vp_in (nI (8 * q + b)) 96 := pk_in (8 * q + b) 96 (by omega)
  have clb : (nI (8 * q + b)).toNatClampNeg = 8 * q + b := nI_clamp (by omega)
  refine pk_le 0 q (fun _ => ⟨i12, ?_⟩) (fun q => absurd q (by omega))
  rw [cl]
  refine ⟨z64_add hs hv, z_oob _ (fun h => Or.inr ⟨h, rfl⟩) (fun hz => ⟨i12, i12, fun h1 => ⟨i12, fun h2 => ⟨i12, i12, hB.1, fun r e2 => ?_⟩, fun h2 => ⟨i12, i12, i12, hB.1, fun r e2 => ?_⟩⟩, fun h1 => ⟨i12, i12, fun h2 => ⟨i12, i12, hB.1, fun r e2 => ?_⟩, fun h2 => ⟨i12, i12, i12, hB.1, fun r e2 => ?_⟩⟩⟩)⟩ <;> rw [hB.2] at e2 <;> subst e2 <;> rw [e, clb] <;> refine ⟨ib, ib, Or.inl ⟨hz, ?_⟩⟩ <;> simp only [h1, h2, if_true, if_false]
theorem mg_full {ks k cn bi : Nat → Int32} {su le gr : Nat → UInt64} {dr fl x : Int32} {g : Nat} {v : UInt64} (hg : g < 3) (hk : ks g = nI 4) (h : ∀ i, i < 4 → ¬ k (4 * g + i) = x) :
    p_Mo_gather dr fl ks k su le gr cn bi (nI g) x v ∧ s_Mo_gather dr fl ks k su le gr cn bi (nI g) x v = (dr + 1, fl, ks, k, su, le, gr, cn, bi) := by
  have f := find_miss hg (by omega) hk h
  refine e_Mo_gather dr fl ks k su le gr cn bi (nI g) x v (Q := fun y => y = (dr + 1, fl, ks, k, su, le, gr, cn, bi)) ⟨f.1, fun r1 e => ?_⟩
  rw [f.2] at e
  subst e
  refine ⟨fun q => absurd q (by decide), fun _ => ⟨pk_in g 3 hg, ?_⟩⟩
  rw [nI_clamp (by omega), hk]
  exact ⟨fun q => absurd rfl q, fun _ => rfl⟩
theorem mg_new {ks k cn bi : Nat → Int32} {su le gr : Nat → UInt64} {dr fl x : Int32} {g z b : Nat} {v : UInt64} (hg : g < 3) (hz : z < 4) (hk : ks g = nI z) (h : ∀ i, i < z → ¬ k (4 * g + i) = x) (hv : zg v) (hb : b < 8) (hB : p_Mo_binOf v ∧ s_Mo_binOf v = nI b) :
    p_Mo_gather dr fl ks k su le gr cn bi (nI g) x v ∧ s_Mo_gather dr fl ks k su le gr cn bi (nI g) x v = (dr, fl, upd ks g (nI (z + 1)), upd k (4 * g + z) x, vf_upd su (4 * g + z) (FP.dadd FP.dconst0 v), vf_upd le (4 * g + z) v, vf_upd gr (4 * g + z) v, upd cn (4 * g + z) (cn (4 * g + z) + 1), upd bi (8 * (4 * g + z) + b) (bi (8 * (4 * g + z) + b) + 1)) := by
  have f := find_miss hg (by omega) hk h
  refine e_Mo_gather dr fl ks k su le gr cn bi (nI g) x v (Q := fun y => y = (dr, fl, upd ks g (nI (z + 1)), upd k (4 * g + z) x, vf_upd su (4 * g + z) (FP.dadd FP.dconst0 v), vf_upd le (4 * g + z) v, vf_upd gr (4 * g + z) v, upd cn (4 * g + z) (cn (4 * g + z) + 1), upd bi (8 * (4 * g + z) + b) (bi (8 * (4 * g + z) + b) + 1))) ⟨f.1, fun r1 e => ?_⟩
  rw [f.2] at e
  subst e
  have e0 : nI g * 4 + nI z = nI (4 * g + z) := by
    have := pk_mul g 4
    rw [show nI g * 4 = nI (g * 4) from this, nI_add, Nat.mul_comm]
  generalize hq : 4 * g + z = q at *
  have hq12 : q < 12 := by omega
  have i12 : vp_in (nI q) 12 := pk_in q 12 hq12
  have cl : (nI q).toNatClampNeg = q := nI_clamp (by omega)
  have e : nI q * 8 + nI b = nI (8 * q + b) := by
    have := pk_mul q 8
    rw [show nI q * 8 = nI (q * 8) from this, nI_add, Nat.mul_comm]
  have ib : vp_in (nI (8 * q + b)) 96 := pk_in (8 * q + b) 96 (by omega)
  have clb : (nI (8 * q + b)).toNatClampNeg = 8 * q + b := nI_clamp (by omega)
  have i3 : vp_in (nI g) 3 := pk_in g 3 hg
  refine ⟨fun q => absurd q (by decide), fun _ => ⟨i3, ?_⟩⟩
  rw [nI_clamp (by omega), hk, e0, cl]
  refine ⟨fun _ => ⟨i3, zg_n (zg_add0 hv), z_oob _ (fun h => ?_) (fun _ => ⟨i3, i3, i12, i12, i12, i12, i12, i12, hB.1, fun r e2 => ?_⟩)⟩, fun w => absurd ((nI_eq (a := z) (b := 4) (by omega) (by omega)).mp w) (by omega)⟩
  · rw [zg_zbd (zg_add0 hv)] at h
    cases h
  · rw [hB.2] at e2
    subst e2
    rw [e, clb, nI_1]
    exact ⟨ib, ib, rfl⟩
