section ZTL
variable (tm dr : Int32) (ha hb hc : UInt64) (ov fl me : Int32) (st va : Nat → UInt64) (sz : Nat → Int32) (ol qs lo : Int32) (ks : Nat → Nat → Int32) (su : Nat → Nat → UInt64) (vs bs : Nat → Nat → Int32) (le gr : Nat → Nat → UInt64) (rg : Nat → UInt64)
theorem ds_load {th k n : Nat} (ht : th < 4) (hk : k < 6) (hn : n < 48) : p_Rn_doStep tm dr (nI th) ha hb hc (nI n) ov fl me st va sz ol qs lo ks su vs bs le gr rg (nI (117 + k)) ∧ s_Rn_doStep tm dr (nI th) ha hb hc (nI n) ov fl me st va sz ol qs lo ks su vs bs le gr rg (nI (117 + k)) = (dr, nI (n + 1), ov, fl, me, vf_upd st n (va (if k < 3 then k else k + 3 * th)), va, sz, ol, qs, lo, ks, su, vs, bs, le, gr, rg) := by
  refine e_Rn_doStep tm dr (nI th) ha hb hc (nI n) ov fl me st va sz ol qs lo ks su vs bs le gr rg (nI (117 + k)) (Q := fun r => r = (dr, nI (n + 1), ov, fl, me, vf_upd st n (va (if k < 3 then k else k + 3 * th)), va, sz, ol, qs, lo, ks, su, vs, bs, le, gr, rg)) ?_
  refine pk_lt (117 + k) 256 (fun _ => pk_lt (117 + k) 117 (fun q => absurd q (by omega)) (fun _ => pk_lt 122 (117 + k) (fun q => absurd q (by omega)) (fun _ => ?_))) (fun q => absurd q (by omega))
  have e : nI (117 + k) - 117 = nI k := by
    have := pk_sub (a := 117 + k) (b := 117) (by omega)
    rw [show 117 + k - 117 = k by omega] at this
    exact this
  rw [e]
  have gt := f_get ht hk va
  refine ⟨gt.1, fun r q => ?_⟩
  rw [gt.2] at q
  subst q
  have pu := f_push hn st (va (if k < 3 then k else k + 3 * th))
  exact ⟨pu.1, fun m1 m2 q => by rw [pu.2] at q; cases q; rfl⟩
theorem ds_num {th v n : Nat} (hv : v ≤ 999) (hn : n < 48) : p_Rn_doStep tm dr (nI th) ha hb hc (nI n) ov fl me st va sz ol qs lo ks su vs bs le gr rg (nI (256 + v)) ∧ s_Rn_doStep tm dr (nI th) ha hb hc (nI n) ov fl me st va sz ol qs lo ks su vs bs le gr rg (nI (256 + v)) = (dr, nI (n + 1), ov, fl, me, vf_upd st n (FP.i2d (nI v)), va, sz, ol, qs, lo, ks, su, vs, bs, le, gr, rg) := by
  refine e_Rn_doStep tm dr (nI th) ha hb hc (nI n) ov fl me st va sz ol qs lo ks su vs bs le gr rg (nI (256 + v)) (Q := fun r => r = (dr, nI (n + 1), ov, fl, me, vf_upd st n (FP.i2d (nI v)), va, sz, ol, qs, lo, ks, su, vs, bs, le, gr, rg)) ?_
  refine pk_lt (256 + v) 256 (fun q => absurd q (by omega)) (fun _ => ?_)
  have e : nI (256 + v) - 256 = nI v := by
    have := pk_sub (a := 256 + v) (b := 256) (by omega)
    rw [show 256 + v - 256 = v by omega] at this
    exact this
  rw [e]
  have pu := f_push hn st (FP.i2d (nI v))
  exact ⟨pu.1, fun m1 m2 q => by rw [pu.2] at q; cases q; rfl⟩
theorem f_tok {ld : Nat → UInt64} {th : Nat} (ht : th < 4) (hE : zEn ld tm th ha hb hc va) (hL : zLg ld) {t : zTok} {T : List zTok} {e : Nat} {S : List UInt64} (hw : wT S.length (t :: T) e) (hl : S.length < 48) (hg : ∀ x ∈ S, zg x) (hS : zst st S) :
    p_Rn_doStep tm dr (nI th) ha hb hc (nI S.length) 0 0 me st va sz ol qs lo ks su vs bs le gr rg (nI (zkc t)) ∧ ∃ (tp' ov' fl' : Int32) (st' : Nat → UInt64), s_Rn_doStep tm dr (nI th) ha hb hc (nI S.length) 0 0 me st va sz ol qs lo ks su vs bs le gr rg (nI (zkc t)) = (dr, tp', ov', fl', me, st', va, sz, ol, qs, lo, ks, su, vs, bs, le, gr, rg) ∧
      ((∃ S', evs ld t S = some S' ∧ tp' = nI S'.length ∧ ov' = 0 ∧ fl' = 0 ∧ zst st' S' ∧ S'.length ≤ S.length + 1 ∧ (∀ x ∈ S', zg x) ∧ wT S'.length T e) ∨ (evs ld t S = none ∧ ov' = 1 ∧ fl' = 1)) := by
  obtain ⟨t1, t2⟩ := t
  have cons : ∀ {y : UInt64} {S' : List UInt64}, zg y → (∀ x ∈ S', zg x) → ∀ x ∈ y :: S', zg x := by
    intro y S' hy hS' x hx
    rcases List.mem_cons.mp hx with rfl | hx
    · exact hy
    · exact hS' x hx
  rcases hw with ⟨h1, h2, hw⟩ | ⟨h1, h2, hw⟩ | ⟨h1, h2, h3, hw⟩ | ⟨h1, h2, h3, hw⟩
  · simp only at h1 h2
    subst h1
    have a := ds_num tm dr ha hb hc 0 0 me st va sz ol qs lo ks su vs bs le gr rg (th := th) h2 hl
    exact ⟨a.1, _, _, _, _, a.2, Or.inl ⟨_, rfl, rfl, rfl, rfl, zst_push hS, Nat.le_refl _, cons (zg_i2dN (by omega)) hg, hw⟩⟩
  · simp only at h1 h2
    subst h1
    have done : ∀ {v : UInt64}, v = ld t2 → p_Rn_doStep tm dr (nI th) ha hb hc (nI S.length) 0 0 me st va sz ol qs lo ks su vs bs le gr rg (nI t2) ∧ s_Rn_doStep tm dr (nI th) ha hb hc (nI S.length) 0 0 me st va sz ol qs lo ks su vs bs le gr rg (nI t2) = (dr, nI (S.length + 1), 0, 0, me, vf_upd st S.length v, va, sz, ol, qs, lo, ks, su, vs, bs, le, gr, rg) → _ := fun {v} hv a => by
      subst hv
      exact (⟨a.1, _, _, _, _, a.2, Or.inl ⟨_, rfl, rfl, rfl, rfl, zst_push hS, Nat.le_refl _, cons (hL t2 h2) hg, hw⟩⟩ : p_Rn_doStep tm dr (nI th) ha hb hc (nI S.length) 0 0 me st va sz ol qs lo ks su vs bs le gr rg (nI (zkc (2, t2))) ∧ ∃ (tp' ov' fl' : Int32) (st' : Nat → UInt64), s_Rn_doStep tm dr (nI th) ha hb hc (nI S.length) 0 0 me st va sz ol qs lo ks su vs bs le gr rg (nI (zkc (2, t2))) = (dr, tp', ov', fl', me, st', va, sz, ol, qs, lo, ks, su, vs, bs, le, gr, rg) ∧
      ((∃ S', evs ld (2, t2) S = some S' ∧ tp' = nI S'.length ∧ ov' = 0 ∧ fl' = 0 ∧ zst st' S' ∧ S'.length ≤ S.length + 1 ∧ (∀ x ∈ S', zg x) ∧ wT S'.length T e) ∨ (evs ld (2, t2) S = none ∧ ov' = 1 ∧ fl' = 1)))
    obtain ⟨E1, E2, E3, E4, E5, E6, E7⟩ := hE
    have viaC : ∀ v, ((t2 = 97 ∧ v = ha) ∨ (t2 = 98 ∧ v = hb) ∨ (t2 = 99 ∧ v = hc) ∨ (t2 = 107 ∧ v = FP.i2d (nI th)) ∨ (t2 = 116 ∧ v = FP.i2d tm)) → p_Rn_doStep tm dr (nI th) ha hb hc (nI S.length) 0 0 me st va sz ol qs lo ks su vs bs le gr rg (nI t2) ∧ s_Rn_doStep tm dr (nI th) ha hb hc (nI S.length) 0 0 me st va sz ol qs lo ks su vs bs le gr rg (nI t2) = (dr, nI (S.length + 1), 0, 0, me, vf_upd st S.length v, va, sz, ol, qs, lo, ks, su, vs, bs, le, gr, rg) := fun v hv =>
      ds_char tm dr (nI th) ha hb hc (nI S.length) 0 0 me st va sz ol qs lo ks su vs bs le gr rg (by
        rcases hv with ⟨rfl, _⟩ | ⟨rfl, _⟩ | ⟨rfl, _⟩ | ⟨rfl, _⟩ | ⟨rfl, _⟩
        · exact Or.inr (Or.inr (Or.inr (Or.inl rfl)))
        · exact Or.inr (Or.inr (Or.inr (Or.inr (Or.inl rfl))))
        · exact Or.inr (Or.inr (Or.inr (Or.inr (Or.inr (Or.inl rfl)))))
        · exact Or.inr (Or.inr (Or.inr (Or.inr (Or.inr (Or.inr (Or.inl rfl))))))
        · exact Or.inr (Or.inr (Or.inr (Or.inr (Or.inr (Or.inr (Or.inr (Or.inl rfl)))))))) (dc_push tm (nI th) ha hb hc 0 0 me st ol qs lo rg hl hv)
    have viaL : ∀ k, k < 6 → t2 = 117 + k → p_Rn_doStep tm dr (nI th) ha hb hc (nI S.length) 0 0 me st va sz ol qs lo ks su vs bs le gr rg (nI t2) ∧ s_Rn_doStep tm dr (nI th) ha hb hc (nI S.length) 0 0 me st va sz ol qs lo ks su vs bs le gr rg (nI t2) = (dr, nI (S.length + 1), 0, 0, me, vf_upd st S.length (va (if k < 3 then k else k + 3 * th)), va, sz, ol, qs, lo, ks, su, vs, bs, le, gr, rg) := fun k hk q => by
      subst q
      exact ds_load tm dr ha hb hc 0 0 me st va sz ol qs lo ks su vs bs le gr rg ht hk hl
    have h2' := h2
    rcases h2' with ⟨a, b⟩ | a | a | ⟨a, b⟩
    · rcases (by omega : t2 = 97 ∨ t2 = 98 ∨ t2 = 99) with q | q | q
      · exact done (by rw [q, E1]) (viaC ha (by simp [q]))
      · exact done (by rw [q, E2]) (viaC hb (by simp [q]))
      · exact done (by rw [q, E3]) (viaC hc (by simp [q]))
    · exact done (by rw [a, E4]) (viaC _ (by simp [a]))
    · exact done (by rw [a, E5]) (viaC _ (by simp [a]))
    · rcases (by omega : t2 < 120 ∨ 120 ≤ t2) with q | q
      · refine done ?_ (viaL (t2 - 117) (by omega) (by omega))
        rw [if_pos (by omega), ← E6 (t2 - 117) (by omega)]
        congr 1; omega
      · refine done ?_ (viaL (t2 - 117) (by omega) (by omega))
        have := E7 (t2 - 120) (by omega)
        rw [show 120 + (t2 - 120) = t2 by omega] at this
        rw [if_neg (by omega), this]
        congr 1; omega
  · simp only at h1 h2
    subst h1
    match S, h3, hl, hg, hS, hw with
    | y :: x :: S, h3, hl, hg, hS, hw =>
      have hy := hg y (by simp)
      have hx := hg x (by simp)
      have hg' : ∀ z ∈ S, zg z := fun z hz => hg z (by simp [hz])
      have a := f_operate h2 hx hy hS (by simp at hl; omega) 0 0
      have e0 : (y :: x :: S).length = S.length + 2 := rfl
      have hcc : nI (zkc (3, t2)) = nI t2 := rfl
      rw [e0, hcc]
      have ch : (nI t2 = 33 ∨ nI t2 = 47 ∨ nI t2 = 63 ∨ nI t2 = 97 ∨ nI t2 = 98 ∨ nI t2 = 99 ∨ nI t2 = 107 ∨ nI t2 = 116 ∨ nI t2 = 126 ∨ nI t2 = 60 ∨ nI t2 = 62 ∨ nI t2 = 61 ∨ nI t2 = 43 ∨ nI t2 = 45 ∨ nI t2 = 42 ∨ nI t2 = 58) := by
        iterate 9 refine Or.inr ?_
        rcases h2 with rfl | rfl | rfl | rfl | rfl | rfl | rfl
        · exact Or.inl rfl
        · exact Or.inr (Or.inl rfl)
        · exact Or.inr (Or.inr (Or.inl rfl))
        · exact Or.inr (Or.inr (Or.inr (Or.inl rfl)))
        · exact Or.inr (Or.inr (Or.inr (Or.inr (Or.inl rfl))))
        · exact Or.inr (Or.inr (Or.inr (Or.inr (Or.inr (Or.inl rfl)))))
        · exact Or.inr (Or.inr (Or.inr (Or.inr (Or.inr (Or.inr rfl)))))
      have ee : evs ld (3, t2) (y :: x :: S) = (zrk t2 x y).map (· :: S) := rfl
      rw [ee]
      cases hz : zrk t2 x y with
      | none =>
        rw [hz] at a
        have b := ds_char tm dr (nI th) ha hb hc (nI (S.length + 2)) 0 0 me st va sz ol qs lo ks su vs bs le gr rg ch (dc_op tm (nI th) ha hb hc _ 0 0 me st ol qs lo rg h2 a)
        exact ⟨b.1, _, _, _, _, b.2, Or.inr ⟨rfl, rfl, rfl⟩⟩
      | some v =>
        rw [hz] at a
        have b := ds_char tm dr (nI th) ha hb hc (nI (S.length + 2)) 0 0 me st va sz ol qs lo ks su vs bs le gr rg ch (dc_op tm (nI th) ha hb hc _ 0 0 me st ol qs lo rg h2 a)
        exact ⟨b.1, _, _, _, _, b.2, Or.inl ⟨v :: S, rfl, rfl, rfl, rfl, zst_push hS.2.2, by simp, cons (zrk_g hx hy hz) hg', hw⟩⟩
  · simp only at h1 h2
    subst h1
    subst h2
    match S, h3, hl, hg, hS, hw with
    | y :: S, h3, hl, hg, hS, hw =>
      have hy := hg y (by simp)
      have hg' : ∀ z ∈ S, zg z := fun z hz => hg z (by simp [hz])
      have b := ds_char tm dr (nI th) ha hb hc (nI (S.length + 1)) 0 0 me st va sz ol qs lo ks su vs bs le gr rg (c := 126) (by simp) (dc_neg tm (nI th) ha hb hc 0 0 me st ol qs lo rg (n := S.length) (by simp at hl; omega))
      refine ⟨b.1, _, _, _, _, b.2, Or.inl ⟨FP.dneg y :: S, rfl, rfl, rfl, rfl, ?_, by simp, cons (zg_neg hy) hg', hw⟩⟩
      rw [hS.1]
      exact zst_push hS.2
end ZTL
