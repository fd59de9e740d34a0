/-! an action, in the class and in the reference -/
theorem wT_up : ∀ (T : List zTok) (d e : Nat), wT d T e → wT (d + 1) T (e + 1)
  | [], d, e, h => congrArg (· + 1) h
  | (t1, t2) :: T, d, e, h => by
    rcases h with ⟨h1, h2, h⟩ | ⟨h1, h2, h⟩ | ⟨h1, h2, h3, h⟩ | ⟨h1, h2, h3, h⟩
    · exact Or.inl ⟨h1, h2, wT_up T _ _ h⟩
    · exact Or.inr (Or.inl ⟨h1, h2, wT_up T _ _ h⟩)
    · refine Or.inr (Or.inr (Or.inl ⟨h1, h2, by omega, ?_⟩))
      have := wT_up T _ _ h
      rw [show d - 1 + 1 = d + 1 - 1 by omega] at this
      exact this
    · exact Or.inr (Or.inr (Or.inr ⟨h1, h2, by omega, wT_up T _ _ h⟩))
section ZXA
variable {tm cond fa mt : Int32} {th l : Nat} {ha hb hc : UInt64} {me : Int32} {st : Nat → UInt64} {steps : Nat → Int32} {kd tg f1 f2 code : Nat → Int32} {pile hd : Nat → UInt64} {dr : Int32} {va : Nat → UInt64} {sz : Nat → Int32} {ks : Nat → Nat → Int32} {le : Nat → Nat → UInt64} {gr : Nat → Nat → UInt64} {su : Nat → Nat → UInt64} {vs : Nat → Nat → Int32} {bs : Nat → Nat → Int32} {ol : Int32} {qs : Int32} {lo : Int32} {rg : Nat → UInt64} {mdr : Int32} {gl : Nat → UInt64} {ow : Nat → UInt64} {mks : Nat → Int32} {mk : Nat → Int32} {mc : Nat → Int32} {mb : Nat → Int32} {ms : Nat → UInt64} {ml : Nat → UInt64} {mg : Nat → UInt64} {mr : Int32} {mlo : Int32} {mq : Nat → UInt64}
theorem r_act {B i o n : Nat} {a : zAct} (ht : th < 4) (hn : n ≤ 2 ^ 28) (hm : tm = nI n) (hh : zg (hd 0) ∧ zg (hd 1) ∧ zg (hd 2)) (ea : ha = hd 0) (eb : hb = hd 1) (ec : hc = hd 2) (hX : rX B dr va sz ks le gr su vs bs ol qs lo rg mdr gl ow mks mk mc mb ms ml mg mr mlo mq) (hB : B + 1 < 2 ^ 30) (hA : zxM kd tg f1 f2 code i a) (hi : i < 340) (hl : l ≤ 48) (ho : o + (zxS a).length ≤ l) (hs : sE steps o (zxS a)) :
    p_Mo_perform mr mlo mdr tm (nI th) 0 kd f2 code pile hd gl ow mq tg mks mk ms ml mg mc mb f1 (nI i) ∧ ∃ (r : Int32) (fl' : Int32) (pile' : Nat → UInt64) (mdr' : Int32) (gl' : Nat → UInt64) (ow' : Nat → UInt64) (mks' : Nat → Int32) (mk' : Nat → Int32) (mc' : Nat → Int32) (mb' : Nat → Int32) (ms' : Nat → UInt64) (ml' : Nat → UInt64) (mg' : Nat → UInt64) (mr' : Int32) (mlo' : Int32) (mq' : Nat → UInt64), s_Mo_perform mr mlo mdr tm (nI th) 0 kd f2 code pile hd gl ow mq tg mks mk ms ml mg mc mb f1 (nI i) = (r, mr', mlo', mdr', fl', pile', gl', ow', mq', mks', mk', ms', ml', mg', mc', mb') ∧ ((r = 1 ∧ fl' = 0) ∨ (r = 0 ∧ (fl' = 0 ∨ fl' = 1))) ∧
    ∃ (dr' : Int32) (va' : Nat → UInt64) (sz' : Nat → Int32) (ks' : Nat → Nat → Int32) (le' : Nat → Nat → UInt64) (gr' : Nat → Nat → UInt64) (su' : Nat → Nat → UInt64) (vs' : Nat → Nat → Int32) (bs' : Nat → Nat → Int32) (ol' : Int32) (qs' : Int32) (lo' : Int32) (rg' : Nat → UInt64), rX (B + 1) dr' va' sz' ks' le' gr' su' vs' bs' ol' qs' lo' rg' mdr' gl' ow' mks' mk' mc' mb' ms' ml' mg' mr' mlo' mq' ∧ ∀ (f : Nat) (Q : Int32 → (Int32 × Int32 × Int32 × Int32 × Int32 × Int32 × Int32 × (Nat → UInt64) × (Nat → UInt64) × (Nat → Int32) × Int32 × Int32 × Int32 × (Nat → Nat → Int32) × (Nat → Nat → UInt64) × (Nat → Nat → Int32) × (Nat → Nat → Int32) × (Nat → Nat → UInt64) × (Nat → Nat → UInt64) × (Nat → UInt64)) → Prop) (st : Nat → UInt64),
      (r = 1 → ∀ (st' : Nat → UInt64), WP_Rn_run_L33 (f + 1) (nI (o + (zxS a).length)) (nI l) cond fa mt steps tm dr' (nI th) ha hb hc (nI 0) 0 0 me st' va' sz' ol' qs' lo' ks' su' vs' bs' le' gr' rg' Q) →
      (r = 0 → ∀ (st' : Nat → UInt64) (tp y : Int32) (g : Nat), WP_Rn_run_L33 (g + 1) y (nI l) cond fa mt steps tm dr' (nI th) ha hb hc tp 1 fl' me st' va' sz' ol' qs' lo' ks' su' vs' bs' le' gr' rg' Q) →
      WP_Rn_run_L33 (f + 1 + (zxS a).length) (nI o) (nI l) cond fa mt steps tm dr (nI th) ha hb hc (nI 0) 0 0 me st va sz ol qs lo ks su vs bs le gr rg Q := by
  subst ea eb ec
  obtain ⟨x1, x2, x3, x4, x5⟩ := hX
  have hE := zld_n (tm := tm) (hd := hd) ht x3
  have hM := zld_m tm th hd gl ow
  have hL := zld_g ht hn hm x3 hh
  generalize zld tm th hd gl ow = ld at hE hM hL
  obtain ⟨a1, a2, K, T⟩ := a
  obtain ⟨k1, k3, k4⟩ := hA
  simp only at k1 k3 k4
  have i340 : vp_in (nI i) 340 := pk_in i 340 hi
  have cli : (nI i).toNatClampNeg = i := nI_clamp (by omega)
  have rG' : rG (B + 1) sz ks le gr su vs bs mks mk mc mb ms ml mg := fun g hg => rG1_frame (x4 g hg) (Nat.le_succ B) rfl (fun r _ => ⟨rfl, rfl, rfl, rfl, rfl, fun _ _ => rfl⟩)
  have hX' : rX (B + 1) dr va sz ks le gr su vs bs ol qs lo rg mdr gl ow mks mk mc mb ms ml mg mr mlo mq := ⟨x1, x2, x3, rG', x5⟩
  have wT1 : wT 0 T 1 := by obtain ⟨_, _, _, _, h⟩ := k3; exact h
  have hTl : T.length ≤ 48 := by
    have : T.length ≤ (zxS (a1, a2, K, T)).length := by
      unfold zxS; split <;> simp <;> omega
    omega
  have v1 := f_value ht hM hL k3 hTl pile
  by_cases h64 : a1 = 64
  · subst h64
    obtain ⟨g3, k2, k5⟩ : a2 < 3 ∧ tg i = nI a2 ∧ mV code (f2 i) K := by
      rcases k4 with h | h | h | h
      · exact absurd h.1 (by omega)
      · exact absurd h (by omega)
      · exact absurd h (by omega)
      · exact h.2
    have hS : zxS (64, a2, K, T) = K.map zkc ++ (T.map zkc ++ [65 + a2]) := rfl
    rw [hS] at ho hs ⊢
    simp only [List.length_append, List.length_map, List.length_cons, List.length_nil] at ho
    have wK1 : wT 0 K 1 := by obtain ⟨_, _, _, _, h⟩ := k5; exact h
    have hKl : K.length ≤ 48 := by omega
    obtain ⟨hsK, hsT⟩ := (sE_app _ _ _).mp hs
    obtain ⟨hsT, hsG⟩ := (sE_app _ _ _).mp hsT
    simp only [List.length_map] at hsT hsG
    obtain ⟨p0, kx, u0, pile0, e0, v0⟩ := f_value ht hM hL k5 hKl pile
    have hlen : (K.map zkc ++ (T.map zkc ++ [65 + a2])).length = K.length + (T.length + 1) := by simp
    rw [hlen]
    have sA : steps (o + K.length + T.length) = nI (65 + a2) := hsG.1
    have clsK : ∀ (f : Nat) (Q : Int32 → (Int32 × Int32 × Int32 × Int32 × Int32 × Int32 × Int32 × (Nat → UInt64) × (Nat → UInt64) × (Nat → Int32) × Int32 × Int32 × Int32 × (Nat → Nat → Int32) × (Nat → Nat → UInt64) × (Nat → Nat → Int32) × (Nat → Nat → Int32) × (Nat → Nat → UInt64) × (Nat → Nat → UInt64) × (Nat → UInt64)) → Prop) (st : Nat → UInt64), (evv ld K = none → ∀ (st' : Nat → UInt64) (tp y : Int32) (g : Nat), WP_Rn_run_L33 (g + 1) y (nI l) cond fa mt steps tm dr (nI th) (hd 0) (hd 1) (hd 2) tp 1 1 me st' va sz ol qs lo ks su vs bs le gr rg Q) →
        (∀ (st' : Nat → UInt64) (w : UInt64), evv ld K = some w → st' 0 = w → zg w → WP_Rn_run_L33 (f + 1 + (T.length + 1)) (nI (o + K.length)) (nI l) cond fa mt steps tm dr (nI th) (hd 0) (hd 1) (hd 2) (nI 1) 0 0 me st' va sz ol qs lo ks su vs bs le gr rg Q) → WP_Rn_run_L33 (f + 1 + (K.length + (T.length + 1))) (nI o) (nI l) cond fa mt steps tm dr (nI th) (hd 0) (hd 1) (hd 2) (nI 0) 0 0 me st va sz ol qs lo ks su vs bs le gr rg Q := by
      intro f Q st K0 K1
      have := rl_tok (f := f + (T.length + 1)) (cond := cond) (fa := fa) (mt := mt) (me := me) (sz := sz) (ol := ol) (qs := qs) (lo := lo) (ks := ks) (su := su) (vs := vs) (bs := bs) (le := le) (gr := gr) (rg := rg) (dr := dr) (Q := Q) ht hE hL hl K o [] st (by omega) hsK (by simp) wK1 (by simp) trivial (fun q y tp st' g => K0 (by simp only [evv, q]; rfl) st' tp y g) (fun S' st' q hz hg hl _ => ?_)
      · rw [show f + 1 + (K.length + (T.length + 1)) = f + (T.length + 1) + 1 + K.length by omega]
        exact this
      · match S', hl, hz, hg, q with
        | [w], _, hz, hg, q =>
          rw [show f + (T.length + 1) + 1 = f + 1 + (T.length + 1) by omega]
          exact K1 st' w (by simp only [evv, q]; rfl) hz.1 (hg w (by simp))
    have clsT : ∀ (f : Nat) (Q : Int32 → (Int32 × Int32 × Int32 × Int32 × Int32 × Int32 × Int32 × (Nat → UInt64) × (Nat → UInt64) × (Nat → Int32) × Int32 × Int32 × Int32 × (Nat → Nat → Int32) × (Nat → Nat → UInt64) × (Nat → Nat → Int32) × (Nat → Nat → Int32) × (Nat → Nat → UInt64) × (Nat → Nat → UInt64) × (Nat → UInt64)) → Prop) (st : Nat → UInt64) (kx : UInt64), st 0 = kx → zg kx → (evv ld T = none → ∀ (st' : Nat → UInt64) (tp y : Int32) (g : Nat), WP_Rn_run_L33 (g + 1) y (nI l) cond fa mt steps tm dr (nI th) (hd 0) (hd 1) (hd 2) tp 1 1 me st' va sz ol qs lo ks su vs bs le gr rg Q) →
        (∀ (st' : Nat → UInt64) (w : UInt64), evv ld T = some w → zst st' [w, kx] → zg w → WP_Rn_run_L33 (f + 1 + 1) (nI (o + K.length + T.length)) (nI l) cond fa mt steps tm dr (nI th) (hd 0) (hd 1) (hd 2) (nI 2) 0 0 me st' va sz ol qs lo ks su vs bs le gr rg Q) → WP_Rn_run_L33 (f + 1 + (T.length + 1)) (nI (o + K.length)) (nI l) cond fa mt steps tm dr (nI th) (hd 0) (hd 1) (hd 2) (nI 1) 0 0 me st va sz ol qs lo ks su vs bs le gr rg Q := by
      intro f Q st kx hk hgk K0 K1
      have fr := ev_frame (ld := ld) (R := [kx]) T [] 1 wT1
      rw [List.nil_append] at fr
      have := rl_tok (f := f + 1) (cond := cond) (fa := fa) (mt := mt) (me := me) (sz := sz) (ol := ol) (qs := qs) (lo := lo) (ks := ks) (su := su) (vs := vs) (bs := bs) (le := le) (gr := gr) (rg := rg) (dr := dr) (Q := Q) ht hE hL hl T (o + K.length) [kx] st (by omega) hsT (by
          match K, wK1 with
          | _ :: K, _ => simp; omega
          | [], h => exact absurd h (by simp [wT])) (wT_up T 0 1 wT1) (by simpa using hgk) ⟨hk, trivial⟩ (fun q y tp st' g => K0 (by
            rw [fr] at q
            cases hq : ev ld T [] with
            | none => simp only [evv, hq]; rfl
            | some x => rw [hq] at q; cases q) st' tp y g) (fun S' st' q hz hg hl _ => ?_)
      · rw [show f + 1 + (T.length + 1) = f + 1 + 1 + T.length by omega]
        exact this
      · rw [fr] at q
        cases hq : ev ld T [] with
        | none => rw [hq] at q; cases q
        | some x =>
          rw [hq] at q
          have q' : x ++ [kx] = S' := Option.some.inj q
          subst q'
          have hx : x.length = 1 := by simpa using hl
          match x, hx, hz, hg, hq with
          | [w], _, hz, hg, hq => exact K1 st' w (by simp only [evv, hq]; rfl) hz (hg w (by simp))
    rcases v0 with ⟨v0, z0, g0⟩ | ⟨v0, z0⟩
    · subst z0
      obtain ⟨p1, v, u, pile', e1, v2⟩ := f_value ht hM hL k3 hTl pile0
      rcases v2 with ⟨v2, v3, v4⟩ | ⟨v2, v3⟩
      · subst v3
        obtain ⟨G2, sz', k', su', vs', bs', le', gr', dr', ov', fl', mdr', mfl', mks', mk', ms', ml', mg', mc', mb', G3, G4, G5, G6, G7⟩ := g_gather x4 g3 hB kx v4 dr mdr
        have M := e_Mo_perform mr mlo mdr tm (nI th) 0 kd f2 code pile hd gl ow mq tg mks mk ms ml mg mc mb f1 (nI i) (Q := fun r x => (r, x) = ((if mfl' = 0 then 1 else 0), mr, mlo, mdr', mfl', pile', gl, ow, mq, mks', mk', ms', ml', mg', mc', mb')) (by
          refine ⟨i340, ?_⟩
          rw [cli, k1, k2]
          refine ⟨fun q => absurd rfl q, fun _ => ⟨i340, p0, fun r44 m47 m48 q => ?_⟩⟩
          rw [e0] at q
          cases q
          refine ⟨fun _ => ⟨i340, p1, fun r53 m56 m57 q => ?_⟩, fun q => absurd rfl q⟩
          rw [e1] at q
          cases q
          refine ⟨fun _ => ⟨i340, fun _ => ⟨i340, fun _ => ⟨i340, i340, G2, fun m1 m2 m3 m4 m5 m6 m7 m8 m9 q => ?_⟩, fun q => absurd q (by decide)⟩, fun q => absurd q (by decide)⟩, fun q => absurd rfl q⟩
          rw [G4] at q
          cases q
          exact ⟨fun q => by rw [if_neg q], fun q => by rw [if_pos q]⟩)
        refine ⟨M.1, _, _, _, _, _, _, _, _, _, _, _, _, _, _, _, _, M.2, ?_, _, _, _, _, _, _, _, _, _, _, _, _, _, ⟨G6 x1, x2, x3, G5, x5⟩, fun f Q st K1 K0 => clsK f Q st (fun q => by rw [v0] at q; cases q) (fun st' w q hz hg => ?_)⟩
        · rcases G7 with ⟨_, _, h⟩ | ⟨_, _, h⟩ <;> subst h
          · exact Or.inl ⟨rfl, rfl⟩
          · exact Or.inr ⟨rfl, Or.inr rfl⟩
        · rw [v0] at q
          cases q
          refine clsT f Q st' kx hz g0 (fun q => by rw [v2] at q; cases q) (fun st'' w q hz hg => ?_)
          rw [v2] at q
          cases q
          obtain ⟨H1, H3⟩ := G3 [] st'' hz (by simp)
          refine rl_step (f := f + 1) (by omega) hl sA (ds_gath tm dr (nI th) (hd 0) (hd 1) (hd 2) (nI 2) 0 0 me st'' va sz ol qs lo ks su vs bs le gr rg g3 ⟨H1, H3⟩) ?_
          rcases G7 with ⟨h1, h2, h3⟩ | ⟨h1, h2, h3⟩ <;> subst h1 <;> subst h2 <;> subst h3
          · rw [show o + K.length + T.length + 1 = o + (K.length + (T.length + 1)) by omega]
            exact K1 rfl st''
          · exact K0 rfl st'' _ _ f
      · subst v3
        have M := e_Mo_perform mr mlo mdr tm (nI th) 0 kd f2 code pile hd gl ow mq tg mks mk ms ml mg mc mb f1 (nI i) (Q := fun r x => (r, x) = (0, mr, mlo, mdr, 1, pile', gl, ow, mq, mks, mk, ms, ml, mg, mc, mb)) (by
          refine ⟨i340, ?_⟩
          rw [cli, k1, k2]
          refine ⟨fun q => absurd rfl q, fun _ => ⟨i340, p0, fun r44 m47 m48 q => ?_⟩⟩
          rw [e0] at q
          cases q
          refine ⟨fun _ => ⟨i340, p1, fun r53 m56 m57 q => ?_⟩, fun q => absurd rfl q⟩
          rw [e1] at q
          cases q
          exact ⟨fun q => absurd q (by decide), fun _ => rfl⟩)
        refine ⟨M.1, _, _, _, _, _, _, _, _, _, _, _, _, _, _, _, _, M.2, Or.inr ⟨rfl, Or.inr rfl⟩, _, _, _, _, _, _, _, _, _, _, _, _, _, hX', fun f Q st K1 K0 => clsK f Q st (fun q => by rw [v0] at q; cases q) (fun st' w q hz hg => ?_)⟩
        exact clsT f Q st' w hz hg (fun q st'' tp y g => K0 rfl st'' tp y g) (fun st'' w q => by rw [v2] at q; cases q)
    · subst z0
      have M := e_Mo_perform mr mlo mdr tm (nI th) 0 kd f2 code pile hd gl ow mq tg mks mk ms ml mg mc mb f1 (nI i) (Q := fun r x => (r, x) = (0, mr, mlo, mdr, 1, pile0, gl, ow, mq, mks, mk, ms, ml, mg, mc, mb)) (by
        refine ⟨i340, ?_⟩
        rw [cli, k1, k2]
        refine ⟨fun q => absurd rfl q, fun _ => ⟨i340, p0, fun r44 m47 m48 q => ?_⟩⟩
        rw [e0] at q
        cases q
        exact ⟨fun q => absurd q (by decide), fun _ => rfl⟩)
      refine ⟨M.1, _, _, _, _, _, _, _, _, _, _, _, _, _, _, _, _, M.2, Or.inr ⟨rfl, Or.inr rfl⟩, _, _, _, _, _, _, _, _, _, _, _, _, _, hX', fun f Q st K1 K0 => clsK f Q st (fun q st' tp y g => K0 rfl st' tp y g) (fun st' w q => by rw [v0] at q; cases q)⟩
  · have hS : zxS (a1, a2, K, T) = T.map zkc ++ [if a1 = 61 then 85 + a2 else a1] := by unfold zxS; simp only [if_neg h64]
    rw [hS] at ho hs ⊢
    simp only [List.length_append, List.length_map, List.length_cons, List.length_nil] at ho
    obtain ⟨hsT, hsA⟩ := (sE_app _ _ _).mp hs
    simp only [List.length_map] at hsA
    have k4' : (a1 = 61 ∧ a2 < 6 ∧ tg i = nI a2) ∨ a1 = 33 ∨ a1 = 63 := by
      rcases k4 with h | h | h | h
      · exact Or.inl h
      · exact Or.inr (Or.inl h)
      · exact Or.inr (Or.inr h)
      · exact absurd h.1 h64
    obtain ⟨p1, v, u, pile', e1, v2⟩ := v1
    have n64 : ¬ nI a1 = 64 := fun q => h64 ((nI_eq (a := a1) (b := 64) (by omega) (by omega)).mp q)
    -- the class's tokens, then its last step
    have cls : ∀ (f : Nat) (Q : Int32 → (Int32 × Int32 × Int32 × Int32 × Int32 × Int32 × Int32 × (Nat → UInt64) × (Nat → UInt64) × (Nat → Int32) × Int32 × Int32 × Int32 × (Nat → Nat → Int32) × (Nat → Nat → UInt64) × (Nat → Nat → Int32) × (Nat → Nat → Int32) × (Nat → Nat → UInt64) × (Nat → Nat → UInt64) × (Nat → UInt64)) → Prop) (st : Nat → UInt64), (evv ld T = none → ∀ (st' : Nat → UInt64) (tp y : Int32) (g : Nat), WP_Rn_run_L33 (g + 1) y (nI l) cond fa mt steps tm dr (nI th) (hd 0) (hd 1) (hd 2) tp 1 1 me st' va sz ol qs lo ks su vs bs le gr rg Q) →
        (∀ (st' : Nat → UInt64) (w : UInt64), evv ld T = some w → st' 0 = w → zg w → WP_Rn_run_L33 (f + 1 + 1) (nI (o + T.length)) (nI l) cond fa mt steps tm dr (nI th) (hd 0) (hd 1) (hd 2) (nI 1) 0 0 me st' va sz ol qs lo ks su vs bs le gr rg Q) → WP_Rn_run_L33 (f + 1 + (T.length + 1)) (nI o) (nI l) cond fa mt steps tm dr (nI th) (hd 0) (hd 1) (hd 2) (nI 0) 0 0 me st va sz ol qs lo ks su vs bs le gr rg Q := by
      intro f Q st K0 K1
      have := rl_tok (f := f + 1) (cond := cond) (fa := fa) (mt := mt) (me := me) (sz := sz) (ol := ol) (qs := qs) (lo := lo) (ks := ks) (su := su) (vs := vs) (bs := bs) (le := le) (gr := gr) (rg := rg) (dr := dr) (Q := Q) ht hE hL hl T o [] st (by omega) hsT (by simp) wT1 (by simp) trivial (fun q y tp st' g => K0 (by simp only [evv, q]; rfl) st' tp y g) (fun S' st' q hz hg hl _ => ?_)
      · rw [show f + 1 + (T.length + 1) = f + 1 + 1 + T.length by omega]
        exact this
      · match S', hl, hz, hg, q with
        | [w], _, hz, hg, q => exact K1 st' w (by simp only [evv, q]; rfl) hz.1 (hg w (by simp))
    have hlen : (T.map zkc ++ [if a1 = 61 then 85 + a2 else a1]).length = T.length + 1 := by simp
    rw [hlen]
    rcases v2 with ⟨v2, v3, v4⟩ | ⟨v2, v3⟩
    · subst v3
      rcases k4' with ⟨q1, q2, k2⟩ | q1 | q1
      · subst q1
        -- set
        have sA : steps (o + T.length) = nI (85 + a2) := hsA.1
        have M := e_Mo_perform mr mlo mdr tm (nI th) 0 kd f2 code pile hd gl ow mq tg mks mk ms ml mg mc mb f1 (nI i) (Q := fun r x => (r, x) = (1, mr, mlo, mdr, 0, pile', (if a2 < 3 then vf_upd gl a2 v else gl), (if a2 < 3 then ow else vf_upd ow (3 * th + (a2 - 3)) v), mq, mks, mk, ms, ml, mg, mc, mb)) (by
          refine ⟨i340, ?_⟩
          rw [cli, k1, k2]
          refine ⟨fun _ => ⟨fun _ => ⟨i340, p1, fun r7 m10 m11 q => ?_⟩, fun q => absurd rfl q⟩, fun q => absurd q (by decide)⟩
          rw [e1] at q
          cases q
          refine ⟨fun _ => ⟨i340, fun _ => ⟨i340, fun _ => ⟨i340, i340, ?_⟩, fun q => absurd q (by decide)⟩, fun q => absurd q (by decide)⟩, fun q => absurd rfl q⟩
          refine pk_le 3 a2 (fun h3 => ⟨i340, ?_⟩) (fun h3 => ⟨i340, ?_⟩)
          · have e : nI th * 3 + nI a2 - 3 = nI (3 * th + (a2 - 3)) := by
              have b1 : nI th * 3 = nI (th * 3) := pk_mul th 3
              have b2 := pk_sub (a := th * 3 + a2) (b := 3) (by omega)
              rw [show th * 3 + a2 - 3 = 3 * th + (a2 - 3) by omega] at b2
              rw [b1, nI_add]
              exact b2
            rw [e, nI_clamp (by omega), if_neg (by omega), if_neg (by omega)]
            exact ⟨pk_in (3 * th + (a2 - 3)) 12 (by omega), rfl⟩
          · rw [nI_clamp (by omega), if_pos h3, if_pos h3]
            exact ⟨pk_in a2 3 h3, rfl⟩)
        refine ⟨M.1, _, _, _, _, _, _, _, _, _, _, _, _, _, _, _, _, M.2, Or.inl ⟨rfl, rfl⟩, dr, vf_upd va (if a2 < 3 then a2 else a2 + 3 * th) v, sz, ks, le, gr, su, vs, bs, ol, qs, lo, rg, ⟨x1, x2, ?_, rG', x5⟩, fun f Q st K1 K0 => cls f Q st (fun q => by rw [v2] at q; cases q) (fun st' w q hz hg => ?_)⟩
        · have := rV_set x3 ht q2 v4
          by_cases h3 : a2 < 3
          · have t := this.1 h3
            simp only [if_pos h3] at t ⊢
            exact t
          · have t := this.2 h3
            simp only [if_neg h3] at t ⊢
            exact t
        · rw [v2] at q
          cases q
          refine rl_step (f := f + 1) (by omega) hl sA (ds_set tm dr (hd 0) (hd 1) (hd 2) 0 0 me st' va sz ol qs lo ks su vs bs le gr rg ht q2 (n := 0) (by omega)) ?_
          rw [hz]
          exact K1 rfl st'
      · subst q1
        -- put
        have sA : steps (o + T.length) = nI 33 := hsA.1
        obtain ⟨⟨P1, P2⟩, ol', qs', lo', rg', mr', mlo', mq', P3, P4, P5, P6⟩ := q_put (lo := lo) (mlo := mlo) x5 v
        have M := e_Mo_perform mr mlo mdr tm (nI th) 0 kd f2 code pile hd gl ow mq tg mks mk ms ml mg mc mb f1 (nI i) (Q := fun r x => (r, x) = (1, mr', mlo', mdr, 0, pile', gl, ow, mq', mks, mk, ms, ml, mg, mc, mb)) (by
          refine ⟨i340, ?_⟩
          rw [cli, k1]
          refine ⟨fun _ => ⟨fun _ => ⟨i340, p1, fun r7 m10 m11 q => ?_⟩, fun q => absurd rfl q⟩, fun q => absurd q (by decide)⟩
          rw [e1] at q
          cases q
          refine ⟨fun _ => ⟨i340, fun _ => ⟨i340, fun q => absurd rfl q, fun _ => ⟨P2, fun m1 m2 m3 q => ?_⟩⟩, fun q => absurd q (by decide)⟩, fun q => absurd rfl q⟩
          rw [P4] at q
          cases q
          rfl)
        refine ⟨M.1, _, _, _, _, _, _, _, _, _, _, _, _, _, _, _, _, M.2, Or.inl ⟨rfl, rfl⟩, _, _, _, _, _, _, _, _, _, _, _, _, _, ⟨x1, P6 x2, x3, rG', P5⟩, fun f Q st K1 K0 => cls f Q st (fun q => by rw [v2] at q; cases q) (fun st' w q hz hg => ?_)⟩
        rw [v2] at q
        cases q
        rw [← hz] at P1 P3
        refine rl_step (f := f + 1) (by omega) hl sA (ds_char tm dr (nI th) (hd 0) (hd 1) (hd 2) (nI 1) 0 0 me st' va sz ol qs lo ks su vs bs le gr rg (c := nI 33) (Or.inl rfl) (dc_put tm (nI th) (hd 0) (hd 1) (hd 2) 0 0 me st' ol qs lo rg (n := 0) (by omega) ⟨P1, P3⟩)) ?_
        exact K1 rfl st'
      · subst q1
        -- go on or end
        have sA : steps (o + T.length) = nI 63 := hsA.1
        have M := e_Mo_perform mr mlo mdr tm (nI th) 0 kd f2 code pile hd gl ow mq tg mks mk ms ml mg mc mb f1 (nI i) (Q := fun r x => (r, x) = ((if Op.cmpValue (FP.dcmp v FP.dconst0) .l = 0 then 0 else 1), mr, mlo, mdr, 0, pile', gl, ow, mq, mks, mk, ms, ml, mg, mc, mb)) (by
          refine ⟨i340, ?_⟩
          rw [cli, k1]
          refine ⟨fun _ => ⟨fun _ => ⟨i340, p1, fun r7 m10 m11 q => ?_⟩, fun q => absurd rfl q⟩, fun q => absurd q (by decide)⟩
          rw [e1] at q
          cases q
          exact ⟨fun _ => ⟨i340, fun q => absurd rfl q, fun _ => ⟨fun q => by rw [if_pos q], fun q => by rw [if_neg q]⟩⟩, fun q => absurd rfl q⟩)
        have q63 := fun (st' : Nat → UInt64) (hz : st' 0 = v) => ds_char tm dr (nI th) (hd 0) (hd 1) (hd 2) (nI 1) 0 0 me st' va sz ol qs lo ks su vs bs le gr rg (c := nI 63) (Or.inr (Or.inr (Or.inl rfl))) (dc_q tm (nI th) (hd 0) (hd 1) (hd 2) 0 0 me st' ol qs lo rg (n := 0) (by omega))
        refine ⟨M.1, _, _, _, _, _, _, _, _, _, _, _, _, _, _, _, _, M.2, ?_, _, _, _, _, _, _, _, _, _, _, _, _, _, hX', fun f Q st K1 K0 => cls f Q st (fun q => by rw [v2] at q; cases q) (fun st' w q hz hg => ?_)⟩
        · split
          · exact Or.inr ⟨rfl, Or.inl rfl⟩
          · exact Or.inl ⟨rfl, rfl⟩
        · rw [v2] at q
          cases q
          refine rl_step (f := f + 1) (by omega) hl sA (q63 st' hz) ?_
          by_cases h0 : Op.cmpValue (FP.dcmp v FP.dconst0) .l = 0
          · rw [hz, if_pos h0]
            exact K0 (if_pos h0) st' _ _ f
          · rw [hz, if_neg h0]
            exact K1 (if_neg h0) st'
    · subst v3
      have M := e_Mo_perform mr mlo mdr tm (nI th) 0 kd f2 code pile hd gl ow mq tg mks mk ms ml mg mc mb f1 (nI i) (Q := fun r x => (r, x) = (0, mr, mlo, mdr, 1, pile', gl, ow, mq, mks, mk, ms, ml, mg, mc, mb)) (by
        refine ⟨i340, ?_⟩
        rw [cli, k1]
        refine ⟨fun _ => ⟨fun _ => ⟨i340, p1, fun r7 m10 m11 q => ?_⟩, fun q => absurd rfl q⟩, fun q => absurd q n64⟩
        rw [e1] at q
        cases q
        exact ⟨fun q => absurd q (by decide), fun _ => rfl⟩)
      refine ⟨M.1, _, _, _, _, _, _, _, _, _, _, _, _, _, _, _, _, M.2, Or.inr ⟨rfl, Or.inr rfl⟩, _, _, _, _, _, _, _, _, _, _, _, _, _, hX', fun f Q st K1 K0 => cls f Q st (fun q st' tp y g => K0 rfl st' tp y g) (fun st' w q => by rw [v2] at q; cases q)⟩
end ZXA
