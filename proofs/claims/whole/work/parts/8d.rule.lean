/-! a rule, in the class and in the reference -/
theorem rX_mono {B B' : Nat} {dr : Int32} {va : Nat → UInt64} {sz : Nat → Int32} {ks : Nat → Nat → Int32} {le : Nat → Nat → UInt64} {gr : Nat → Nat → UInt64} {su : Nat → Nat → UInt64} {vs : Nat → Nat → Int32} {bs : Nat → Nat → Int32} {ol : Int32} {qs : Int32} {lo : Int32} {rg : Nat → UInt64} {mdr : Int32} {gl : Nat → UInt64} {ow : Nat → UInt64} {mks : Nat → Int32} {mk : Nat → Int32} {mc : Nat → Int32} {mb : Nat → Int32} {ms : Nat → UInt64} {ml : Nat → UInt64} {mg : Nat → UInt64} {mr : Int32} {mlo : Int32} {mq : Nat → UInt64} (hB : B ≤ B') (h : rX B dr va sz ks le gr su vs bs ol qs lo rg mdr gl ow mks mk mc mb ms ml mg mr mlo mq) : rX B' dr va sz ks le gr su vs bs ol qs lo rg mdr gl ow mks mk mc mb ms ml mg mr mlo mq :=
  ⟨h.1, h.2.1, h.2.2.1, fun g hg => rG1_frame (h.2.2.2.1 g hg) hB rfl (fun r _ => ⟨rfl, rfl, rfl, rfl, rfl, fun _ _ => rfl⟩), h.2.2.2.2⟩
section ZXR
variable {tm cond fa mt : Int32} {th l : Nat} {ha hb hc : UInt64} {steps : Nat → Int32} {kd tg f1 f2 code conds acts met fails : Nat → Int32} {hd : Nat → UInt64}
theorem rl_end {dr : Int32} {va : Nat → UInt64} {sz : Nat → Int32} {ks : Nat → Nat → Int32} {le : Nat → Nat → UInt64} {gr : Nat → Nat → UInt64} {su : Nat → Nat → UInt64} {vs : Nat → Nat → Int32} {bs : Nat → Nat → Int32} {ol : Int32} {qs : Int32} {lo : Int32} {rg : Nat → UInt64} {me fl tp ov y : Int32} {st : Nat → UInt64} {g : Nat} {Q : Int32 → (Int32 × Int32 × Int32 × Int32 × Int32 × Int32 × Int32 × (Nat → UInt64) × (Nat → UInt64) × (Nat → Int32) × Int32 × Int32 × Int32 × (Nat → Nat → Int32) × (Nat → Nat → UInt64) × (Nat → Nat → Int32) × (Nat → Nat → Int32) × (Nat → Nat → UInt64) × (Nat → Nat → UInt64) × (Nat → UInt64)) → Prop} (hme : zb me) (he : y = nI l ∨ ov = 1) (K : Q me (fa + (if fl = 0 then 0 else 1), mt + (if me = 0 then 0 else 1), dr, tp, ov, fl, me, st, va, sz, ol, qs, lo, ks, su, vs, bs, le, gr, rg)) : WP_Rn_run_L33 (g + 1) y (nI l) cond fa mt steps tm dr (nI th) ha hb hc tp ov fl me st va sz ol qs lo ks su vs bs le gr rg Q := by
  have fin : ((fl = 0) → ((me = 0) → (zb me ∧ Q me (fa + (0 : Int32), mt + (0 : Int32), dr, tp, ov, fl, me, st, va, sz, ol, qs, lo, ks, su, vs, bs, le, gr, rg))) ∧ ((¬ me = 0) → (zb me ∧ Q me (fa + (0 : Int32), mt + (1 : Int32), dr, tp, ov, fl, me, st, va, sz, ol, qs, lo, ks, su, vs, bs, le, gr, rg)))) ∧ ((¬ fl = 0) → ((me = 0) → (zb me ∧ Q me (fa + (1 : Int32), mt + (0 : Int32), dr, tp, ov, fl, me, st, va, sz, ol, qs, lo, ks, su, vs, bs, le, gr, rg))) ∧ ((¬ me = 0) → (zb me ∧ Q me (fa + (1 : Int32), mt + (1 : Int32), dr, tp, ov, fl, me, st, va, sz, ol, qs, lo, ks, su, vs, bs, le, gr, rg)))) := by
    refine ⟨fun h1 => ⟨fun h2 => ⟨hme, ?_⟩, fun h2 => ⟨hme, ?_⟩⟩, fun h1 => ⟨fun h2 => ⟨hme, ?_⟩, fun h2 => ⟨hme, ?_⟩⟩⟩
    · rw [if_pos h1, if_pos h2] at K; exact K
    · rw [if_pos h1, if_neg h2] at K; exact K
    · rw [if_neg h1, if_pos h2] at K; exact K
    · rw [if_neg h1, if_neg h2] at K; exact K
  refine ⟨fun _ => fin, fun q => ⟨fun _ => fin, fun _ => ⟨fun _ => fin, fun q2 => ?_⟩⟩⟩
  rcases he with h | h
  · exact absurd (by rw [h]; exact Int32.le_refl _) q
  · rw [h] at q2; exact absurd q2 (by decide)
theorem r_acts {k n NA : Nat} (hk : k < 6) (hNA : NA ≤ 48) (hac : acts k = nI NA) (ht : th < 4) (hn : n ≤ 2 ^ 28) (hm : tm = nI n) (hh : zg (hd 0) ∧ zg (hd 1) ∧ zg (hd 2)) (ea : ha = hd 0) (eb : hb = hd 1) (ec : hc = hd 2) (hl : l ≤ 48) {me : Int32} (hme : zb me) :
    ∀ (A : List zAct) (idx o B : Nat) (dr : Int32) (va : Nat → UInt64) (sz : Nat → Int32) (ks : Nat → Nat → Int32) (le : Nat → Nat → UInt64) (gr : Nat → Nat → UInt64) (su : Nat → Nat → UInt64) (vs : Nat → Nat → Int32) (bs : Nat → Nat → Int32) (ol : Int32) (qs : Int32) (lo : Int32) (rg : Nat → UInt64) (mdr : Int32) (gl : Nat → UInt64) (ow : Nat → UInt64) (mks : Nat → Int32) (mk : Nat → Int32) (mc : Nat → Int32) (mb : Nat → Int32) (ms : Nat → UInt64) (ml : Nat → UInt64) (mg : Nat → UInt64) (mr : Int32) (mlo : Int32) (mq : Nat → UInt64) (pile : Nat → UInt64), zxL kd tg f1 f2 code (48 * k + idx) A → idx + A.length = NA → sE steps o (A.flatMap zxS) → o + (A.flatMap zxS).length = l → rX B dr va sz ks le gr su vs bs ol qs lo rg mdr gl ow mks mk mc mb ms ml mg mr mlo mq → B + A.length < 2 ^ 30 →
    ∃ (fl' : Int32) (pile' : Nat → UInt64) (mdr' : Int32) (gl' : Nat → UInt64) (ow' : Nat → UInt64) (mks' : Nat → Int32) (mk' : Nat → Int32) (mc' : Nat → Int32) (mb' : Nat → Int32) (ms' : Nat → UInt64) (ml' : Nat → UInt64) (mg' : Nat → UInt64) (mr' : Int32) (mlo' : Int32) (mq' : Nat → UInt64), (fl' = 0 ∨ fl' = 1) ∧
      (∀ (Qm : (Int32 × Int32 × Int32 × Int32 × (Nat → UInt64) × (Nat → UInt64) × (Nat → UInt64) × (Nat → Int32) × (Nat → UInt64) × (Nat → Int32) × (Nat → Int32) × (Nat → UInt64) × (Nat → UInt64) × (Nat → UInt64) × (Nat → Int32) × (Nat → Int32) × (Nat → Int32)) → Prop) (n : Nat), Qm (mr', mlo', mdr', fl', pile', gl', ow', met, mq', mks', mk', ms', ml', mg', mc', mb', (if fl' = 0 then fails else upd fails k (fails k + 1))) → WP_Mo_doRule_L58 (n + A.length + 1) (nI k) 1 (nI idx) mr mlo mdr tm (nI th) 0 conds code pile hd gl ow met acts kd f2 mq tg mks mk ms ml mg mc mb f1 fails Qm) ∧
      (∀ (f : Nat) (Q : Int32 → (Int32 × Int32 × Int32 × Int32 × Int32 × Int32 × Int32 × (Nat → UInt64) × (Nat → UInt64) × (Nat → Int32) × Int32 × Int32 × Int32 × (Nat → Nat → Int32) × (Nat → Nat → UInt64) × (Nat → Nat → Int32) × (Nat → Nat → Int32) × (Nat → Nat → UInt64) × (Nat → Nat → UInt64) × (Nat → UInt64)) → Prop) (st : Nat → UInt64), (∀ (dr' : Int32) (va' : Nat → UInt64) (sz' : Nat → Int32) (ks' : Nat → Nat → Int32) (le' : Nat → Nat → UInt64) (gr' : Nat → Nat → UInt64) (su' : Nat → Nat → UInt64) (vs' : Nat → Nat → Int32) (bs' : Nat → Nat → Int32) (ol' : Int32) (qs' : Int32) (lo' : Int32) (rg' : Nat → UInt64) (st' : Nat → UInt64) (tp' ov' : Int32), rX (B + A.length) dr' va' sz' ks' le' gr' su' vs' bs' ol' qs' lo' rg' mdr' gl' ow' mks' mk' mc' mb' ms' ml' mg' mr' mlo' mq' → Q me (fa + (if fl' = 0 then 0 else 1), mt + (if me = 0 then 0 else 1), dr', tp', ov', fl', me, st', va', sz', ol', qs', lo', ks', su', vs', bs', le', gr', rg')) → WP_Rn_run_L33 (f + 1 + (A.flatMap zxS).length) (nI o) (nI l) cond fa mt steps tm dr (nI th) ha hb hc (nI 0) 0 0 me st va sz ol qs lo ks su vs bs le gr rg Q) := by
  intro A
  induction A with
  | nil =>
    intro idx o B dr va sz ks le gr su vs bs ol qs lo rg mdr gl ow mks mk mc mb ms ml mg mr mlo mq pile hA hidx hs ho hX hB
    have k6 : vp_in (nI k) 6 := pk_in k 6 hk
    have clk : (nI k).toNatClampNeg = k := nI_clamp (by omega)
    refine ⟨0, pile, mdr, gl, ow, mks, mk, mc, mb, ms, ml, mg, mr, mlo, mq, Or.inl rfl, fun Qm n K => ?_, fun f Q st K => ?_⟩
    · refine ⟨k6, ?_⟩
      rw [clk, hac]
      refine pk_le NA idx (fun _ => ⟨fun _ => K, fun q => absurd rfl q⟩) (fun q => absurd q (by simp at hidx; omega))
    · exact rl_end hme (Or.inl (by rw [← ho]; rfl)) (K _ _ _ _ _ _ _ _ _ _ _ _ _ st _ _ hX)
  | cons a A ih =>
    intro idx o B dr va sz ks le gr su vs bs ol qs lo rg mdr gl ow mks mk mc mb ms ml mg mr mlo mq pile hA hidx hs ho hX hB
    have k6 : vp_in (nI k) 6 := pk_in k 6 hk
    have clk : (nI k).toNatClampNeg = k := nI_clamp (by omega)
    have hidx' : idx + (A.length + 1) = NA := hidx
    have hB' : B + (A.length + 1) < 2 ^ 30 := hB
    rw [List.flatMap_cons] at hs ho
    rw [List.length_append] at ho
    obtain ⟨hs1, hs2⟩ := (sE_app _ _ _).mp hs
    obtain ⟨p1, r, fl', pile', mdr', gl', ow', mks', mk', mc', mb', ms', ml', mg', mr', mlo', mq', e1, hr, dr', va', sz', ks', le', gr', su', vs', bs', ol', qs', lo', rg', hX', C⟩ := r_act (pile := pile) (cond := cond) (fa := fa) (mt := mt) (me := me) ht hn hm hh ea eb ec hX (by omega) hA.1 (by omega) hl (by omega) hs1
    have e48 : nI k * 48 + nI idx = nI (48 * k + idx) := by
      have := pk_mul k 48
      rw [show nI k * 48 = nI (k * 48) from this, nI_add, Nat.mul_comm]
    rcases hr with ⟨r1, r2⟩ | ⟨r1, r2⟩
    · subst r1; subst r2
      obtain ⟨fl2, pile2, mdr2, gl2, ow2, mks2, mk2, mc2, mb2, ms2, ml2, mg2, mr2, mlo2, mq2, h1, h2, h3⟩ := ih (idx + 1) (o + (zxS a).length) (B + 1) dr' va' sz' ks' le' gr' su' vs' bs' ol' qs' lo' rg' mdr' gl' ow' mks' mk' mc' mb' ms' ml' mg' mr' mlo' mq' pile' hA.2 (by omega) hs2 (by omega) hX' (by omega)
      refine ⟨fl2, pile2, mdr2, gl2, ow2, mks2, mk2, mc2, mb2, ms2, ml2, mg2, mr2, mlo2, mq2, h1, fun Qm n K => ?_, fun f Q st K => ?_⟩
      · refine ⟨k6, ?_⟩
        rw [clk, hac, e48]
        refine pk_le NA idx (fun q => absurd q (by omega)) (fun _ => ⟨fun q => absurd q (by decide), fun _ => ⟨p1, fun m1 m2 m3 m4 m5 m6 m7 m8 m9 m10 m11 m12 m13 m14 m15 m16 q => ?_⟩⟩)
        rw [e1] at q
        cases q
        rw [nI_1]
        exact h2 Qm n K
      · rw [List.flatMap_cons, List.length_append, show f + 1 + ((zxS a).length + (A.flatMap zxS).length) = (f + (A.flatMap zxS).length) + 1 + (zxS a).length by omega]
        refine C _ Q st (fun _ st' => ?_) (fun q => absurd q (by decide))
        rw [show f + (A.flatMap zxS).length + 1 = f + 1 + (A.flatMap zxS).length by omega]
        exact h3 f Q st' (fun dr3 va3 sz3 ks3 le3 gr3 su3 vs3 bs3 ol3 qs3 lo3 rg3 st3 tp3 ov3 hX3 => K _ _ _ _ _ _ _ _ _ _ _ _ _ st3 _ _ (rX_mono (by simp only [List.length_cons]; omega) hX3))
    · subst r1
      refine ⟨fl', pile', mdr', gl', ow', mks', mk', mc', mb', ms', ml', mg', mr', mlo', mq', r2, fun Qm n K => ?_, fun f Q st K => ?_⟩
      · refine ⟨k6, ?_⟩
        rw [clk, hac, e48]
        refine pk_le NA idx (fun q => absurd q (by omega)) (fun _ => ⟨fun q => absurd q (by decide), fun _ => ⟨p1, fun m1 m2 m3 m4 m5 m6 m7 m8 m9 m10 m11 m12 m13 m14 m15 m16 q => ?_⟩⟩)
        rw [e1] at q
        cases q
        have fin : ((fl' = 0) → Qm (mr', mlo', mdr', fl', pile', gl', ow', met, mq', mks', mk', ms', ml', mg', mc', mb', fails)) ∧ ((¬ fl' = 0) → vp_in (nI k) 6 ∧ vp_in (nI k) 6 ∧ Qm (mr', mlo', mdr', fl', pile', gl', ow', met, mq', mks', mk', ms', ml', mg', mc', mb', (upd fails k (fails k + 1)))) := by
          refine ⟨fun q => ?_, fun q => ⟨k6, k6, ?_⟩⟩
          · rw [if_pos q] at K; exact K
          · rw [if_neg q] at K; exact K
        show WP_Mo_doRule_L58 (n + A.length + 1) (nI k) 0 (nI idx + 1) mr' mlo' mdr' tm (nI th) fl' conds code pile' hd gl' ow' met acts kd f2 mq' tg mks' mk' ms' ml' mg' mc' mb' f1 fails Qm
        refine ⟨k6, ?_⟩
        rw [clk]
        exact ⟨fun _ => fin, fun _ => ⟨fun _ => fin, fun q => absurd rfl q⟩⟩
      · rw [List.flatMap_cons, List.length_append, show f + 1 + ((zxS a).length + (A.flatMap zxS).length) = (f + (A.flatMap zxS).length) + 1 + (zxS a).length by omega]
        refine C _ Q st (fun q => absurd q (by decide)) (fun _ st' tp y g => ?_)
        exact rl_end hme (Or.inr rfl) (K _ _ _ _ _ _ _ _ _ _ _ _ _ st' _ _ (rX_mono (by simp only [List.length_cons]; omega) hX'))
theorem mVb_V {lo hi : Nat} {c : Nat → Int32} {x : Int32} {T : List zTok} (h : mVb lo hi c x T) (hh : hi ≤ 1400) : mV c x T := by
  obtain ⟨a, h1, h2, h3, h4⟩ := h
  exact ⟨a, h1, by omega, h4⟩
theorem zxLb_L {lo hi : Nat} {kd tg f1 f2 c : Nat → Int32} (hh : hi ≤ 1400) : ∀ (A : List zAct) (i : Nat), zxLb lo hi kd tg f1 f2 c i A → zxL kd tg f1 f2 c i A
  | [], _, _ => trivial
  | a :: A, i, h => by
    refine ⟨⟨h.1.1, mVb_V h.1.2.1 hh, ?_⟩, zxLb_L hh A (i + 1) h.2⟩
    rcases h.1.2.2 with w | w | w | ⟨w1, w2, w3, w4⟩
    · exact Or.inl w
    · exact Or.inr (Or.inl w)
    · exact Or.inr (Or.inr (Or.inl w))
    · exact Or.inr (Or.inr (Or.inr ⟨w1, w2, w3, mVb_V w4 hh⟩))
theorem zxNb_N {lo hi : Nat} {c : Nat → Int32} {x : Int32} (hh : hi ≤ 1400) : ∀ (C : Option (List zTok)), zxNb lo hi c x C → zxN c x C
  | none, h => h
  | some _, h => mVb_V h hh
theorem act_pos (a : zAct) : 1 ≤ (zxS a).length := by
  unfold zxS
  split <;> simp <;> omega
theorem acts_len : ∀ A : List zAct, A.length ≤ (A.flatMap zxS).length
  | [] => Nat.le_refl _
  | a :: A => by
    have := acts_len A
    have := act_pos a
    rw [List.flatMap_cons, List.length_append, List.length_cons]
    omega
theorem r_rule {k n B : Nat} {dr : Int32} {va : Nat → UInt64} {sz : Nat → Int32} {ks : Nat → Nat → Int32} {le : Nat → Nat → UInt64} {gr : Nat → Nat → UInt64} {su : Nat → Nat → UInt64} {vs : Nat → Nat → Int32} {bs : Nat → Nat → Int32} {ol : Int32} {qs : Int32} {lo : Int32} {rg : Nat → UInt64} {mdr : Int32} {gl : Nat → UInt64} {ow : Nat → UInt64} {mks : Nat → Int32} {mk : Nat → Int32} {mc : Nat → Int32} {mb : Nat → Int32} {ms : Nat → UInt64} {ml : Nat → UInt64} {mg : Nat → UInt64} {mr : Int32} {mlo : Int32} {mq : Nat → UInt64} {tp0 ov0 fl0 me0 mf site exit msite : Int32} {st pile : Nat → UInt64} (hk : k < 6) (ht : th < 4) (hn : n ≤ 2 ^ 28) (hm : tm = nI n) (hh : zg (hd 0) ∧ zg (hd 1) ∧ zg (hd 2)) (ea : ha = hd 0) (eb : hb = hd 1) (ec : hc = hd 2) {len : Int32} (hP : rPk len site exit cond steps msite (conds k) (acts k) kd tg f1 f2 code k) (hX : rX B dr va sz ks le gr su vs bs ol qs lo rg mdr gl ow mks mk mc mb ms ml mg mr mlo mq) (hB : B + 48 < 2 ^ 30) :
    (p_Rn_run len cond fa mt steps tm dr (nI th) ha hb hc tp0 ov0 fl0 me0 st va sz ol qs lo ks su vs bs le gr rg ∧ p_Mo_doRule mr mlo mdr tm (nI th) mf conds code pile hd gl ow met acts kd f2 mq tg mks mk ms ml mg mc mb f1 fails (nI k)) ∧ ∃ (re fl' : Int32) (pile' : Nat → UInt64) (mdr' : Int32) (gl' : Nat → UInt64) (ow' : Nat → UInt64) (mks' : Nat → Int32) (mk' : Nat → Int32) (mc' : Nat → Int32) (mb' : Nat → Int32) (ms' : Nat → UInt64) (ml' : Nat → UInt64) (mg' : Nat → UInt64) (mr' : Int32) (mlo' : Int32) (mq' : Nat → UInt64) (dr' : Int32) (va' : Nat → UInt64) (sz' : Nat → Int32) (ks' : Nat → Nat → Int32) (le' : Nat → Nat → UInt64) (gr' : Nat → Nat → UInt64) (su' : Nat → Nat → UInt64) (vs' : Nat → Nat → Int32) (bs' : Nat → Nat → Int32) (ol' : Int32) (qs' : Int32) (lo' : Int32) (rg' : Nat → UInt64) (st' : Nat → UInt64) (tp' ov' : Int32), zb re ∧ (fl' = 0 ∨ fl' = 1) ∧ s_Rn_run len cond fa mt steps tm dr (nI th) ha hb hc tp0 ov0 fl0 me0 st va sz ol qs lo ks su vs bs le gr rg = (re, fa + (if fl' = 0 then 0 else 1), mt + (if re = 0 then 0 else 1), dr', tp', ov', fl', re, st', va', sz', ol', qs', lo', ks', su', vs', bs', le', gr', rg') ∧ s_Mo_doRule mr mlo mdr tm (nI th) mf conds code pile hd gl ow met acts kd f2 mq tg mks mk ms ml mg mc mb f1 fails (nI k) = (mr', mlo', mdr', fl', pile', gl', ow', (if re = 0 then met else upd met k (met k + 1)), mq', mks', mk', ms', ml', mg', mc', mb', (if fl' = 0 then fails else upd fails k (fails k + 1))) ∧ rX (B + 48) dr' va' sz' ks' le' gr' su' vs' bs' ol' qs' lo' rg' mdr' gl' ow' mks' mk' mc' mb' ms' ml' mg' mr' mlo' mq' := by
  obtain ⟨s, C, A, hs8, es, hex, ems, ec', hlen, el, hst, hcm, ema, hA⟩ := hP
  have hcm := zxNb_N (show 200 * k + 200 ≤ 1400 by omega) C hcm
  have hA := zxLb_L (show 200 * k + 200 ≤ 1400 by omega) A (48 * k) hA
  obtain ⟨l, hl⟩ : ∃ l, l = (zxC C ++ A.flatMap zxS).length := ⟨_, rfl⟩
  rw [← hl] at hlen el
  subst el
  have k6 : vp_in (nI k) 6 := pk_in k 6 hk
  have clk : (nI k).toNatClampNeg = k := nI_clamp (by omega)
  have hAl := acts_len A
  obtain ⟨hs1, hs2⟩ := (sE_app _ _ _).mp hst
  rw [List.length_append] at hl
  have acts0 := fun (met : Nat → Int32) (pile : Nat → UInt64) (hcl : rX B dr va sz ks le gr su vs bs ol qs lo rg mdr gl ow mks mk mc mb ms ml mg mr mlo mq) => r_acts (cond := cond) (fa := fa) (mt := mt) (met := met) (fails := fails) (conds := conds) (l := l) hk (NA := A.length) (by omega) ema ht hn hm hh ea eb ec (by omega) (me := 1) (Or.inr rfl) A 0 (zxC C).length B dr va sz ks le gr su vs bs ol qs lo rg mdr gl ow mks mk mc mb ms ml mg mr mlo mq pile hA (by omega) (by rw [Nat.zero_add] at hs2; exact hs2) hl.symm hX (by omega)
  match C, hcm, ec', hl, hs1, acts0 with
  | none, hcm, ec', hl, hs1, acts0 =>
    have ec0 : cond = 0 := ec'
    subst ec0
    obtain ⟨fl', pile', mdr', gl', ow', mks', mk', mc', mb', ms', ml', mg', mr', mlo', mq', h1, h2, h3⟩ := acts0 (upd met k (met k + 1)) pile hX
    have M := e_Mo_doRule mr mlo mdr tm (nI th) mf conds code pile hd gl ow met acts kd f2 mq tg mks mk ms ml mg mc mb f1 fails (nI k) (Q := fun x => x = (mr', mlo', mdr', fl', pile', gl', ow', (upd met k (met k + 1)), mq', mks', mk', ms', ml', mg', mc', mb', (if fl' = 0 then fails else upd fails k (fails k + 1)))) (by
      refine ⟨k6, ?_⟩
      rw [clk, hcm]
      refine ⟨fun _ => ⟨k6, k6, ?_⟩, fun q => absurd (by decide) q⟩
      have := h2 (fun x => x = (mr', mlo', mdr', fl', pile', gl', ow', (upd met k (met k + 1)), mq', mks', mk', ms', ml', mg', mc', mb', (if fl' = 0 then fails else upd fails k (fails k + 1)))) (599 - A.length) rfl
      rw [show 599 - A.length + A.length + 1 = 600 by omega] at this
      exact this)
    have R := e_Rn_run (nI l) 0 fa mt steps tm dr (nI th) ha hb hc tp0 ov0 fl0 me0 st va sz ol qs lo ks su vs bs le gr rg (Q := fun re x => re = 1 ∧ ∃ (dr' : Int32) (va' : Nat → UInt64) (sz' : Nat → Int32) (ks' : Nat → Nat → Int32) (le' : Nat → Nat → UInt64) (gr' : Nat → Nat → UInt64) (su' : Nat → Nat → UInt64) (vs' : Nat → Nat → Int32) (bs' : Nat → Nat → Int32) (ol' : Int32) (qs' : Int32) (lo' : Int32) (rg' : Nat → UInt64) (st' : Nat → UInt64) (tp' ov' : Int32), rX (B + A.length) dr' va' sz' ks' le' gr' su' vs' bs' ol' qs' lo' rg' mdr' gl' ow' mks' mk' mc' mb' ms' ml' mg' mr' mlo' mq' ∧ x = (fa + (if fl' = 0 then 0 else 1), mt + (if (1 : Int32) = 0 then 0 else 1), dr', tp', ov', fl', (1 : Int32), st', va', sz', ol', qs', lo', ks', su', vs', bs', le', gr', rg')) (by
      refine ⟨fun q => absurd rfl q, fun _ => ?_⟩
      have := h3 (599 - l) (fun re x => re = 1 ∧ ∃ (dr' : Int32) (va' : Nat → UInt64) (sz' : Nat → Int32) (ks' : Nat → Nat → Int32) (le' : Nat → Nat → UInt64) (gr' : Nat → Nat → UInt64) (su' : Nat → Nat → UInt64) (vs' : Nat → Nat → Int32) (bs' : Nat → Nat → Int32) (ol' : Int32) (qs' : Int32) (lo' : Int32) (rg' : Nat → UInt64) (st' : Nat → UInt64) (tp' ov' : Int32), rX (B + A.length) dr' va' sz' ks' le' gr' su' vs' bs' ol' qs' lo' rg' mdr' gl' ow' mks' mk' mc' mb' ms' ml' mg' mr' mlo' mq' ∧ x = (fa + (if fl' = 0 then 0 else 1), mt + (if (1 : Int32) = 0 then 0 else 1), dr', tp', ov', fl', (1 : Int32), st', va', sz', ol', qs', lo', ks', su', vs', bs', le', gr', rg')) st (fun dr' va' sz' ks' le' gr' su' vs' bs' ol' qs' lo' rg' st' tp' ov' hX' => ⟨rfl, _, _, _, _, _, _, _, _, _, _, _, _, _, _, _, _, hX', rfl⟩)
      rw [show 599 - l + 1 + (A.flatMap zxS).length = 600 by simp only [zxC, List.length_nil] at hl; omega] at this
      exact this)
    obtain ⟨R1, R2, dr', va', sz', ks', le', gr', su', vs', bs', ol', qs', lo', rg', st', tp', ov', R3, R4⟩ := R
    refine ⟨⟨R1, M.1⟩, 1, fl', pile', mdr', gl', ow', mks', mk', mc', mb', ms', ml', mg', mr', mlo', mq', dr', va', sz', ks', le', gr', su', vs', bs', ol', qs', lo', rg', st', tp', ov', Or.inr rfl, h1, ?_, M.2, rX_mono (by omega) R3⟩
    exact Prod.ext R2 R4
  | some T, hcm, ec', hl, hs1, acts0 =>
    have ec0 : cond = 1 := ec'
    subst ec0
    obtain ⟨hs1, hs3⟩ := (sE_app _ _ _).mp hs1
    rw [List.length_map, Nat.zero_add] at hs3
    have s47 : steps T.length = nI 47 := hs3.1
    have hl' : (T.length + 1) + (A.flatMap zxS).length = l := by simp only [zxC, List.length_append, List.length_map, List.length_cons, List.length_nil] at hl; omega
    have hcm' : mV code (conds k) T := hcm
    obtain ⟨a0, ha0, hb0, hm0, wT1⟩ := hcm'
    have hneg : ¬ conds k < 0 := by rw [ha0]; exact nI_pos (by omega)
    have x3 := hX.2.2.1
    have hE := zld_n (tm := tm) (hd := hd) ht x3
    have hM := zld_m tm th hd gl ow
    have hL := zld_g ht hn hm x3 hh
    generalize zld tm th hd gl ow = ld at hE hM hL
    rw [← ea, ← eb, ← ec] at hE
    have hX48 : rX (B + 48) dr va sz ks le gr su vs bs ol qs lo rg mdr gl ow mks mk mc mb ms ml mg mr mlo mq := rX_mono (by omega) hX
    obtain ⟨p1, v, u, pile1, e1, v2⟩ := f_value ht hM hL hcm (by omega) pile
    have cls : ∀ (Q : Int32 → (Int32 × Int32 × Int32 × Int32 × Int32 × Int32 × Int32 × (Nat → UInt64) × (Nat → UInt64) × (Nat → Int32) × Int32 × Int32 × Int32 × (Nat → Nat → Int32) × (Nat → Nat → UInt64) × (Nat → Nat → Int32) × (Nat → Nat → Int32) × (Nat → Nat → UInt64) × (Nat → Nat → UInt64) × (Nat → UInt64)) → Prop), (evv ld T = none → ∀ (st' : Nat → UInt64) (tp y : Int32) (g : Nat), WP_Rn_run_L33 (g + 1) y (nI l) 1 fa mt steps tm dr (nI th) ha hb hc tp 1 1 0 st' va sz ol qs lo ks su vs bs le gr rg Q) →
        (∀ (st' : Nat → UInt64) (w : UInt64), evv ld T = some w → st' 0 = w → zg w → WP_Rn_run_L33 (599 - T.length + 1) (nI T.length) (nI l) 1 fa mt steps tm dr (nI th) ha hb hc (nI 1) 0 0 0 st' va sz ol qs lo ks su vs bs le gr rg Q) → WP_Rn_run_L33 600 0 (nI l) 1 fa mt steps tm dr (nI th) ha hb hc 0 0 0 0 st va sz ol qs lo ks su vs bs le gr rg Q := by
      intro Q K0 K1
      have := rl_tok (f := 599 - T.length) (l := l) (cond := 1) (fa := fa) (mt := mt) (me := 0) (sz := sz) (ol := ol) (qs := qs) (lo := lo) (ks := ks) (su := su) (vs := vs) (bs := bs) (le := le) (gr := gr) (rg := rg) (dr := dr) (Q := Q) ht hE hL (by omega) T 0 [] st (by omega) hs1 (by simp) wT1 (by simp) trivial (fun q y tp st' g => K0 (by simp only [evv, q]; rfl) st' tp y g) (fun S' st' q hz hg hl _ => ?_)
      · rw [show 599 - T.length + 1 + T.length = 600 by omega] at this
        exact this
      · match S', hl, hz, hg, q with
        | [w], _, hz, hg, q =>
          rw [Nat.zero_add]
          exact K1 st' w (by simp only [evv, q]; rfl) hz.1 (hg w (by simp))
    rcases v2 with ⟨v2, v3, v4⟩ | ⟨v2, v3⟩
    · subst v3
      have s47' := fun (st' : Nat → UInt64) => ds_char tm dr (nI th) ha hb hc (nI 1) 0 0 0 st' va sz ol qs lo ks su vs bs le gr rg (c := nI 47) (Or.inr (Or.inl rfl)) (dc_c tm (nI th) ha hb hc 0 0 0 st' ol qs lo rg (n := 0) (by omega))
      by_cases h0 : Op.cmpValue (FP.dcmp v FP.dconst0) .l = 0
      · have M := e_Mo_doRule mr mlo mdr tm (nI th) mf conds code pile hd gl ow met acts kd f2 mq tg mks mk ms ml mg mc mb f1 fails (nI k) (Q := fun x => x = (mr, mlo, mdr, 0, pile1, gl, ow, met, mq, mks, mk, ms, ml, mg, mc, mb, fails)) (by
          refine ⟨k6, ?_⟩
          rw [clk]
          refine ⟨fun q => absurd q hneg, fun _ => ⟨k6, p1, fun r m1 m2 q => ?_⟩⟩
          rw [e1] at q
          cases q
          exact ⟨fun _ => ⟨fun q => absurd rfl q, fun _ => rfl⟩, fun q => absurd h0 q⟩)
        have R := e_Rn_run (nI l) 1 fa mt steps tm dr (nI th) ha hb hc tp0 ov0 fl0 me0 st va sz ol qs lo ks su vs bs le gr rg (Q := fun re x => re = 0 ∧ ∃ (st' : Nat → UInt64) (tp' ov' : Int32), x = (fa + (if (0 : Int32) = 0 then 0 else 1), mt + (if (0 : Int32) = 0 then 0 else 1), dr, tp', ov', (0 : Int32), (0 : Int32), st', va, sz, ol, qs, lo, ks, su, vs, bs, le, gr, rg)) (by
          refine ⟨fun _ => ?_, fun q => absurd q (by decide)⟩
          refine cls _ (fun q => by rw [v2] at q; cases q) (fun st' w q hz hg => ?_)
          rw [v2] at q
          cases q
          refine rl_step (f := 599 - T.length) (by omega) (by omega) s47 (s47' st') ?_
          rw [hz, if_pos h0, if_pos h0, show 599 - T.length = 598 - T.length + 1 by omega]
          exact rl_end (Or.inl rfl) (Or.inr rfl) ⟨rfl, _, _, _, rfl⟩)
        obtain ⟨R1, R2, st', tp', ov', R4⟩ := R
        refine ⟨⟨R1, M.1⟩, 0, 0, pile1, mdr, gl, ow, mks, mk, mc, mb, ms, ml, mg, mr, mlo, mq, dr, va, sz, ks, le, gr, su, vs, bs, ol, qs, lo, rg, st', tp', ov', Or.inl rfl, Or.inl rfl, ?_, M.2, hX48⟩
        exact Prod.ext R2 R4
      · obtain ⟨fl', pile', mdr', gl', ow', mks', mk', mc', mb', ms', ml', mg', mr', mlo', mq', h1, h2, h3⟩ := acts0 (upd met k (met k + 1)) pile1 hX
        have M := e_Mo_doRule mr mlo mdr tm (nI th) mf conds code pile hd gl ow met acts kd f2 mq tg mks mk ms ml mg mc mb f1 fails (nI k) (Q := fun x => x = (mr', mlo', mdr', fl', pile', gl', ow', (upd met k (met k + 1)), mq', mks', mk', ms', ml', mg', mc', mb', (if fl' = 0 then fails else upd fails k (fails k + 1)))) (by
          refine ⟨k6, ?_⟩
          rw [clk]
          refine ⟨fun q => absurd q hneg, fun _ => ⟨k6, p1, fun r m1 m2 q => ?_⟩⟩
          rw [e1] at q
          cases q
          refine ⟨fun q => absurd q h0, fun _ => ⟨fun q => absurd rfl q, fun _ => ⟨k6, k6, ?_⟩⟩⟩
          have := h2 (fun x => x = (mr', mlo', mdr', fl', pile', gl', ow', (upd met k (met k + 1)), mq', mks', mk', ms', ml', mg', mc', mb', (if fl' = 0 then fails else upd fails k (fails k + 1)))) (599 - A.length) rfl
          rw [show 599 - A.length + A.length + 1 = 600 by omega] at this
          exact this)
        have R := e_Rn_run (nI l) 1 fa mt steps tm dr (nI th) ha hb hc tp0 ov0 fl0 me0 st va sz ol qs lo ks su vs bs le gr rg (Q := fun re x => re = 1 ∧ ∃ (dr' : Int32) (va' : Nat → UInt64) (sz' : Nat → Int32) (ks' : Nat → Nat → Int32) (le' : Nat → Nat → UInt64) (gr' : Nat → Nat → UInt64) (su' : Nat → Nat → UInt64) (vs' : Nat → Nat → Int32) (bs' : Nat → Nat → Int32) (ol' : Int32) (qs' : Int32) (lo' : Int32) (rg' : Nat → UInt64) (st' : Nat → UInt64) (tp' ov' : Int32), rX (B + A.length) dr' va' sz' ks' le' gr' su' vs' bs' ol' qs' lo' rg' mdr' gl' ow' mks' mk' mc' mb' ms' ml' mg' mr' mlo' mq' ∧ x = (fa + (if fl' = 0 then 0 else 1), mt + (if (1 : Int32) = 0 then 0 else 1), dr', tp', ov', fl', (1 : Int32), st', va', sz', ol', qs', lo', ks', su', vs', bs', le', gr', rg')) (by
          refine ⟨fun _ => ?_, fun q => absurd q (by decide)⟩
          refine cls _ (fun q => by rw [v2] at q; cases q) (fun st' w q hz hg => ?_)
          rw [v2] at q
          cases q
          refine rl_step (f := 599 - T.length) (by omega) (by omega) s47 (s47' st') ?_
          rw [hz, if_neg h0, if_neg h0]
          have := h3 (598 - T.length - (A.flatMap zxS).length) (fun re x => re = 1 ∧ ∃ (dr' : Int32) (va' : Nat → UInt64) (sz' : Nat → Int32) (ks' : Nat → Nat → Int32) (le' : Nat → Nat → UInt64) (gr' : Nat → Nat → UInt64) (su' : Nat → Nat → UInt64) (vs' : Nat → Nat → Int32) (bs' : Nat → Nat → Int32) (ol' : Int32) (qs' : Int32) (lo' : Int32) (rg' : Nat → UInt64) (st' : Nat → UInt64) (tp' ov' : Int32), rX (B + A.length) dr' va' sz' ks' le' gr' su' vs' bs' ol' qs' lo' rg' mdr' gl' ow' mks' mk' mc' mb' ms' ml' mg' mr' mlo' mq' ∧ x = (fa + (if fl' = 0 then 0 else 1), mt + (if (1 : Int32) = 0 then 0 else 1), dr', tp', ov', fl', (1 : Int32), st', va', sz', ol', qs', lo', ks', su', vs', bs', le', gr', rg')) st' (fun dr' va' sz' ks' le' gr' su' vs' bs' ol' qs' lo' rg' st' tp' ov' hX' => ⟨rfl, _, _, _, _, _, _, _, _, _, _, _, _, _, _, _, _, hX', rfl⟩)
          rw [show 598 - T.length - (A.flatMap zxS).length + 1 + (A.flatMap zxS).length = 599 - T.length by omega, show (zxC (some T)).length = T.length + 1 by simp [zxC]] at this
          exact this)
        obtain ⟨R1, R2, dr', va', sz', ks', le', gr', su', vs', bs', ol', qs', lo', rg', st', tp', ov', R3, R4⟩ := R
        refine ⟨⟨R1, M.1⟩, 1, fl', pile', mdr', gl', ow', mks', mk', mc', mb', ms', ml', mg', mr', mlo', mq', dr', va', sz', ks', le', gr', su', vs', bs', ol', qs', lo', rg', st', tp', ov', Or.inr rfl, h1, ?_, M.2, rX_mono (by omega) R3⟩
        exact Prod.ext R2 R4
    · subst v3
      have M := e_Mo_doRule mr mlo mdr tm (nI th) mf conds code pile hd gl ow met acts kd f2 mq tg mks mk ms ml mg mc mb f1 fails (nI k) (Q := fun x => x = (mr, mlo, mdr, 1, pile1, gl, ow, met, mq, mks, mk, ms, ml, mg, mc, mb, (upd fails k (fails k + 1)))) (by
        refine ⟨k6, ?_⟩
        rw [clk]
        refine ⟨fun q => absurd q hneg, fun _ => ⟨k6, p1, fun r m1 m2 q => ?_⟩⟩
        rw [e1] at q
        cases q
        exact ⟨fun _ => ⟨fun _ => ⟨k6, k6, rfl⟩, fun q => absurd q (by decide)⟩, fun _ => ⟨fun _ => ⟨k6, k6, rfl⟩, fun q => absurd q (by decide)⟩⟩)
      have R := e_Rn_run (nI l) 1 fa mt steps tm dr (nI th) ha hb hc tp0 ov0 fl0 me0 st va sz ol qs lo ks su vs bs le gr rg (Q := fun re x => re = 0 ∧ ∃ (st' : Nat → UInt64) (tp' ov' : Int32), x = (fa + (if (1 : Int32) = 0 then 0 else 1), mt + (if (0 : Int32) = 0 then 0 else 1), dr, tp', ov', (1 : Int32), (0 : Int32), st', va, sz, ol, qs, lo, ks, su, vs, bs, le, gr, rg)) (by
        refine ⟨fun _ => ?_, fun q => absurd q (by decide)⟩
        refine cls _ (fun q st' tp y g => ?_) (fun st' w q hz hg => by rw [v2] at q; cases q)
        exact rl_end (Or.inl rfl) (Or.inr rfl) ⟨rfl, _, _, _, rfl⟩)
      obtain ⟨R1, R2, st', tp', ov', R4⟩ := R
      refine ⟨⟨R1, M.1⟩, 0, 1, pile1, mdr, gl, ow, mks, mk, mc, mb, ms, ml, mg, mr, mlo, mq, dr, va, sz, ks, le, gr, su, vs, bs, ol, qs, lo, rg, st', tp', ov', Or.inl rfl, Or.inr rfl, ?_, M.2, hX48⟩
      exact Prod.ext R2 R4
end ZXR
