/-! a firing, in the class and in the reference -/
section ZXF
variable {tm x2 fi mfi mt0 : Int32} {th s n : Nat} {xa xb xc : UInt64} {there len site exit cond on mthere mon msite mcond mact kd tg f1 f2 code : Nat → Int32} {steps : Nat → Nat → Int32} {hd : Nat → UInt64}
theorem rU_run {fa mt mf mm : Nat → Int32} (h : rU there on fa mt mthere mon mf mm) {k : Nat} (hk : k < 6) (re fl : Int32) : rU there on (va_up fa k (fa k + (if fl = 0 then 0 else 1))) (va_up mt k (mt k + (if re = 0 then 0 else 1))) mthere mon (if fl = 0 then mf else upd mf k (mf k + 1)) (if re = 0 then mm else upd mm k (mm k + 1)) := by
  intro i hi
  obtain ⟨a1, a2, a3, a4, a5, a6, a7⟩ := h i hi
  refine ⟨a1, a2, ?_, ?_, a5, a6, a7⟩
  · by_cases e : i = k
    · subst e
      by_cases q : fl = 0
      · simp only [va_up, if_pos q, if_true, a3]; exact Int32.add_zero _
      · simp only [va_up, if_neg q, if_true, a3, upd]
    · by_cases q : fl = 0
      · simp only [va_up, if_pos q, if_neg e]; exact a3
      · simp only [va_up, if_neg q, if_neg e, upd]; exact a3
  · by_cases e : i = k
    · subst e
      by_cases q : re = 0
      · simp only [va_up, if_pos q, if_true, a4]; exact Int32.add_zero _
      · simp only [va_up, if_neg q, if_true, a4, upd]
    · by_cases q : re = 0
      · simp only [va_up, if_pos q, if_neg e]; exact a4
      · simp only [va_up, if_neg q, if_neg e, upd]; exact a4
theorem r_fire (ht : th < 4) (hs : s < 8) (h2 : zb x2) (hn : n ≤ 2 ^ 28) (hm : tm = nI n) (hh : zg (hd 0) ∧ zg (hd 1) ∧ zg (hd 2)) (hfi : fi = mfi) (hP : rP there len site exit cond steps msite mcond mact kd tg f1 f2 code) :
    ∀ (j k B d : Nat) (c a tp ov fl me mf : Int32) (st pile : Nat → UInt64) (dr : Int32) (va : Nat → UInt64) (sz : Nat → Int32) (ks : Nat → Nat → Int32) (le : Nat → Nat → UInt64) (gr : Nat → Nat → UInt64) (su : Nat → Nat → UInt64) (vs : Nat → Nat → Int32) (bs : Nat → Nat → Int32) (ol : Int32) (qs : Int32) (lo : Int32) (rg : Nat → UInt64) (mdr : Int32) (gl : Nat → UInt64) (ow : Nat → UInt64) (mks : Nat → Int32) (mk : Nat → Int32) (mc : Nat → Int32) (mb : Nat → Int32) (ms : Nat → UInt64) (ml : Nat → UInt64) (mg : Nat → UInt64) (mr : Int32) (mlo : Int32) (mq : Nat → UInt64) (fa mt mfails mmet : Nat → Int32), k + j = 6 → d ≤ k → (a = if d = 0 then 0 else 1) → rU there on fa mt mthere mon mfails mmet → rX B dr va sz ks le gr su vs bs ol qs lo rg mdr gl ow mks mk mc mb ms ml mg mr mlo mq → B + 48 * j < 2 ^ 30 →
    ∃ (c' fi' tp' ov' fl' me' mf' : Int32) (st' pile' : Nat → UInt64) (dr' : Int32) (va' : Nat → UInt64) (sz' : Nat → Int32) (ks' : Nat → Nat → Int32) (le' : Nat → Nat → UInt64) (gr' : Nat → Nat → UInt64) (su' : Nat → Nat → UInt64) (vs' : Nat → Nat → Int32) (bs' : Nat → Nat → Int32) (ol' : Int32) (qs' : Int32) (lo' : Int32) (rg' : Nat → UInt64) (mdr' : Int32) (gl' : Nat → UInt64) (ow' : Nat → UInt64) (mks' : Nat → Int32) (mk' : Nat → Int32) (mc' : Nat → Int32) (mb' : Nat → Int32) (ms' : Nat → UInt64) (ml' : Nat → UInt64) (mg' : Nat → UInt64) (mr' : Int32) (mlo' : Int32) (mq' : Nat → UInt64) (fa' mt' mfails' mmet' : Nat → Int32), rU there on fa' mt' mthere mon mfails' mmet' ∧ rX (B + 48 * j) dr' va' sz' ks' le' gr' su' vs' bs' ol' qs' lo' rg' mdr' gl' ow' mks' mk' mc' mb' ms' ml' mg' mr' mlo' mq' ∧
      (∀ (Qm : Int32 → (Int32 × Int32 × Int32 × Int32 × Int32 × Int32 × Int32 × (Nat → UInt64) × (Nat → Int32) × (Nat → UInt64) × (Nat → UInt64) × (Nat → UInt64) × (Nat → UInt64) × (Nat → Int32) × (Nat → Int32) × (Nat → UInt64) × (Nat → UInt64) × (Nat → UInt64) × (Nat → Int32) × (Nat → Int32) × (Nat → Int32)) → Prop) (n : Nat), Qm c' (mr', mlo', mdr', fi', nI th, mt0, mf', hd, mmet', pile', gl', ow', mq', mks', mk', ms', ml', mg', mc', mb', mfails') → WP_Mo_fire_L95 (n + j + 1) (nI s) x2 (nI th) xa xb xc c a (nI k) mr mlo mdr mfi tm (nI th) mt0 mf hd mthere mon msite mmet mcond code pile gl ow mact kd f2 mq tg mks mk ms ml mg mc mb f1 mfails Qm) ∧
      (∀ (Qc : Int32 → (Int32 × Int32 × Int32 × UInt64 × UInt64 × UInt64 × Int32 × Int32 × Int32 × Int32 × (Nat → Int32) × (Nat → Int32) × (Nat → UInt64) × (Nat → UInt64) × (Nat → Int32) × Int32 × Int32 × Int32 × (Nat → Nat → Int32) × (Nat → Nat → UInt64) × (Nat → Nat → Int32) × (Nat → Nat → Int32) × (Nat → Nat → UInt64) × (Nat → Nat → UInt64) × (Nat → UInt64)) → Prop) (Xc : String → (Int32 × Int32 × Int32 × UInt64 × UInt64 × UInt64 × Int32 × Int32 × Int32 × Int32 × (Nat → Int32) × (Nat → Int32) × (Nat → UInt64) × (Nat → UInt64) × (Nat → Int32) × Int32 × Int32 × Int32 × (Nat → Nat → Int32) × (Nat → Nat → UInt64) × (Nat → Nat → Int32) × (Nat → Nat → Int32) × (Nat → Nat → UInt64) × (Nat → Nat → UInt64) × (Nat → UInt64)) → Prop) (n : Nat), Qc c' (fi', dr', nI th, hd 0, hd 1, hd 2, tp', ov', fl', me', fa', mt', st', va', sz', ol', qs', lo', ks', su', vs', bs', le', gr', rg') → WP_Tr_fire_L84 (n + j + 1) (nI s) x2 (nI th) xa xb xc (nI d) c (nI k) fi tm dr (nI th) (hd 0) (hd 1) (hd 2) tp ov fl me len site exit cond on fa mt steps st va sz ol qs lo ks su vs bs le gr rg Qc Xc) := by
  intro j
  induction j with
  | zero =>
    intro k B d c a tp ov fl me mf st pile dr va sz ks le gr su vs bs ol qs lo rg mdr gl ow mks mk mc mb ms ml mg mr mlo mq fa mt mfails mmet hk hd' ha hU hX hB
    have hk : k = 6 := hk
    subst hk
    by_cases d0 : d = 0
    · refine ⟨c, mfi, tp, ov, fl, me, mf, st, pile, dr, va, sz, ks, le, gr, su, vs, bs, ol, qs, lo, rg, mdr, gl, ow, mks, mk, mc, mb, ms, ml, mg, mr, mlo, mq, fa, mt, mfails, mmet, hU, hX, fun Qm n K => ?_, fun Qc Xc n K => ?_⟩
      · rw [ha, if_pos d0]
        exact pk_le 6 6 (fun _ => ⟨fun _ => K, fun q => absurd rfl q⟩) (fun q => absurd q (by omega))
      · rw [d0]
        refine pk_le 6 6 (fun _ => ⟨fun _ => ?_, fun q => absurd (by decide) q⟩) (fun q => absurd q (by omega))
        rw [Int32.add_zero, hfi]; exact K
    · refine ⟨c, mfi + 1, tp, ov, fl, me, mf, st, pile, dr, va, sz, ks, le, gr, su, vs, bs, ol, qs, lo, rg, mdr, gl, ow, mks, mk, mc, mb, ms, ml, mg, mr, mlo, mq, fa, mt, mfails, mmet, hU, hX, fun Qm n K => ?_, fun Qc Xc n K => ?_⟩
      · rw [ha, if_neg d0]
        exact pk_le 6 6 (fun _ => ⟨fun q => absurd q (by decide), fun _ => K⟩) (fun q => absurd q (by omega))
      · refine pk_le 6 6 (fun _ => ⟨fun q => absurd q (nI_nle (by omega) (by omega)), fun _ => ?_⟩) (fun q => absurd q (by omega))
        rw [hfi]; exact K
  | succ j ih =>
    intro k B d c a tp ov fl me mf st pile dr va sz ks le gr su vs bs ol qs lo rg mdr gl ow mks mk mc mb ms ml mg mr mlo mq fa mt mfails mmet hk hd' ha hU hX hB
    have hk6 : k < 6 := by omega
    have k6 : vp_in (nI k) 6 := pk_in k 6 hk6
    have clk : (nI k).toNatClampNeg = k := nI_clamp (by omega)
    obtain ⟨u1, u2, u3, u4, u5, u6, u7⟩ := hU k hk6
    -- does the rule go at this firing?
    by_cases go : ¬ on k = 0 ∧ site k = nI s ∧ exit k = x2
    · obtain ⟨g1, g2, g3⟩ := go
      have hth : ¬ there k = 0 := fun q => g1 (u7 q)
      have hPk := hP k hk6 hth
      have hsite : msite k = nI (s + if x2 = 0 then 0 else 8) := by
        obtain ⟨s', C, A, h1, h2', h3, h4, _⟩ := hPk
        rw [g2] at h2'
        have : s = s' := (nI_eq (by omega) (by omega)).mp h2'
        rw [h4, g3, this]
      obtain ⟨⟨R1, M1⟩, re, fl', pile', mdr', gl', ow', mks', mk', mc', mb', ms', ml', mg', mr', mlo', mq', dr', va', sz', ks', le', gr', su', vs', bs', ol', qs', lo', rg', st', tp', ov', hre, hfl, R2, M2, hX'⟩ := r_rule (fa := fa k) (mt := mt k) (met := mmet) (fails := mfails) (tp0 := tp) (ov0 := ov) (fl0 := fl) (me0 := me) (mf := mf) (st := st) (pile := pile) (conds := mcond) (acts := mact) hk6 ht hn hm hh rfl rfl rfl hPk hX (by omega)
      have hU' := rU_run hU hk6 re fl'
      obtain ⟨c2, fi2, tp2, ov2, fl2, me2, mf2, st2, pile2, dr2, va2, sz2, ks2, le2, gr2, su2, vs2, bs2, ol2, qs2, lo2, rg2, mdr2, gl2, ow2, mks2, mk2, mc2, mb2, ms2, ml2, mg2, mr2, mlo2, mq2, fa2, mt2, mfails2, mmet2, hU2, hX2, I1, I2⟩ := ih (k + 1) (B + 48) (d + 1) (c + (if re = 0 then 0 else 1)) 1 tp' ov' fl' re fl' st' pile' dr' va' sz' ks' le' gr' su' vs' bs' ol' qs' lo' rg' mdr' gl' ow' mks' mk' mc' mb' ms' ml' mg' mr' mlo' mq' _ _ _ _ (by omega) (by omega) (by rw [if_neg (by omega)]) hU' hX' (by omega)
      refine ⟨c2, fi2, tp2, ov2, fl2, me2, mf2, st2, pile2, dr2, va2, sz2, ks2, le2, gr2, su2, vs2, bs2, ol2, qs2, lo2, rg2, mdr2, gl2, ow2, mks2, mk2, mc2, mb2, ms2, ml2, mg2, mr2, mlo2, mq2, fa2, mt2, mfails2, mmet2, hU2, rX_mono (by omega) hX2, fun Qm n K => ?_, fun Qc Xc n K => ?_⟩
      · have next := I1 Qm n K
        have hcnt : c + ((if re = 0 then mmet else upd mmet k (mmet k + 1)) k - mmet k) = c + (if re = 0 then 0 else 1) := by
          by_cases q : re = 0
          · rw [if_pos q, if_pos q, Int32.sub_self]
          · rw [if_neg q, if_neg q]
            simp only [upd, if_true]
            rw [Int32.add_comm (mmet k) 1, Int32.add_sub_cancel]
        rw [← hcnt] at next
        refine pk_le 6 k (fun q => absurd q (by omega)) (fun _ => ⟨k6, ?_⟩)
        rw [clk, ← u1]
        refine ⟨fun q => absurd q hth, fun _ => ⟨k6, fun q => absurd (u2.trans q) g1, fun _ => ⟨k6, fun q => ⟨fun _ => ⟨k6, M1, fun m1 m2 m3 m4 m5 m6 m7 m8 m9 m10 m11 m12 m13 m14 m15 m16 m17 q => ?_⟩, fun q2 => absurd ?_ q2⟩, fun q => ⟨fun _ => ⟨k6, M1, fun m1 m2 m3 m4 m5 m6 m7 m8 m9 m10 m11 m12 m13 m14 m15 m16 m17 q => ?_⟩, fun q2 => absurd ?_ q2⟩⟩⟩⟩
        · rw [M2] at q
          cases q
          refine ⟨k6, ?_⟩
          rw [nI_1]
          exact next
        · rw [hsite, if_pos q]; exact (Int32.add_zero _).symm
        · rw [M2] at q
          cases q
          refine ⟨k6, ?_⟩
          rw [nI_1]
          exact next
        · rw [hsite, if_neg q]; exact (nI_add s 8).symm
      · have next := I2 Qc Xc n K
        refine pk_le 6 k (fun q => absurd q (by omega)) (fun _ => ⟨k6, fun j44 e44 l44 r243 e243 => ?_⟩)
        have ej : k = j44 := (nI_eq (by omega) (by omega)).mp e44
        subst ej
        have ed : s_Ru_isDoneAt (site k) (exit k) (on k) (nI s) x2 = 1 := by
          unfold s_Ru_isDoneAt
          rw [if_neg g1, if_pos g2, if_pos g3]
        rw [ed] at e243
        subst e243
        refine ⟨fun q => absurd q (by decide), fun _ => ⟨R1, fun r1 m1 m2 m3 m4 m5 m6 m7 m8 m9 m10 m11 m12 m13 m14 m15 m16 m17 m18 m19 m20 q => ?_⟩⟩
        rw [R2] at q
        cases q
        rw [nI_1, nI_1]
        refine ⟨fun q => ?_, fun q => ?_⟩
        · have := next
          rw [if_pos q] at this ⊢
          exact this
        · have := next
          rw [if_neg q] at this ⊢
          exact this
    · obtain ⟨c2, fi2, tp2, ov2, fl2, me2, mf2, st2, pile2, dr2, va2, sz2, ks2, le2, gr2, su2, vs2, bs2, ol2, qs2, lo2, rg2, mdr2, gl2, ow2, mks2, mk2, mc2, mb2, ms2, ml2, mg2, mr2, mlo2, mq2, fa2, mt2, mfails2, mmet2, hU2, hX2, I1, I2⟩ := ih (k + 1) B d c a tp ov fl me mf st pile dr va sz ks le gr su vs bs ol qs lo rg mdr gl ow mks mk mc mb ms ml mg mr mlo mq _ _ _ _ (by omega) (by omega) ha hU hX (by omega)
      refine ⟨c2, fi2, tp2, ov2, fl2, me2, mf2, st2, pile2, dr2, va2, sz2, ks2, le2, gr2, su2, vs2, bs2, ol2, qs2, lo2, rg2, mdr2, gl2, ow2, mks2, mk2, mc2, mb2, ms2, ml2, mg2, mr2, mlo2, mq2, fa2, mt2, mfails2, mmet2, hU2, rX_mono (by omega) hX2, fun Qm n K => ?_, fun Qc Xc n K => ?_⟩
      · have next := I1 Qm n K
        rw [← nI_1] at next
        refine pk_le 6 k (fun q => absurd q (by omega)) (fun _ => ⟨k6, ?_⟩)
        rw [clk]
        refine ⟨fun _ => next, fun q1 => ⟨k6, fun _ => next, fun q2 => ⟨k6, fun q => ⟨fun q3 => absurd ?_ go, fun _ => next⟩, fun q => ⟨fun q3 => absurd ?_ go, fun _ => next⟩⟩⟩⟩
        · rw [← u1] at q1
          rw [← u2] at q2
          obtain ⟨s', C, A, h1, h2', h3, h4, _⟩ := hP k hk6 q1
          rw [h4, Int32.add_zero] at q3
          have e3 := (nI_eq (by split <;> omega) (by omega)).mp q3
          refine ⟨q2, ?_, ?_⟩
          · rw [h2']; congr 1
            split at e3 <;> omega
          · rw [q]
            split at e3
            · assumption
            · omega
        · rw [← u1] at q1
          rw [← u2] at q2
          obtain ⟨s', C, A, h1, h2', h3, h4, _⟩ := hP k hk6 q1
          have q3' : nI (s' + if exit k = 0 then 0 else 8) = nI (s + 8) := by rw [← h4, q3]; exact nI_add s 8
          have e3 := (nI_eq (by split <;> omega) (by omega)).mp q3'
          refine ⟨q2, ?_, ?_⟩
          · rw [h2']; congr 1
            split at e3 <;> omega
          · split at e3
            · omega
            · rename_i q4
              rcases h3 with h3 | h3
              · exact absurd h3 q4
              · rcases h2 with h2 | h2
                · exact absurd h2 q
                · rw [h3, h2]
      · have next := I2 Qc Xc n K
        rw [← nI_1] at next
        refine pk_le 6 k (fun q => absurd q (by omega)) (fun _ => ⟨k6, fun j44 e44 l44 r243 e243 => ?_⟩)
        have ej : k = j44 := (nI_eq (by omega) (by omega)).mp e44
        subst ej
        have ed : s_Ru_isDoneAt (site k) (exit k) (on k) (nI s) x2 = 0 := by
          unfold s_Ru_isDoneAt
          split
          · rfl
          · split
            · split
              · exact absurd ⟨by assumption, by assumption, by assumption⟩ go
              · rfl
            · rfl
        rw [ed] at e243
        subst e243
        exact ⟨fun _ => next, fun q => absurd rfl q⟩
end ZXF
