/-! fire -/
theorem o_dm : zO_dm := fun v => z64_mul (FP.Core.i2d_fin v) (FP.Core.fin_of_lt (K := 1021) (by decide) (by omega))
theorem hand_zg {x : UInt64} (hx : vf_n64 x) (h : ¬ s_Tr_mayBeHanded x = 0) : zg x := by
  unfold s_Tr_mayBeHanded at h
  split at h
  · exact absurd rfl h
  · rename_i h1
    split at h
    · exact absurd rfl h
    · rename_i h2
      refine zg_bound 4652007308841189376 (by decide) hx (fun q => ?_) (fun q => ?_)
      · exact h2 ((zcv_ggt _).mpr (by rw [q]; decide))
      · exact h1 ((zcv_llt _).mpr (by
          have q' : FP.dcmp x 13875379345695965184 = some .lt := q
          rw [q']; decide))
theorem f_core {B n : Nat} {tm fi thr tp ov fl me mfi mth mt0 mf x1 x2 x3 : Int32} {hA hB hC x4 x6 x8 : UInt64} {there len site exit cond on fa mt mthere mon msite mmet mcond mact kd f2 tg f1 mfails code : Nat → Int32} {steps : Nat → Nat → Int32} {st mhd pile : Nat → UInt64} {dr : Int32} {va : Nat → UInt64} {sz : Nat → Int32} {ks : Nat → Nat → Int32} {le : Nat → Nat → UInt64} {gr : Nat → Nat → UInt64} {su : Nat → Nat → UInt64} {vs : Nat → Nat → Int32} {bs : Nat → Nat → Int32} {ol : Int32} {qs : Int32} {lo : Int32} {rg : Nat → UInt64} {mdr : Int32} {gl : Nat → UInt64} {ow : Nat → UInt64} {mks : Nat → Int32} {mk : Nat → Int32} {mc : Nat → Int32} {mb : Nat → Int32} {ms : Nat → UInt64} {ml : Nat → UInt64} {mg : Nat → UInt64} {mr : Int32} {mlo : Int32} {mq : Nat → UInt64} (h2 : zb x2) (hn : n ≤ 2 ^ 28) (hm : tm = nI n) (hfi : fi = mfi) (hU : rU there on fa mt mthere mon mfails mmet) (hP : rP there len site exit cond steps msite mcond mact kd tg f1 f2 code) (hX : rX B dr va sz ks le gr su vs bs ol qs lo rg mdr gl ow mks mk mc mb ms ml mg mr mlo mq) (hBB : B + 300 < 2 ^ 30) (n4 : vf_n64 x4) (n6 : vf_n64 x6) (n8 : vf_n64 x8) :
    p_Tr_fire fi tm dr thr hA hB hC tp ov fl me len site exit cond on fa mt steps st va sz ol qs lo ks su vs bs le gr rg x1 x2 x3 x4 x6 x8 ∧ p_Mo_fire mr mlo mdr mfi tm mth mt0 mf mhd mthere mon msite mmet mcond code pile gl ow mact kd f2 mq tg mks mk ms ml mg mc mb f1 mfails x1 x2 x3 x4 x6 x8 ∧ ∃ (fi' thr' tp' ov' fl' me' mth' mf' : Int32) (hA' hB' hC' : UInt64) (st' pile' mhd' : Nat → UInt64) (dr' : Int32) (va' : Nat → UInt64) (sz' : Nat → Int32) (ks' : Nat → Nat → Int32) (le' : Nat → Nat → UInt64) (gr' : Nat → Nat → UInt64) (su' : Nat → Nat → UInt64) (vs' : Nat → Nat → Int32) (bs' : Nat → Nat → Int32) (ol' : Int32) (qs' : Int32) (lo' : Int32) (rg' : Nat → UInt64) (mdr' : Int32) (gl' : Nat → UInt64) (ow' : Nat → UInt64) (mks' : Nat → Int32) (mk' : Nat → Int32) (mc' : Nat → Int32) (mb' : Nat → Int32) (ms' : Nat → UInt64) (ml' : Nat → UInt64) (mg' : Nat → UInt64) (mr' : Int32) (mlo' : Int32) (mq' : Nat → UInt64) (fa' mt' mfails' mmet' : Nat → Int32), rU there on fa' mt' mthere mon mfails' mmet' ∧ rX (B + 300) dr' va' sz' ks' le' gr' su' vs' bs' ol' qs' lo' rg' mdr' gl' ow' mks' mk' mc' mb' ms' ml' mg' mr' mlo' mq' ∧ ((∃ c, s_Tr_fire fi tm dr thr hA hB hC tp ov fl me len site exit cond on fa mt steps st va sz ol qs lo ks su vs bs le gr rg x1 x2 x3 x4 x6 x8 = Sum.inl (c, (fi', dr', thr', hA', hB', hC', tp', ov', fl', me', fa', mt', st', va', sz', ol', qs', lo', ks', su', vs', bs', le', gr', rg')) ∧ s_Mo_fire mr mlo mdr mfi tm mth mt0 mf mhd mthere mon msite mmet mcond code pile gl ow mact kd f2 mq tg mks mk ms ml mg mc mb f1 mfails x1 x2 x3 x4 x6 x8 = (c, (mr', mlo', mdr', fi', mth', 0, mf', mhd', mmet', pile', gl', ow', mq', mks', mk', ms', ml', mg', mc', mb', mfails'))) ∨ ((∃ E, s_Tr_fire fi tm dr thr hA hB hC tp ov fl me len site exit cond on fa mt steps st va sz ol qs lo ks su vs bs le gr rg x1 x2 x3 x4 x6 x8 = Sum.inr (E, (fi', dr', thr', hA', hB', hC', tp', ov', fl', me', fa', mt', st', va', sz', ol', qs', lo', ks', su', vs', bs', le', gr', rg'))) ∧ ∃ c, s_Mo_fire mr mlo mdr mfi tm mth mt0 mf mhd mthere mon msite mmet mcond code pile gl ow mact kd f2 mq tg mks mk ms ml mg mc mb f1 mfails x1 x2 x3 x4 x6 x8 = (c, (mr', mlo', mdr', fi', mth', 1, mf', mhd', mmet', pile', gl', ow', mq', mks', mk', ms', ml', mg', mc', mb', mfails')))) := by
  have bad0 : s_Mo_bad mt0 0 = (1, 1) := rfl
  have bad1 : s_Mo_bad mt0 1 = (0, 0) := rfl
  have bads : ∀ (A : WP_Tr_fire fi tm dr thr hA hB hC tp ov fl me len site exit cond on fa mt steps st va sz ol qs lo ks su vs bs le gr rg x1 x2 x3 x4 x6 x8 (fun _ _ => False) (fun _ m => m = (fi, dr, thr, hA, hB, hC, tp, ov, fl, me, fa, mt, st, va, sz, ol, qs, lo, ks, su, vs, bs, le, gr, rg))) (M : WP_Mo_fire mr mlo mdr mfi tm mth mt0 mf mhd mthere mon msite mmet mcond code pile gl ow mact kd f2 mq tg mks mk ms ml mg mc mb f1 mfails x1 x2 x3 x4 x6 x8 (fun _ b => b = (mr, mlo, mdr, mfi, mth, 1, mf, mhd, mmet, pile, gl, ow, mq, mks, mk, ms, ml, mg, mc, mb, mfails))), p_Tr_fire fi tm dr thr hA hB hC tp ov fl me len site exit cond on fa mt steps st va sz ol qs lo ks su vs bs le gr rg x1 x2 x3 x4 x6 x8 ∧ p_Mo_fire mr mlo mdr mfi tm mth mt0 mf mhd mthere mon msite mmet mcond code pile gl ow mact kd f2 mq tg mks mk ms ml mg mc mb f1 mfails x1 x2 x3 x4 x6 x8 ∧ ∃ (fi' thr' tp' ov' fl' me' mth' mf' : Int32) (hA' hB' hC' : UInt64) (st' pile' mhd' : Nat → UInt64) (dr' : Int32) (va' : Nat → UInt64) (sz' : Nat → Int32) (ks' : Nat → Nat → Int32) (le' : Nat → Nat → UInt64) (gr' : Nat → Nat → UInt64) (su' : Nat → Nat → UInt64) (vs' : Nat → Nat → Int32) (bs' : Nat → Nat → Int32) (ol' : Int32) (qs' : Int32) (lo' : Int32) (rg' : Nat → UInt64) (mdr' : Int32) (gl' : Nat → UInt64) (ow' : Nat → UInt64) (mks' : Nat → Int32) (mk' : Nat → Int32) (mc' : Nat → Int32) (mb' : Nat → Int32) (ms' : Nat → UInt64) (ml' : Nat → UInt64) (mg' : Nat → UInt64) (mr' : Int32) (mlo' : Int32) (mq' : Nat → UInt64) (fa' mt' mfails' mmet' : Nat → Int32), rU there on fa' mt' mthere mon mfails' mmet' ∧ rX (B + 300) dr' va' sz' ks' le' gr' su' vs' bs' ol' qs' lo' rg' mdr' gl' ow' mks' mk' mc' mb' ms' ml' mg' mr' mlo' mq' ∧ ((∃ c, s_Tr_fire fi tm dr thr hA hB hC tp ov fl me len site exit cond on fa mt steps st va sz ol qs lo ks su vs bs le gr rg x1 x2 x3 x4 x6 x8 = Sum.inl (c, (fi', dr', thr', hA', hB', hC', tp', ov', fl', me', fa', mt', st', va', sz', ol', qs', lo', ks', su', vs', bs', le', gr', rg')) ∧ s_Mo_fire mr mlo mdr mfi tm mth mt0 mf mhd mthere mon msite mmet mcond code pile gl ow mact kd f2 mq tg mks mk ms ml mg mc mb f1 mfails x1 x2 x3 x4 x6 x8 = (c, (mr', mlo', mdr', fi', mth', 0, mf', mhd', mmet', pile', gl', ow', mq', mks', mk', ms', ml', mg', mc', mb', mfails'))) ∨ ((∃ E, s_Tr_fire fi tm dr thr hA hB hC tp ov fl me len site exit cond on fa mt steps st va sz ol qs lo ks su vs bs le gr rg x1 x2 x3 x4 x6 x8 = Sum.inr (E, (fi', dr', thr', hA', hB', hC', tp', ov', fl', me', fa', mt', st', va', sz', ol', qs', lo', ks', su', vs', bs', le', gr', rg'))) ∧ ∃ c, s_Mo_fire mr mlo mdr mfi tm mth mt0 mf mhd mthere mon msite mmet mcond code pile gl ow mact kd f2 mq tg mks mk ms ml mg mc mb f1 mfails x1 x2 x3 x4 x6 x8 = (c, (mr', mlo', mdr', fi', mth', 1, mf', mhd', mmet', pile', gl', ow', mq', mks', mk', ms', ml', mg', mc', mb', mfails')))) := by
    intro A M
    have A := e_Tr_fire fi tm dr thr hA hB hC tp ov fl me len site exit cond on fa mt steps st va sz ol qs lo ks su vs bs le gr rg x1 x2 x3 x4 x6 x8 A
    have M := e_Mo_fire mr mlo mdr mfi tm mth mt0 mf mhd mthere mon msite mmet mcond code pile gl ow mact kd f2 mq tg mks mk ms ml mg mc mb f1 mfails x1 x2 x3 x4 x6 x8 M
    refine ⟨A.1, M.1, fi, thr, tp, ov, fl, me, mth, mf, hA, hB, hC, st, pile, mhd, dr, va, sz, ks, le, gr, su, vs, bs, ol, qs, lo, rg, mdr, gl, ow, mks, mk, mc, mb, ms, ml, mg, mr, mlo, mq, fa, mt, mfails, mmet, hU, rX_mono (by omega) hX, Or.inr ⟨?_, ?_⟩⟩
    · cases h : s_Tr_fire fi tm dr thr hA hB hC tp ov fl me len site exit cond on fa mt steps st va sz ol qs lo ks su vs bs le gr rg x1 x2 x3 x4 x6 x8 with
      | inl r => have := A.2; rw [h] at this; exact this.elim
      | inr E =>
        have := A.2
        rw [h] at this
        obtain ⟨E, m⟩ := E
        exact ⟨E, by rw [show m = (fi, dr, thr, hA, hB, hC, tp, ov, fl, me, fa, mt, st, va, sz, ol, qs, lo, ks, su, vs, bs, le, gr, rg) from this]⟩
    · have := M.2
      rw [hfi]
      generalize s_Mo_fire mr mlo mdr mfi tm mth mt0 mf mhd mthere mon msite mmet mcond code pile gl ow mact kd f2 mq tg mks mk ms ml mg mc mb f1 mfails x1 x2 x3 x4 x6 x8 = y at this
      obtain ⟨y1, y2⟩ := y
      simp only at this
      exact ⟨y1, by rw [this]⟩
  have w8 := wi x1 (n := 8) (by omega) (by omega)
  have w4 := wi x3 (n := 4) (by omega) (by omega)
  rcases w8 with ⟨⟨s, hs, rfl⟩, w1, w2⟩ | ⟨w1, w2⟩
  · rcases w4 with ⟨⟨th, ht, rfl⟩, w3, w5⟩ | ⟨w3, w5⟩
    · by_cases c4 : s_Tr_mayBeHanded x4 = 0
      · refine bads ?_ ?_
        · intro r1 q
          rw [show s_Tr_isWithin (nI s) 8 = 1 from w1] at q
          subst q
          refine ⟨fun q => absurd q (by decide), fun _ r7 q => ?_⟩
          rw [show s_Tr_isWithin (nI th) 4 = 1 from w3] at q
          subst q
          refine ⟨fun _ r13 q => ?_, fun q => absurd q (by decide)⟩
          rw [c4] at q
          subst q
          exact ⟨fun _ => rfl, fun q => absurd rfl q⟩
        · intro r1 q
          rw [show s_Mo_in (nI s) 0 7 = 1 from w2] at q
          subst q
          refine ⟨fun q => absurd q (by decide), fun _ r13 q => ?_⟩
          rw [show s_Mo_in (nI th) 0 3 = 1 from w5] at q
          subst q
          refine ⟨fun q => absurd q (by decide), fun _ r25 q => ?_⟩
          rw [show s_Mo_fits x4 = 0 from c4] at q
          subst q
          exact ⟨fun _ r7 u8 q => by rw [bad0] at q; cases q; exact ⟨fun q => absurd q (by decide), fun _ => rfl⟩, fun q => absurd rfl q⟩
      · by_cases c6 : s_Tr_mayBeHanded x6 = 0
        · refine bads ?_ ?_
          · intro r1 q
            rw [show s_Tr_isWithin (nI s) 8 = 1 from w1] at q
            subst q
            refine ⟨fun q => absurd q (by decide), fun _ r7 q => ?_⟩
            rw [show s_Tr_isWithin (nI th) 4 = 1 from w3] at q
            subst q
            refine ⟨fun _ r13 q => ⟨fun q2 => absurd (q.trans q2) c4, fun _ r19 q => ?_⟩, fun q => absurd q (by decide)⟩
            rw [c6] at q
            subst q
            exact ⟨fun _ => rfl, fun q => absurd rfl q⟩
          · intro r1 q
            rw [show s_Mo_in (nI s) 0 7 = 1 from w2] at q
            subst q
            refine ⟨fun q => absurd q (by decide), fun _ r13 q => ?_⟩
            rw [show s_Mo_in (nI th) 0 3 = 1 from w5] at q
            subst q
            refine ⟨fun q => absurd q (by decide), fun _ r25 q => ⟨fun q2 => absurd (q.trans q2) c4, fun _ r37 q => ?_⟩⟩
            rw [show s_Mo_fits x6 = 0 from c6] at q
            subst q
            exact ⟨fun _ r7 u8 q => by rw [bad0] at q; cases q; exact ⟨fun q => absurd q (by decide), fun _ => rfl⟩, fun q => absurd rfl q⟩
        · by_cases c8 : s_Tr_mayBeHanded x8 = 0
          · refine bads ?_ ?_
            · intro r1 q
              rw [show s_Tr_isWithin (nI s) 8 = 1 from w1] at q
              subst q
              refine ⟨fun q => absurd q (by decide), fun _ r7 q => ?_⟩
              rw [show s_Tr_isWithin (nI th) 4 = 1 from w3] at q
              subst q
              refine ⟨fun _ r13 q => ⟨fun q2 => absurd (q.trans q2) c4, fun _ r19 q => ⟨fun q2 => absurd (q.trans q2) c6, fun _ r25 q => ?_⟩⟩, fun q => absurd q (by decide)⟩
              rw [c8] at q
              subst q
              exact ⟨fun q => absurd rfl q, fun _ => rfl⟩
            · intro r1 q
              rw [show s_Mo_in (nI s) 0 7 = 1 from w2] at q
              subst q
              refine ⟨fun q => absurd q (by decide), fun _ r13 q => ?_⟩
              rw [show s_Mo_in (nI th) 0 3 = 1 from w5] at q
              subst q
              refine ⟨fun q => absurd q (by decide), fun _ r25 q => ⟨fun q2 => absurd (q.trans q2) c4, fun _ r37 q => ⟨fun q2 => absurd (q.trans q2) c6, fun _ r49 q => ?_⟩⟩⟩
              rw [show s_Mo_fits x8 = 0 from c8] at q
              subst q
              exact ⟨fun _ r7 u8 q => by rw [bad0] at q; cases q; exact ⟨fun q => absurd q (by decide), fun _ => rfl⟩, fun q => absurd rfl q⟩
          · have hh : zg x4 ∧ zg x6 ∧ zg x8 := ⟨hand_zg n4 c4, hand_zg n6 c6, hand_zg n8 c8⟩
            obtain ⟨hd, ehd⟩ : ∃ hd, hd = vf_upd (vf_upd (vf_upd mhd 0 x4) 1 x6) 2 x8 := ⟨_, rfl⟩
            have e0 : hd 0 = x4 := by rw [ehd]; rfl
            have e1 : hd 1 = x6 := by rw [ehd]; rfl
            have e2 : hd 2 = x8 := by rw [ehd]; rfl
            obtain ⟨c', fi', tp', ov', fl', me', mf', st', pile', dr', va', sz', ks', le', gr', su', vs', bs', ol', qs', lo', rg', mdr', gl', ow', mks', mk', mc', mb', ms', ml', mg', mr', mlo', mq', fa', mt', mfails', mmet', F1, F2, F3, F4⟩ := r_fire (xa := x4) (xb := x6) (xc := x8) (mt0 := 0) (hd := hd) ht hs h2 hn hm (by rw [e0, e1, e2]; exact hh) hfi hP 6 0 B 0 0 0 tp ov fl me mf st pile dr va sz ks le gr su vs bs ol qs lo rg mdr gl ow mks mk mc mb ms ml mg mr mlo mq fa mt mfails mmet rfl (by omega) rfl hU hX (by omega)
            rw [e0, e1, e2] at F4
            have A := e_Tr_fire fi tm dr thr hA hB hC tp ov fl me len site exit cond on fa mt steps st va sz ol qs lo ks su vs bs le gr rg (nI s) x2 (nI th) x4 x6 x8 (Q := fun a b => (a, b) = (c', (fi', dr', nI th, x4, x6, x8, tp', ov', fl', me', fa', mt', st', va', sz', ol', qs', lo', ks', su', vs', bs', le', gr', rg'))) (X := fun _ _ => False) (by
              intro r1 q
              rw [show s_Tr_isWithin (nI s) 8 = 1 from w1] at q
              subst q
              refine ⟨fun q => absurd q (by decide), fun _ r7 q => ?_⟩
              rw [show s_Tr_isWithin (nI th) 4 = 1 from w3] at q
              subst q
              refine ⟨fun _ r13 q => ⟨fun q2 => absurd (q.trans q2) c4, fun _ r19 q => ⟨fun q2 => absurd (q.trans q2) c6, fun _ r25 q => ⟨fun _ m1 m2 m3 m4 q => ?_, fun q2 => absurd (q.trans q2) c8⟩⟩⟩, fun q => absurd q (by decide)⟩
              simp only [s_Rn_hand] at q
              cases q
              exact F4 _ _ 593 rfl)
            have M := e_Mo_fire mr mlo mdr mfi tm mth mt0 mf mhd mthere mon msite mmet mcond code pile gl ow mact kd f2 mq tg mks mk ms ml mg mc mb f1 mfails (nI s) x2 (nI th) x4 x6 x8 (Q := fun a b => (a, b) = (c', (mr', mlo', mdr', fi', nI th, 0, mf', hd, mmet', pile', gl', ow', mq', mks', mk', ms', ml', mg', mc', mb', mfails'))) (by
              intro r1 q
              rw [show s_Mo_in (nI s) 0 7 = 1 from w2] at q
              subst q
              refine ⟨fun q => absurd q (by decide), fun _ r13 q => ?_⟩
              rw [show s_Mo_in (nI th) 0 3 = 1 from w5] at q
              subst q
              refine ⟨fun q => absurd q (by decide), fun _ r25 q => ⟨fun q2 => absurd (q.trans q2) c4, fun _ r37 q => ⟨fun q2 => absurd (q.trans q2) c6, fun _ r49 q => ⟨fun q2 => absurd (q.trans q2) c8, fun _ r61 u62 q => ?_⟩⟩⟩⟩
              rw [bad1] at q
              cases q
              refine ⟨fun _ => ?_, fun q => absurd rfl q⟩
              rw [← ehd]
              exact F3 _ 593 rfl)
            refine ⟨A.1, M.1, fi', nI th, tp', ov', fl', me', nI th, mf', x4, x6, x8, st', pile', hd, dr', va', sz', ks', le', gr', su', vs', bs', ol', qs', lo', rg', mdr', gl', ow', mks', mk', mc', mb', ms', ml', mg', mr', mlo', mq', fa', mt', mfails', mmet', F1, rX_mono (by omega) F2, Or.inl ⟨c', ?_, M.2⟩⟩
            cases h : s_Tr_fire fi tm dr thr hA hB hC tp ov fl me len site exit cond on fa mt steps st va sz ol qs lo ks su vs bs le gr rg (nI s) x2 (nI th) x4 x6 x8 with
            | inl r => have := A.2; rw [h] at this; exact congrArg Sum.inl this
            | inr E => have := A.2; rw [h] at this; exact this.elim
    · refine bads ?_ ?_
      · intro r1 q
        rw [show s_Tr_isWithin (nI s) 8 = 1 from w1] at q
        subst q
        refine ⟨fun q => absurd q (by decide), fun _ r7 q => ?_⟩
        rw [show s_Tr_isWithin x3 4 = 0 from w3] at q
        subst q
        exact ⟨fun q => absurd rfl q, fun _ => rfl⟩
      · intro r1 q
        rw [show s_Mo_in (nI s) 0 7 = 1 from w2] at q
        subst q
        refine ⟨fun q => absurd q (by decide), fun _ r13 q => ?_⟩
        rw [show s_Mo_in x3 0 3 = 0 from w5] at q
        subst q
        exact ⟨fun _ r7 u8 q => by rw [bad0] at q; cases q; exact ⟨fun q => absurd q (by decide), fun _ => rfl⟩, fun q => absurd rfl q⟩
  · refine bads ?_ ?_
    · intro r1 q
      rw [show s_Tr_isWithin x1 8 = 0 from w1] at q
      subst q
      exact ⟨fun _ => rfl, fun q => absurd rfl q⟩
    · intro r1 q
      rw [show s_Mo_in x1 0 7 = 0 from w2] at q
      subst q
      exact ⟨fun _ r7 u8 q => by rw [bad0] at q; cases q; exact ⟨fun q => absurd q (by decide), fun _ => rfl⟩, fun q => absurd rfl q⟩
theorem o_fire : zO_fire zI := by
  intro N t_place t_firings t_text_length t_text_at t_text_characters t_text_draft_length t_text_draft_actions t_text_draft_site t_text_draft_exit t_text_draft_conditional t_text_draft_there t_text_draft_on t_text_draft_failures t_text_draft_meetings t_text_draft_steps t_rules_e_length t_rules_e_actions t_rules_e_site t_rules_e_exit t_rules_e_conditional t_rules_e_there t_rules_e_on t_rules_e_failures t_rules_e_meetings t_rules_e_steps t_runner_time t_runner_dropped t_runner_thread t_runner_handedA t_runner_handedB t_runner_handedC t_runner_top t_runner_over t_runner_failed t_runner_met t_runner_stack t_runner_variables t_runner_gatherers_e_size t_runner_gatherers_e_keys t_runner_gatherers_e_least t_runner_gatherers_e_greatest t_runner_gatherers_e_sums t_runner_gatherers_e_values t_runner_gatherers_e_bins t_runner_records_oldest t_runner_records_size t_runner_records_lost t_runner_records_ring m_newSite m_newCondition m_newActions m_size m_place m_pos m_at m_operators m_recorded m_lost m_dropped m_firings m_time m_thread m_thrown m_failed m_text m_code m_site m_condition m_actions m_kind m_target m_first m_second m_failures m_met m_there m_on m_compared m_globals m_own m_records m_pile m_handed m_keys m_key m_count m_bins m_operator m_starts m_sum m_least m_greatest x1 x2 x3 x4 x6 x8 o hN hI hb h4 h6 h8
  obtain ⟨i1, i2, i3, i4, i5, i6, i7⟩ := hI
  obtain ⟨n, n1, n2, n3⟩ := i6
  have nn : ∀ x, (∃ v : Int32, x = FP.dmul (FP.i2d v) 4593671619917905920) → vf_n64 x := fun x ⟨v, hv⟩ => by rw [hv]; exact o_dm v
  obtain ⟨q1, q2, fi', thr', tp', ov', fl', me', mth', mf', hA', hB', hC', st', pile', mhd', dr', va', sz', ks', le', gr', su', vs', bs', ol', qs', lo', rg', mdr', gl', ow', mks', mk', mc', mb', ms', ml', mg', mr', mlo', mq', fa', mt', mfails', mmet', F1, F2, F3⟩ := f_core (thr := t_runner_thread) (tp := t_runner_top) (ov := t_runner_over) (fl := t_runner_failed) (me := t_runner_met) (mth := m_thread) (mt0 := m_thrown) (mf := m_failed) (hA := t_runner_handedA) (hB := t_runner_handedB) (hC := t_runner_handedC) (st := t_runner_stack) (mhd := m_handed) (pile := m_pile) (x1 := x1) (x3 := x3) hb (show n ≤ 2 ^ 28 by omega) n2 i2 i4 i5 i7 (by omega) (nn x4 h4) (nn x6 h6) (nn x8 h8)
  rw [show 300 * N + 300 = 300 * (N + 1) by omega] at F2
  have e : m_time = t_runner_time := n3.trans n2.symm
  rw [e]
  refine ⟨q1, q2, fun k u0 u1 u2 u3 u4 u5 u6 u7 u8 u9 u10 u11 u12 u13 u14 u15 u16 u17 u18 u19 u20 u21 u22 u23 u24 o' b v0 v1 v2 v3 v4 v5 v6 v7 v8 v9 v10 v11 v12 v13 v14 v15 v16 v17 v18 v19 v20 h1 h2 => ?_⟩
  unfold s_La_fire at h1
  rcases F3 with ⟨c, e1, e2⟩ | ⟨⟨E, e1⟩, c, e2⟩
  · rw [e1] at h1
    rw [e2] at h2
    cases h1
    cases h2
    exact ⟨rfl, fun _ => rfl, i1, rfl, i3, F1, i5, ⟨n, by omega, n2, n2⟩, F2⟩
  · rw [e1] at h1
    rw [e2] at h2
    cases h1
    cases h2
    exact ⟨rfl, fun q => absurd q (by decide), i1, rfl, i3, F1, i5, ⟨n, by omega, n2, n2⟩, F2⟩
