/-! the class's steps that act -/
section ZAC
variable (tm dr th : Int32) (ha hb hc : UInt64) (tp ov fl me : Int32) (st va : Nat → UInt64) (sz : Nat → Int32) (ol qs lo : Int32) (ks : Nat → Nat → Int32) (su : Nat → Nat → UInt64) (vs bs : Nat → Nat → Int32) (le gr : Nat → Nat → UInt64) (rg : Nat → UInt64)
theorem ds_set {t j n : Nat} (ht : t < 4) (hj : j < 6) (hn : n < 48) : p_Rn_doStep tm dr (nI t) ha hb hc (nI (n + 1)) ov fl me st va sz ol qs lo ks su vs bs le gr rg (nI (85 + j)) ∧ s_Rn_doStep tm dr (nI t) ha hb hc (nI (n + 1)) ov fl me st va sz ol qs lo ks su vs bs le gr rg (nI (85 + j)) = (dr, nI n, ov, fl, me, st, vf_upd va (if j < 3 then j else j + 3 * t) (st n), sz, ol, qs, lo, ks, su, vs, bs, le, gr, rg) := by
  refine e_Rn_doStep tm dr (nI t) ha hb hc (nI (n + 1)) ov fl me st va sz ol qs lo ks su vs bs le gr rg (nI (85 + j)) (Q := fun r => r = (dr, nI n, ov, fl, me, st, vf_upd va (if j < 3 then j else j + 3 * t) (st n), sz, ol, qs, lo, ks, su, vs, bs, le, gr, rg)) ?_
  refine pk_lt (85 + j) 256 (fun _ => pk_lt (85 + j) 117 (fun _ => pk_lt (85 + j) 85 (fun q => absurd q (by omega)) (fun _ => pk_le 91 (85 + j) (fun q => absurd q (by omega)) (fun _ => ?_))) (fun q => absurd q (by omega))) (fun q => absurd q (by omega))
  have e : nI (85 + j) - 85 = nI j := by
    have := pk_sub (a := 85 + j) (b := 85) (by omega)
    rw [show 85 + j - 85 = j by omega] at this
    exact this
  have po := f_pop hn st
  have se := f_set ht hj va (st n)
  refine ⟨po.1, fun r u q => ?_⟩
  rw [po.2] at q
  cases q
  rw [e]
  exact ⟨se.1, fun u q => by rw [se.2] at q; subst q; rfl⟩
theorem dc_put {n : Nat} (hn : n < 48) {ol' qs' lo' : Int32} {rg' : Nat → UInt64} (k : p_Re_put ol qs lo rg (st n) ∧ s_Re_put ol qs lo rg (st n) = (ol', qs', lo', rg')) : p_Rn_doCharacter tm th ha hb hc (nI (n + 1)) ov fl me st ol qs lo rg 33 ∧ s_Rn_doCharacter tm th ha hb hc (nI (n + 1)) ov fl me st ol qs lo rg 33 = (nI n, ov, fl, me, st, ol', qs', lo', rg') := by
  refine e_Rn_doCharacter tm th ha hb hc (nI (n + 1)) ov fl me st ol qs lo rg 33 (Q := fun r => r = (nI n, ov, fl, me, st, ol', qs', lo', rg')) ?_
  have po := f_pop hn st
  refine ⟨fun _ => ⟨po.1, fun r u q => ?_⟩, fun q => absurd rfl q⟩
  rw [po.2] at q
  cases q
  exact ⟨k.1, fun m1 m2 m3 m4 q => by rw [k.2] at q; cases q; rfl⟩
theorem dc_q {n : Nat} (hn : n < 48) : p_Rn_doCharacter tm th ha hb hc (nI (n + 1)) ov fl me st ol qs lo rg 63 ∧ s_Rn_doCharacter tm th ha hb hc (nI (n + 1)) ov fl me st ol qs lo rg 63 = (nI n, (if Op.cmpValue (FP.dcmp (st n) FP.dconst0) .l = 0 then 1 else 0), fl, me, st, ol, qs, lo, rg) := by
  refine e_Rn_doCharacter tm th ha hb hc (nI (n + 1)) ov fl me st ol qs lo rg 63 (Q := fun r => r = (nI n, (if Op.cmpValue (FP.dcmp (st n) FP.dconst0) .l = 0 then 1 else 0), fl, me, st, ol, qs, lo, rg)) ?_
  have po := f_pop hn st
  refine ⟨fun q => absurd q (by decide), fun _ => ⟨fun q => absurd q (by decide), fun _ => ⟨fun _ => ⟨po.1, fun r u q => ?_⟩, fun q => absurd rfl q⟩⟩⟩
  rw [po.2] at q
  cases q
  exact ⟨fun h => by rw [if_neg h], fun h => by rw [if_pos h]⟩
theorem dc_c {n : Nat} (hn : n < 48) : p_Rn_doCharacter tm th ha hb hc (nI (n + 1)) ov fl me st ol qs lo rg 47 ∧ s_Rn_doCharacter tm th ha hb hc (nI (n + 1)) ov fl me st ol qs lo rg 47 = (nI n, (if Op.cmpValue (FP.dcmp (st n) FP.dconst0) .l = 0 then 1 else 0), fl, (if Op.cmpValue (FP.dcmp (st n) FP.dconst0) .l = 0 then 0 else 1), st, ol, qs, lo, rg) := by
  refine e_Rn_doCharacter tm th ha hb hc (nI (n + 1)) ov fl me st ol qs lo rg 47 (Q := fun r => r = (nI n, (if Op.cmpValue (FP.dcmp (st n) FP.dconst0) .l = 0 then 1 else 0), fl, (if Op.cmpValue (FP.dcmp (st n) FP.dconst0) .l = 0 then 0 else 1), st, ol, qs, lo, rg)) ?_
  have po := f_pop hn st
  refine ⟨fun q => absurd q (by decide), fun _ => ⟨fun _ => ⟨po.1, fun r u q => ?_⟩, fun q => absurd rfl q⟩⟩
  rw [po.2] at q
  cases q
  exact ⟨fun h => by rw [if_pos h, if_pos h], fun h => by rw [if_neg h, if_neg h]⟩
theorem ds_gath {g : Nat} (hg : g < 3) {sz' : Int32} {k' : Nat → Int32} {su' : Nat → UInt64} {vs' bs' : Nat → Int32} {le' gr' : Nat → UInt64} {dr' tp' ov' fl' : Int32}
    (k : p_Rn_gather (sz g) (ks g) (su g) (vs g) (bs g) (le g) (gr g) dr tp ov fl st ∧ s_Rn_gather (sz g) (ks g) (su g) (vs g) (bs g) (le g) (gr g) dr tp ov fl st = (sz', k', su', vs', bs', le', gr', dr', tp', ov', fl')) :
    p_Rn_doStep tm dr th ha hb hc tp ov fl me st va sz ol qs lo ks su vs bs le gr rg (nI (65 + g)) ∧ s_Rn_doStep tm dr th ha hb hc tp ov fl me st va sz ol qs lo ks su vs bs le gr rg (nI (65 + g)) = (dr', tp', ov', fl', me, st, va, va_up sz g sz', ol, qs, lo, va_up ks g k', va_up su g su', va_up vs g vs', va_up bs g bs', va_up le g le', va_up gr g gr', rg) := by
  refine e_Rn_doStep tm dr th ha hb hc tp ov fl me st va sz ol qs lo ks su vs bs le gr rg (nI (65 + g)) (Q := fun r => r = (dr', tp', ov', fl', me, st, va, va_up sz g sz', ol, qs, lo, va_up ks g k', va_up su g su', va_up vs g vs', va_up bs g bs', va_up le g le', va_up gr g gr', rg)) ?_
  refine pk_lt (65 + g) 256 (fun _ => pk_lt (65 + g) 117 (fun _ => pk_lt (65 + g) 85 (fun _ => pk_lt (65 + g) 65 (fun q => absurd q (by omega)) (fun _ => pk_le 68 (65 + g) (fun q => absurd q (by omega)) (fun _ => ?_))) (fun q => absurd q (by omega))) (fun q => absurd q (by omega))) (fun q => absurd q (by omega))
  have e : nI (65 + g) - 65 = nI g := by
    have := pk_sub (a := 65 + g) (b := 65) (by omega)
    rw [show 65 + g - 65 = g by omega] at this
    exact this
  rw [e]
  refine ⟨pk_in g 3 hg, fun j hj hj3 => ?_⟩
  have : g = j := (nI_eq (by omega) (by omega)).mp hj
  subst this
  refine ⟨k.1, fun m1 m2 m3 m4 m5 m6 m7 m8 m9 m10 m11 q => ?_⟩
  rw [k.2] at q
  cases q
  rfl
end ZAC
/-- what a name means, by the reference's state -/
def zld (tm : Int32) (th : Nat) (hd gl ow : Nat → UInt64) (c : Nat) : UInt64 := if c ≤ 99 then hd (c - 97) else if c = 116 then FP.i2d tm else if c = 107 then FP.i2d (nI th) else if c < 120 then gl (c - 117) else ow (3 * th + (c - 120))
theorem zld_m (tm : Int32) (th : Nat) (hd gl ow : Nat → UInt64) : zEm (zld tm th hd gl ow) tm th hd gl ow := by
  refine ⟨fun j hj => ?_, ?_, ?_, fun j hj => ?_, fun j hj => ?_⟩
  · unfold zld; rw [if_pos (by omega)]; congr 1; omega
  · rfl
  · rfl
  · unfold zld; rw [if_neg (by omega), if_neg (by omega), if_neg (by omega), if_pos (by omega)]; congr 1; omega
  · unfold zld; rw [if_neg (by omega), if_neg (by omega), if_neg (by omega), if_neg (by omega)]; congr 1; omega
theorem zld_n {tm : Int32} {th : Nat} (ht : th < 4) {hd gl ow va : Nat → UInt64} (hV : rV va gl ow) : zEn (zld tm th hd gl ow) tm th (hd 0) (hd 1) (hd 2) va := by
  obtain ⟨h1, h2, h3, h4, h5⟩ := zld_m tm th hd gl ow
  refine ⟨h1 0 (by omega), h1 1 (by omega), h1 2 (by omega), h2, h3, fun j hj => ?_, fun j hj => ?_⟩
  · rw [h4 j hj, (hV.1 j hj).1]
  · rw [h5 j hj, (hV.2 (3 * th + j) (by omega)).1]
theorem zld_g {tm : Int32} {th n : Nat} (ht : th < 4) (hn : n ≤ 2 ^ 28) (hm : tm = nI n) {hd gl ow va : Nat → UInt64} (hV : rV va gl ow) (hh : zg (hd 0) ∧ zg (hd 1) ∧ zg (hd 2)) : zLg (zld tm th hd gl ow) := by
  intro c hc
  unfold zld
  rcases hc with ⟨a, b⟩ | a | a | ⟨a, b⟩
  · rw [if_pos b]
    rcases (by omega : c = 97 ∨ c = 98 ∨ c = 99) with q | q | q <;> subst q
    · exact hh.1
    · exact hh.2.1
    · exact hh.2.2
  · rw [if_neg (by omega), if_pos a, hm]; exact zg_i2dN hn
  · rw [if_neg (by omega), if_neg (by omega), if_pos a]; exact zg_i2dN (by omega)
  · rw [if_neg (by omega), if_neg (by omega), if_neg (by omega)]
    split
    · exact (hV.1 _ (by omega)).2
    · exact (hV.2 _ (by omega)).2
theorem ev_frame {ld : Nat → UInt64} {R : List UInt64} : ∀ (T : List zTok) (S : List UInt64) (e : Nat), wT S.length T e → ev ld T (S ++ R) = (ev ld T S).map (· ++ R)
  | [], S, e, _ => rfl
  | (t1, t2) :: T, S, e, h => by
    rcases h with ⟨h1, h2, h⟩ | ⟨h1, h2, h⟩ | ⟨h1, h2, h3, h⟩ | ⟨h1, h2, h3, h⟩
    · simp only at h1
      subst h1
      exact ev_frame T (_ :: S) e h
    · simp only at h1
      subst h1
      exact ev_frame T (_ :: S) e h
    · simp only at h1
      subst h1
      match S, h3, h with
      | y :: x :: S, _, h =>
        show ((zrk t2 x y).map (· :: (S ++ R))).bind (ev ld T) = (((zrk t2 x y).map (· :: S)).bind (ev ld T)).map (· ++ R)
        cases zrk t2 x y with
        | none => rfl
        | some v => exact ev_frame T (v :: S) e h
    · simp only at h1
      subst h1
      match S, h3, h with
      | y :: S, _, h => exact ev_frame T (_ :: S) e h
theorem sE_app {s : Nat → Int32} : ∀ (L M : List Nat) (o : Nat), sE s o (L ++ M) ↔ sE s o L ∧ sE s (o + L.length) M
  | [], M, o => by simp [sE]
  | x :: L, M, o => by
    have := sE_app (s := s) L M (o + 1)
    show (s o = nI x ∧ sE s (o + 1) (L ++ M)) ↔ (s o = nI x ∧ sE s (o + 1) L) ∧ sE s (o + (L.length + 1)) M
    rw [this, and_assoc, show o + 1 + L.length = o + (L.length + 1) by omega]
theorem rV_set {va gl ow : Nat → UInt64} (hV : rV va gl ow) {th j : Nat} (ht : th < 4) (hj : j < 6) {v : UInt64} (hv : zg v) : (j < 3 → rV (vf_upd va (if j < 3 then j else j + 3 * th) v) (vf_upd gl j v) ow) ∧ (¬ j < 3 → rV (vf_upd va (if j < 3 then j else j + 3 * th) v) gl (vf_upd ow (3 * th + (j - 3)) v)) := by
  refine ⟨fun h => ⟨fun i hi => ?_, fun i hi => ?_⟩, fun h => ⟨fun i hi => ?_, fun i hi => ?_⟩⟩
  · rw [if_pos h]
    simp only [vf_upd]
    split
    · exact ⟨rfl, hv⟩
    · exact hV.1 i hi
  · rw [if_pos h]
    simp only [vf_upd]
    rw [if_neg (by omega)]
    exact hV.2 i hi
  · rw [if_neg h]
    simp only [vf_upd]
    rw [if_neg (by omega)]
    exact hV.1 i hi
  · rw [if_neg h]
    simp only [vf_upd]
    by_cases q : i = 3 * th + (j - 3)
    · rw [if_pos (by omega), if_pos q]
      exact ⟨rfl, hv⟩
    · rw [if_neg (by omega), if_neg q]
      exact hV.2 i hi
