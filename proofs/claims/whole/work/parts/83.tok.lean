/-! the class does a token -/
section ZTK
variable (tm dr th : Int32) (ha hb hc : UInt64) (tp ov fl me : Int32) (st va : Nat → UInt64) (sz : Nat → Int32) (ol qs lo : Int32) (ks : Nat → Nat → Int32) (su : Nat → Nat → UInt64) (vs bs : Nat → Nat → Int32) (le gr : Nat → Nat → UInt64) (rg : Nat → UInt64)
theorem ds_char {c : Int32} (h : c = 33 ∨ c = 47 ∨ c = 63 ∨ c = 97 ∨ c = 98 ∨ c = 99 ∨ c = 107 ∨ c = 116 ∨ c = 126 ∨ c = 60 ∨ c = 62 ∨ c = 61 ∨ c = 43 ∨ c = 45 ∨ c = 42 ∨ c = 58) {tp' ov' fl' me' ol' qs' lo' : Int32} {st' rg' : Nat → UInt64}
    (k : p_Rn_doCharacter tm th ha hb hc tp ov fl me st ol qs lo rg c ∧ s_Rn_doCharacter tm th ha hb hc tp ov fl me st ol qs lo rg c = (tp', ov', fl', me', st', ol', qs', lo', rg')) :
    p_Rn_doStep tm dr th ha hb hc tp ov fl me st va sz ol qs lo ks su vs bs le gr rg c ∧ s_Rn_doStep tm dr th ha hb hc tp ov fl me st va sz ol qs lo ks su vs bs le gr rg c = (dr, tp', ov', fl', me', st', va, sz, ol', qs', lo', ks, su, vs, bs, le, gr, rg') := by
  refine e_Rn_doStep tm dr th ha hb hc tp ov fl me st va sz ol qs lo ks su vs bs le gr rg c (Q := fun r => r = (dr, tp', ov', fl', me', st', va, sz, ol', qs', lo', ks, su, vs, bs, le, gr, rg')) ?_
  have k2 := k.2
  have k1 := k.1
  clear k
  unfold WP_Rn_doStep
  rcases h with rfl | rfl | rfl | rfl | rfl | rfl | rfl | rfl | rfl | rfl | rfl | rfl | rfl | rfl | rfl | rfl <;>
    simp only [Int32.reduceLT, Int32.reduceLE, not_true_eq_false, not_false_eq_true, false_implies, forall_const, true_and, and_true] <;>
    exact ⟨k1, fun m1 m2 m3 m4 m5 m6 m7 m8 m9 q => by rw [k2] at q; cases q; rfl⟩
/-- names pushed by a character -/
theorem dc_push {c : Nat} {v : UInt64} {n : Nat} (hn : n < 48) (h : (c = 97 ∧ v = ha) ∨ (c = 98 ∧ v = hb) ∨ (c = 99 ∧ v = hc) ∨ (c = 107 ∧ v = FP.i2d th) ∨ (c = 116 ∧ v = FP.i2d tm)) :
    p_Rn_doCharacter tm th ha hb hc (nI n) ov fl me st ol qs lo rg (nI c) ∧ s_Rn_doCharacter tm th ha hb hc (nI n) ov fl me st ol qs lo rg (nI c) = (nI (n + 1), ov, fl, me, vf_upd st n v, ol, qs, lo, rg) := by
  refine e_Rn_doCharacter tm th ha hb hc (nI n) ov fl me st ol qs lo rg (nI c) (Q := fun r => r = (nI (n + 1), ov, fl, me, vf_upd st n v, ol, qs, lo, rg)) ?_
  unfold WP_Rn_doCharacter
  have pu := fun v => f_push hn st v
  rcases h with ⟨rfl, rfl⟩ | ⟨rfl, rfl⟩ | ⟨rfl, rfl⟩ | ⟨rfl, rfl⟩ | ⟨rfl, rfl⟩
  · simp only [show nI 97 = (97 : Int32) from rfl]
    simp
    exact ⟨(pu _).1, fun m1 m2 q => by rw [(pu _).2] at q; cases q; exact ⟨rfl, rfl⟩⟩
  · simp only [show nI 98 = (98 : Int32) from rfl]
    simp
    exact ⟨(pu _).1, fun m1 m2 q => by rw [(pu _).2] at q; cases q; exact ⟨rfl, rfl⟩⟩
  · simp only [show nI 99 = (99 : Int32) from rfl]
    simp
    exact ⟨(pu _).1, fun m1 m2 q => by rw [(pu _).2] at q; cases q; exact ⟨rfl, rfl⟩⟩
  · simp only [show nI 107 = (107 : Int32) from rfl]
    simp
    exact ⟨(pu _).1, fun m1 m2 q => by rw [(pu _).2] at q; cases q; exact ⟨rfl, rfl⟩⟩
  · simp only [show nI 116 = (116 : Int32) from rfl]
    simp
    exact ⟨(pu _).1, fun m1 m2 q => by rw [(pu _).2] at q; cases q; exact ⟨rfl, rfl⟩⟩
theorem dc_neg {n : Nat} (hn : n < 48) : p_Rn_doCharacter tm th ha hb hc (nI (n + 1)) ov fl me st ol qs lo rg 126 ∧ s_Rn_doCharacter tm th ha hb hc (nI (n + 1)) ov fl me st ol qs lo rg 126 = (nI (n + 1), ov, fl, me, vf_upd st n (FP.dneg (st n)), ol, qs, lo, rg) := by
  refine e_Rn_doCharacter tm th ha hb hc (nI (n + 1)) ov fl me st ol qs lo rg 126 (Q := fun r => r = (nI (n + 1), ov, fl, me, vf_upd st n (FP.dneg (st n)), ol, qs, lo, rg)) ?_
  unfold WP_Rn_doCharacter
  have pu := fun v => f_push hn st v
  have po := f_pop hn st
  simp
  refine ⟨po.1, fun m1 m2 q => ?_⟩
  rw [po.2] at q
  cases q
  exact ⟨(pu _).1, fun m1 m2 q => by rw [(pu _).2] at q; cases q; exact ⟨rfl, rfl⟩⟩
theorem dc_op {c : Nat} (hop : zOp c) {tp' ov' fl' : Int32} {st' : Nat → UInt64} (k : p_Rn_operate tp ov fl st (nI c) ∧ s_Rn_operate tp ov fl st (nI c) = (tp', ov', fl', st')) :
    p_Rn_doCharacter tm th ha hb hc tp ov fl me st ol qs lo rg (nI c) ∧ s_Rn_doCharacter tm th ha hb hc tp ov fl me st ol qs lo rg (nI c) = (tp', ov', fl', me, st', ol, qs, lo, rg) := by
  refine e_Rn_doCharacter tm th ha hb hc tp ov fl me st ol qs lo rg (nI c) (Q := fun r => r = (tp', ov', fl', me, st', ol, qs, lo, rg)) ?_
  unfold WP_Rn_doCharacter
  have g : ∀ m89 m90 m91 m92, s_Rn_operate tp ov fl st (nI c) = (m89, m90, m91, m92) → (m89, m90, m91, me, m92, ol, qs, lo, rg) = (tp', ov', fl', me, st', ol, qs, lo, rg) := by
    intro m1 m2 m3 m4 q
    rw [k.2] at q
    cases q
    rfl
  have k1 := k.1
  clear k
  rcases hop with rfl | rfl | rfl | rfl | rfl | rfl | rfl
  all_goals
    refine ⟨fun q => absurd q (by decide), fun _ => ⟨fun q => absurd q (by decide), fun _ => ⟨fun q => absurd q (by decide), fun _ => ⟨fun q => absurd q (by decide), fun _ => ⟨fun q => absurd q (by decide), fun _ => ⟨fun q => absurd q (by decide), fun _ => ⟨fun q => absurd q (by decide), fun _ => ⟨fun q => absurd q (by decide), fun _ => ⟨fun q => absurd q (by decide), fun _ => ⟨k1, g⟩⟩⟩⟩⟩⟩⟩⟩⟩⟩
end ZTK
