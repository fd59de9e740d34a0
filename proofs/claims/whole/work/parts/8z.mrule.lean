/-! a rule, read by the reference -/
section ZMR
variable {n : Nat} {ch : Nat → Nat} {tc mt : Nat → Int32}
/-- what the reference's tables hold when a rule has been read -/
def mWQ (kd tg f1 f2 cd : Nat → Int32) (r : Bool × Nat × Nat × Int32 × Option (List zTok) × List zAct) (x : Int32) (y : Int32 × Int32 × Int32 × Int32 × Int32 × Int32 × (Nat → Int32) × (Nat → Int32) × (Nat → Int32) × (Nat → Int32) × (Nat → Int32) × (Nat → Int32) × (Nat → Int32) × (Nat → Int32)) : Prop :=
  x = (if r.1 then 1 else 0) ∧ y.2.2.2.1 = nI r.2.1 ∧ (∀ j, j < 288 → y.2.2.2.2.2.2.2.2.2.2.1 j = kd j ∧ y.2.2.2.2.2.2.2.2.2.2.2.1 j = tg j ∧ y.2.2.2.2.2.2.2.2.2.2.2.2.1 j = f1 j ∧ y.2.2.2.2.2.2.2.2.2.2.2.2.2 j = f2 j) ∧ (∀ j, j < 1200 → y.2.2.2.2.2.2.2.2.1 j = cd j) ∧ (r.1 = true → y.1 = nI (r.2.2.1 + if r.2.2.2.1 = 0 then 0 else 8) ∧ y.2.2.1 = nI r.2.2.2.2.2.length ∧ r.2.2.2.2.2.length ≤ 48 ∧ ∃ a2 : Nat, y.2.2.2.2.1 = nI a2 ∧ 1200 ≤ a2 ∧ a2 ≤ 1390 ∧ zxNb 1200 a2 y.2.2.2.2.2.2.2.2.1 y.2.1 r.2.2.2.2.1 ∧ zxLb 1200 a2 y.2.2.2.2.2.2.2.2.2.2.1 y.2.2.2.2.2.2.2.2.2.2.2.1 y.2.2.2.2.2.2.2.2.2.2.2.2.1 y.2.2.2.2.2.2.2.2.2.2.2.2.2 y.2.2.2.2.2.2.2.2.1 288 r.2.2.2.2.2)
abbrev zQR : Type := Int32 → (Int32 × Int32 × Int32 × Int32 × Int32 × Int32 × (Nat → Int32) × (Nat → Int32) × (Nat → Int32) × (Nat → Int32) × (Nat → Int32) × (Nat → Int32) × (Nat → Int32) × (Nat → Int32)) → Prop
def zMTail (n : Nat) (mt : Nat → Int32) (y off ns0 nc0 na0 os : Int32) (st cm cd op kd tg f1 f2 : Nat → Int32) (Q : zQR) : Prop :=
  p_Mo_look (nI n) (nI 1) mt ∧ (∀ (r13 : Int32), s_Mo_look (nI n) (nI 1) mt = r13 → (∀ (r17 : Int32), s_Mo_in r13 (48 : Int32) (55 : Int32) = r17 → ((¬ r17 = 0) → p_Mo_look (nI n) (nI 1) mt ∧ (∀ (r23 : Int32), s_Mo_look (nI n) (nI 1) mt = r23 → p_Mo_passes (nI n) (nI 2) mt (47 : Int32) ∧ (∀ (r28 u29 : Int32), s_Mo_passes (nI n) (nI 2) mt (47 : Int32) = (r28, u29) → ((r28 = 0) → p_Mo_passes (nI n) u29 mt (123 : Int32) ∧ (∀ (r34 u35 : Int32), s_Mo_passes (nI n) u29 mt (123 : Int32) = (r34, u35) → ((¬ r34 = 0) → WP_Mo_rule_L149 600 y ((r13 - (48 : Int32)) + off) (-1 : Int32) (0 : Int32) (nI n) u35 (nI 1200) os mt st cm cd op kd tg f1 f2 Q) ∧ ((r34 = 0) → Q (0 : Int32) ((r13 - (48 : Int32)) + off, (-1 : Int32), na0, u35, nI 1200, os, st, cm, cd, op, kd, tg, f1, f2)))) ∧ ((¬ r28 = 0) → p_Mo_expression (nI n) u29 (nI 1200) os st cm mt cd op ∧ (∀ (r40 m43 m44 m45 : Int32) (m46 m47 m48 m49 : Nat → Int32), s_Mo_expression (nI n) u29 (nI 1200) os st cm mt cd op = (r40, m43, m44, m45, m46, m47, m48, m49) → ((r40 = 0) → Q (0 : Int32) ((r13 - (48 : Int32)) + off, nI 1200, na0, m43, m44, m45, m46, m47, m48, m49, kd, tg, f1, f2)) ∧ ((¬ r40 = 0) → p_Mo_passes (nI n) m43 mt (47 : Int32) ∧ (∀ (r53 u54 : Int32), s_Mo_passes (nI n) m43 mt (47 : Int32) = (r53, u54) → ((¬ r53 = 0) → p_Mo_passes (nI n) u54 mt (123 : Int32) ∧ (∀ (r59 u60 : Int32), s_Mo_passes (nI n) u54 mt (123 : Int32) = (r59, u60) → ((¬ r59 = 0) → WP_Mo_rule_L149 600 y ((r13 - (48 : Int32)) + off) (nI 1200) (0 : Int32) (nI n) u60 m44 m45 mt m46 m47 m48 m49 kd tg f1 f2 Q) ∧ ((r59 = 0) → Q (0 : Int32) ((r13 - (48 : Int32)) + off, nI 1200, na0, u60, m44, m45, m46, m47, m48, m49, kd, tg, f1, f2)))) ∧ ((r53 = 0) → Q (0 : Int32) ((r13 - (48 : Int32)) + off, nI 1200, na0, u54, m44, m45, m46, m47, m48, m49, kd, tg, f1, f2))))))))) ∧ ((r17 = 0) → Q (0 : Int32) (ns0, nc0, na0, nI 1, nI 1200, os, st, cm, cd, op, kd, tg, f1, f2))))
theorem rl_mono {F : Nat} {y1 ns nc na sz p a os : Int32} {tx st cm cd op kd tg f1 f2 : Nat → Int32} {Q Q' : zQR} (h : ∀ x y, Q x y → Q' x y) : ∀ {F : Nat} {na p a os : Int32} {st cm cd op kd tg f1 f2 : Nat → Int32}, WP_Mo_rule_L149 F y1 ns nc na sz p a os tx st cm cd op kd tg f1 f2 Q → WP_Mo_rule_L149 F y1 ns nc na sz p a os tx st cm cd op kd tg f1 f2 Q' := by
  intro F
  induction F with
  | zero => intro na p a os st cm cd op kd tg f1 f2 hw; exact hw.elim
  | succ F ih =>
    intro na p a os st cm cd op kd tg f1 f2 hw
    refine ⟨hw.1, fun r180 m183 m184 m185 m186 m187 m188 m189 m190 m191 m192 m193 q => ?_⟩
    obtain ⟨w1, w2⟩ := hw.2 r180 m183 m184 m185 m186 m187 m188 m189 m190 m191 m192 m193 q
    refine ⟨fun q1 => ⟨(w1 q1).1, fun r197 u198 q2 => ?_⟩, fun q1 => h _ _ (w2 q1)⟩
    obtain ⟨v1, v2⟩ := (w1 q1).2 r197 u198 q2
    refine ⟨fun q3 => ih (v1 q3), fun q3 => ⟨(v2 q3).1, fun r203 u204 q4 => ?_⟩⟩
    obtain ⟨x1, x2⟩ := (v2 q3).2 r203 u204 q4
    exact ⟨fun q5 => h _ _ (x1 q5), fun q5 => ⟨fun q6 => h _ _ ((x2 q5).1 q6), fun q6 => h _ _ ((x2 q5).2 q6)⟩⟩
theorem m_tail (hT : zTx n ch tc mt) (h0 : zN n ch 0 = 101 ∨ zN n ch 0 = 120) {y off ns0 nc0 na0 os : Int32} {st cm cd op kd tg f1 f2 : Nat → Int32} (hoff : off = nI (if (if zN n ch 0 = 120 then (1 : Int32) else 0) = 0 then 0 else 8)) : zMTail n mt y off ns0 nc0 na0 os st cm cd op kd tg f1 f2 (mWQ kd tg f1 f2 cd (gRl (zN n ch) n)) := by
  have hn := hT.1
  have h127 := zN_lt hT
  have h1' := h127 1
  have q0 : 0 < n := zN_p (ch := ch) (by omega)
  have l := f_look hT (p := 1) (by omega)
  have id4 : ∀ j : Nat, j < 288 → kd j = kd j ∧ tg j = tg j ∧ f1 j = f1 j ∧ f2 j = f2 j := fun _ _ => ⟨rfl, rfl, rfl, rfl⟩
  refine ⟨l.1, fun r13 q => ?_⟩
  rw [l.2] at q
  subst q
  intro r17 q17
  rw [show s_Mo_in (nI (zN n ch 1)) 48 55 = if 48 ≤ zN n ch 1 ∧ zN n ch 1 ≤ 55 then 1 else 0 from f_in (a := 48) (b := 55) (by omega) (by omega) (by omega)] at q17
  unfold gRl gT
  rw [if_pos h0]
  by_cases h2 : 48 ≤ zN n ch 1 ∧ zN n ch 1 ≤ 55
  · have q1 : 1 < n := zN_p (ch := ch) (by omega)
    have e48 : nI (zN n ch 1) - 48 + off = nI (zN n ch 1 - 48 + if (if zN n ch 0 = 120 then (1 : Int32) else 0) = 0 then 0 else 8) := by
      rw [show nI (zN n ch 1) - 48 = nI (zN n ch 1 - 48) from pk_sub (a := zN n ch 1) (b := 48) (by omega), hoff, nI_add]
    rw [if_pos h2] at q17 ⊢
    subst q17
    rw [e48]
    refine ⟨fun _ => ⟨l.1, fun r23 _ => ?_⟩, fun q => absurd q (by decide)⟩
    have c := f_passes hT (p := 2) (c := 47) (by omega) (by omega)
    refine ⟨c.1, fun r28 u29 q => ?_⟩
    rw [show s_Mo_passes (nI n) (nI 2) mt 47 = _ from c.2] at q
    by_cases h3 : zN n ch 2 = 47
    · have q2 : 2 < n := zN_p (ch := ch) (by omega)
      rw [if_pos h3] at q ⊢
      cases q
      refine ⟨fun q => absurd q (by decide), fun _ => ?_⟩
      have hb := gE_b hT (p := 3) (by omega)
      refine me_use hT (p := 3) (a := 1200) (by omega) (by omega) (fun a' os' st' cm' cd' op' k1 k2 => ?_)
      generalize gE (zN n ch) 3 = R at hb k2 ⊢
      obtain ⟨b1, b2, b3, b4⟩ := hb
      by_cases h4 : R.1 = true
      · rw [if_pos h4, if_pos h4]
        refine ⟨fun q => absurd q (by decide), fun _ => ?_⟩
        obtain ⟨k3, k4⟩ := k2 h4
        subst k3
        have c := f_passes hT (p := R.2.1) (c := 47) (by omega) (by omega)
        refine ⟨c.1, fun r53 u54 q => ?_⟩
        rw [show s_Mo_passes (nI n) (nI R.2.1) mt 47 = _ from c.2] at q
        by_cases h5 : zN n ch R.2.1 = 47
        · have q3 : R.2.1 < n := zN_p (ch := ch) (by omega)
          rw [if_pos h5] at q ⊢
          cases q
          refine ⟨fun _ => ?_, fun q => absurd q (by decide)⟩
          have c := f_passes hT (p := R.2.1 + 1) (c := 123) (by omega) (by omega)
          refine ⟨c.1, fun r59 u60 q => ?_⟩
          rw [show s_Mo_passes (nI n) (nI (R.2.1 + 1)) mt 123 = _ from c.2] at q
          by_cases h6 : zN n ch (R.2.1 + 1) = 123
          · have q4 : R.2.1 + 1 < n := zN_p (ch := ch) (by omega)
            rw [if_pos h6] at q ⊢
            cases q
            refine ⟨fun _ => ?_, fun q => absurd q (by decide)⟩
            rw [if_pos rfl]
            have := m_body hT (a0 := 1200 + 2 * R.2.2.length + 2) (ns := nI (zN n ch 1 - 48 + if (if zN n ch 0 = 120 then (1 : Int32) else 0) = 0 then 0 else 8)) (nc := nI 1200) (y1 := y) (kd0 := kd) (tg0 := tg) (f10 := f1) (f20 := f2) (cd0 := cd') (by omega) 48 (R.2.1 + 2) [] 551 (1200 + 2 * R.2.2.length + 2) os' st' cm' cd' op' kd tg f1 f2 (by omega) (by omega) (by omega) (by simp) (Nat.le_refl _) (by omega) id4 (fun _ _ => rfl) trivial
            refine rl_mono (F := 0) (na := 0) (p := 0) (a := 0) (os := 0) (st := kd) (cm := kd) (cd := kd) (op := kd) (kd := kd) (tg := kd) (f1 := kd) (f2 := kd) (fun x y hq => ?_) this
            obtain ⟨w1, w2, w3, w4, w5⟩ := hq
            refine ⟨w1, w2, w3, fun j hj => (w4 j (by omega)).trans (k1 j hj), fun q => ?_⟩
            obtain ⟨v1, v2, v3, v4, a2, v5, v6, v7, v8⟩ := w5 q
            refine ⟨v1, v3, v4, a2, v5, by omega, v7, ?_, v8⟩
            exact ⟨1200, v2, Nat.le_refl _, v6, mE_congr _ _ (fun j _ h => w4 j (by omega)) k4, (b4 h4).2 0⟩
          · rw [if_neg h6] at q ⊢
            cases q
            exact ⟨fun q => absurd rfl q, fun _ => ⟨rfl, rfl, id4, k1, fun q => absurd q (by simp)⟩⟩
        · rw [if_neg h5] at q ⊢
          cases q
          exact ⟨fun q => absurd rfl q, fun _ => ⟨rfl, rfl, id4, k1, fun q => absurd q (by simp)⟩⟩
      · rw [if_neg h4, if_neg h4]
        exact ⟨fun _ => ⟨rfl, rfl, id4, k1, fun q => absurd q (by simp)⟩, fun q => absurd rfl q⟩
    · rw [if_neg h3] at q ⊢
      cases q
      refine ⟨fun _ => ?_, fun q => absurd rfl q⟩
      have c := f_passes hT (p := 2) (c := 123) (by omega) (by omega)
      refine ⟨c.1, fun r34 u35 q => ?_⟩
      rw [show s_Mo_passes (nI n) (nI 2) mt 123 = _ from c.2] at q
      by_cases h4 : zN n ch 2 = 123
      · have q2 : 2 < n := zN_p (ch := ch) (by omega)
        rw [if_pos h4] at q ⊢
        cases q
        refine ⟨fun _ => ?_, fun q => absurd q (by decide)⟩
        rw [if_pos rfl]
        have := m_body hT (a0 := 1200) (ns := nI (zN n ch 1 - 48 + if (if zN n ch 0 = 120 then (1 : Int32) else 0) = 0 then 0 else 8)) (nc := -1) (y1 := y) (kd0 := kd) (tg0 := tg) (f10 := f1) (f20 := f2) (cd0 := cd) (by omega) 48 3 [] 551 1200 os st cm cd op kd tg f1 f2 (by omega) (by omega) (by omega) (by simp) (Nat.le_refl _) (by omega) id4 (fun _ _ => rfl) trivial
        refine rl_mono (F := 0) (na := 0) (p := 0) (a := 0) (os := 0) (st := kd) (cm := kd) (cd := kd) (op := kd) (kd := kd) (tg := kd) (f1 := kd) (f2 := kd) (fun x y hq => ?_) this
        obtain ⟨w1, w2, w3, w4, w5⟩ := hq
        refine ⟨w1, w2, w3, w4, fun q => ?_⟩
        obtain ⟨v1, v2, v3, v4, a2, v5, v6, v7, v8⟩ := w5 q
        exact ⟨v1, v3, v4, a2, v5, v6, v7, v2, v8⟩
      · rw [if_neg h4] at q ⊢
        cases q
        exact ⟨fun q => absurd rfl q, fun _ => ⟨rfl, rfl, id4, fun _ _ => rfl, fun q => absurd q (by simp)⟩⟩
  · rw [if_neg h2] at q17 ⊢
    subst q17
    exact ⟨fun q => absurd rfl q, fun _ => ⟨rfl, rfl, id4, fun _ _ => rfl, fun q => absurd q (by simp)⟩⟩
theorem m_rule (hT : zTx n ch tc mt) {ns0 nc0 na0 os : Int32} {st cm cd op kd tg f1 f2 : Nat → Int32} : p_Mo_rule ns0 nc0 na0 (nI n) (nI 0) (nI 1200) os mt st cm cd op kd tg f1 f2 ∧ mWQ kd tg f1 f2 cd (gRl (zN n ch) n) (s_Mo_rule ns0 nc0 na0 (nI n) (nI 0) (nI 1200) os mt st cm cd op kd tg f1 f2).1 (s_Mo_rule ns0 nc0 na0 (nI n) (nI 0) (nI 1200) os mt st cm cd op kd tg f1 f2).2 := by
  have hn := hT.1
  have h127 := zN_lt hT
  have h0' := h127 0
  have l := f_look hT (p := 0) (by omega)
  refine e_Mo_rule ns0 nc0 na0 (nI n) (nI 0) (nI 1200) os mt st cm cd op kd tg f1 f2 (Q := mWQ kd tg f1 f2 cd (gRl (zN n ch) n)) ?_
  refine ⟨l.1, fun r1 q => ?_⟩
  rw [l.2] at q
  subst q
  refine ⟨fun h => ?_, fun h => ?_⟩
  · have h101 : zN n ch 0 = 101 := (nI_eq (a := zN n ch 0) (b := 101) (by omega) (by omega)).mp h
    refine ⟨l.1, fun r7 _ => ⟨fun _ => ?_, fun q => absurd ((nI_eq (a := zN n ch 0) (b := 120) (by omega) (by omega)).mp q) (by omega)⟩⟩
    exact m_tail hT (Or.inl h101) (y := 0) (off := 0) (by rw [if_neg (show ¬ zN n ch 0 = 120 by omega)]; rfl)
  · have h101 : ¬ zN n ch 0 = 101 := fun e => h (by rw [e]; rfl)
    refine ⟨l.1, fun r117 _ => ⟨fun q => ?_, fun q => ?_⟩⟩
    · have h120 : zN n ch 0 = 120 := (nI_eq (a := zN n ch 0) (b := 120) (by omega) (by omega)).mp q
      refine ⟨l.1, fun r123 _ => ?_⟩
      exact m_tail hT (Or.inr h120) (y := 1) (off := 8) (by rw [if_pos h120]; rfl)
    · have h120 : ¬ zN n ch 0 = 120 := fun e => q (by rw [e]; rfl)
      unfold gRl
      rw [if_neg (by omega)]
      exact ⟨rfl, rfl, fun _ _ => ⟨rfl, rfl, rfl, rfl⟩, fun _ _ => rfl, fun q => absurd q (by simp)⟩
end ZMR
