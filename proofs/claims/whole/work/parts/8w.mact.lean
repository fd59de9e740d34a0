section ZMA
variable {n : Nat} {ch : Nat → Nat} {tc mt : Nat → Int32}
theorem mE_congr {c c' : Nat → Int32} : ∀ (T : List zTok) (a : Nat), (∀ i, a ≤ i → i ≤ a + 2 * T.length → c' i = c i) → mE c a T → mE c' a T
  | [], a, h, hs => (h a (Nat.le_refl _) (by simp)).trans hs
  | t :: T, a, h, hs => ⟨(h a (by omega) (by simp only [List.length_cons]; omega)).trans hs.1, (h (a + 1) (by omega) (by simp only [List.length_cons]; omega)).trans hs.2.1, mE_congr T (a + 2) (fun i h1 h2 => h i (by omega) (by simp only [List.length_cons]; omega)) hs.2.2⟩
theorem me_use (hT : zTx n ch tc mt) {p a : Nat} {os0 : Int32} {st cm cd op : Nat → Int32} (hp : p ≤ n) (ha : a + 2 * (48 - p) ≤ 1390) {P : Int32 → Int32 → Int32 → Int32 → (Nat → Int32) → (Nat → Int32) → (Nat → Int32) → (Nat → Int32) → Prop}
    (K : ∀ (a' os' : Int32) (st' cm' cd' op' : Nat → Int32), (∀ i, i < a → cd' i = cd i) → ((gE (zN n ch) p).1 = true → a' = nI (a + 2 * (gE (zN n ch) p).2.2.length + 2) ∧ mE cd' a (gE (zN n ch) p).2.2) → P (if (gE (zN n ch) p).1 then 1 else 0) (nI (gE (zN n ch) p).2.1) a' os' st' cm' cd' op') :
    p_Mo_expression (nI n) (nI p) (nI a) os0 st cm mt cd op ∧ ∀ (r m24 m25 m26 : Int32) (m27 m28 m29 m30 : Nat → Int32), s_Mo_expression (nI n) (nI p) (nI a) os0 st cm mt cd op = (r, m24, m25, m26, m27, m28, m29, m30) → P r m24 m25 m26 m27 m28 m29 m30 := by
  obtain ⟨h1, a', os', st', cm', cd', op', h2, h3, h4⟩ := m_exp hT (os0 := os0) (st := st) (cm := cm) (cd := cd) (op := op) hp ha
  refine ⟨h1, fun r m24 m25 m26 m27 m28 m29 m30 q => ?_⟩
  rw [h2] at q
  cases q
  exact K a' os' st' cm' cd' op' h3 h4
/-- what the reference's tables hold when an action has been read -/
def mAQ (a i : Nat) (kd tg f1 f2 cd : Nat → Int32) (r : Bool × Nat × zAct) (x : Int32) (y : Int32 × Int32 × Int32 × (Nat → Int32) × (Nat → Int32) × (Nat → Int32) × (Nat → Int32) × (Nat → Int32) × (Nat → Int32) × (Nat → Int32) × (Nat → Int32)) : Prop :=
  x = (if r.1 then 1 else 0) ∧ y.1 = nI r.2.1 ∧ (∀ j, ¬ j = i → y.2.2.2.1 j = kd j ∧ y.2.2.2.2.1 j = tg j ∧ y.2.2.2.2.2.1 j = f1 j ∧ y.2.2.2.2.2.2.2.2.2.2 j = f2 j) ∧ (∀ j, j < a → y.2.2.2.2.2.2.2.2.1 j = cd j) ∧ (r.1 = true → ∃ a2 : Nat, y.2.1 = nI a2 ∧ a ≤ a2 ∧ a2 + 2 * (48 - r.2.1) ≤ 1390 ∧ zxMb a a2 y.2.2.2.1 y.2.2.2.2.1 y.2.2.2.2.2.1 y.2.2.2.2.2.2.2.2.2.2 y.2.2.2.2.2.2.2.2.1 i r.2.2)
theorem upd_ne {f : Nat → Int32} {i j : Nat} {x : Int32} (h : ¬ j = i) : upd f i x j = f j := if_neg h
theorem m_act (hT : zTx n ch tc mt) {p a i : Nat} {os0 : Int32} {kd tg f1 st cm cd op f2 : Nat → Int32} (hp : p ≤ n) (ha : a + 2 * (48 - p) ≤ 1390) (hi : i < 340) :
    p_Mo_action (nI n) (nI p) (nI a) os0 mt kd tg f1 st cm cd op f2 (nI i) ∧ mAQ a i kd tg f1 f2 cd (gA (zN n ch) p) (s_Mo_action (nI n) (nI p) (nI a) os0 mt kd tg f1 st cm cd op f2 (nI i)).1 (s_Mo_action (nI n) (nI p) (nI a) os0 mt kd tg f1 st cm cd op f2 (nI i)).2 := by
  have hn := hT.1
  have h127 := zN_lt hT
  have h1' := h127 p
  have i340 : vp_in (nI i) 340 := pk_in i 340 hi
  have cli : (nI i).toNatClampNeg = i := nI_clamp (by omega)
  refine e_Mo_action (nI n) (nI p) (nI a) os0 mt kd tg f1 st cm cd op f2 (nI i) (Q := mAQ a i kd tg f1 f2 cd (gA (zN n ch) p)) ?_
  have l := f_look hT (p := p) (by omega)
  refine ⟨l.1, fun r1 q => ?_⟩
  rw [l.2] at q
  subst q
  refine ⟨i340, fun r6 q6 => ?_⟩
  rw [show s_Mo_in (nI (zN n ch p)) 117 122 = if 117 ≤ zN n ch p ∧ zN n ch p ≤ 122 then 1 else 0 from f_in (a := 117) (b := 122) (by omega) (by omega) (by omega)] at q6
  rw [cli]
  unfold gA
  by_cases hu : 117 ≤ zN n ch p ∧ zN n ch p ≤ 122
  · have h64 : ¬ zN n ch p = 64 := by omega
    have q1 : p < n := zN_p (ch := ch) (by omega)
    rw [if_pos hu] at q6
    subst q6
    rw [if_neg h64, if_pos hu, nI_1]
    refine ⟨fun q => absurd q (by decide), fun _ => ⟨i340, i340, ?_⟩⟩
    have c := f_passes hT (p := p + 1) (c := 61) (by omega) (by omega)
    refine ⟨c.1, fun r111 u112 q => ?_⟩
    rw [show s_Mo_passes (nI n) (nI (p + 1)) mt 61 = _ from c.2] at q
    by_cases h61 : zN n ch (p + 1) = 61
    · have q2 : p + 1 < n := zN_p (ch := ch) (by omega)
      rw [if_pos h61] at q ⊢
      cases q
      refine ⟨fun _ => ⟨i340, ?_⟩, fun q => absurd q (by decide)⟩
      have hb := gE_b hT (p := p + 2) (by omega)
      refine me_use hT (p := p + 2) (by omega) (by omega) (fun a' os' st' cm' cd' op' k1 k2 => ⟨zb_if _, ?_⟩)
      generalize gE (zN n ch) (p + 2) = R at hb k2 ⊢
      obtain ⟨b1, b2, b3, b4⟩ := hb
      refine ⟨rfl, rfl, fun j hj => ⟨by show upd (upd kd i _) i _ j = _; rw [upd_ne hj, upd_ne hj], upd_ne hj, upd_ne hj, rfl⟩, k1, fun q => ?_⟩
      obtain ⟨k3, k4⟩ := k2 q
      refine ⟨_, k3, by omega, by simp only; omega, if_pos rfl, ⟨a, if_pos rfl, Nat.le_refl _, by simp only; omega, k4, (b4 q).2 0⟩, Or.inl ⟨rfl, by simp only; omega, ?_⟩⟩
      show upd tg i (nI (zN n ch p) - 117) i = nI (zN n ch p - 117)
      rw [show nI (zN n ch p) - 117 = nI (zN n ch p - 117) from pk_sub (a := zN n ch p) (b := 117) (by omega)]
      exact if_pos rfl
    · rw [if_neg h61] at q ⊢
      cases q
      exact ⟨fun q => absurd rfl q, fun _ => ⟨rfl, rfl, fun j hj => ⟨by show upd (upd kd i _) i _ j = _; rw [upd_ne hj, upd_ne hj], upd_ne hj, rfl, rfl⟩, fun _ _ => rfl, fun q => absurd q (by simp)⟩⟩
  rw [if_neg hu] at q6
  subst q6
  refine ⟨fun _ => ⟨fun h64 => ?_, fun h64 => ?_⟩, fun q => absurd rfl q⟩
  · have h64 : ¬ zN n ch p = 64 := fun e => h64 (by rw [e]; rfl)
    rw [if_neg h64, if_neg hu]
    have c := f_passes hT (p := p) (c := 33) (by omega) (by omega)
    refine ⟨c.1, fun r14 u15 q => ?_⟩
    rw [show s_Mo_passes (nI n) (nI p) mt 33 = _ from c.2] at q
    have exq : (zN n ch p = 33 ∨ zN n ch p = 63) → vp_in (nI i) 340 ∧ p_Mo_expression (nI n) (nI (p + 1)) (nI a) os0 st cm mt cd op ∧ (∀ (r21 m24 m25 m26 : Int32) (m27 m28 m29 m30 : Nat → Int32), s_Mo_expression (nI n) (nI (p + 1)) (nI a) os0 st cm mt cd op = (r21, m24, m25, m26, m27, m28, m29, m30) → (zb r21 ∧ mAQ a i kd tg f1 f2 cd ((gE (zN n ch) (p + 1)).1, (gE (zN n ch) (p + 1)).2.1, (zN n ch p, 0, [], (gE (zN n ch) (p + 1)).2.2)) r21 (m24, m25, m26, upd kd i (nI (zN n ch p)), tg, upd f1 i (nI a), m27, m28, m29, m30, f2))) := by
      intro h3
      have q1 : p < n := zN_p (ch := ch) (by omega)
      have hb := gE_b hT (p := p + 1) (by omega)
      refine ⟨i340, ?_⟩
      refine me_use hT (p := p + 1) (by omega) (by omega) (fun a' os' st' cm' cd' op' k1 k2 => ⟨zb_if _, ?_⟩)
      generalize gE (zN n ch) (p + 1) = R at hb k2 ⊢
      obtain ⟨b1, b2, b3, b4⟩ := hb
      refine ⟨rfl, rfl, fun j hj => ⟨upd_ne hj, rfl, upd_ne hj, rfl⟩, k1, fun q => ?_⟩
      obtain ⟨k3, k4⟩ := k2 q
      refine ⟨_, k3, by omega, by simp only; omega, if_pos rfl, ⟨a, if_pos rfl, Nat.le_refl _, by simp only; omega, k4, (b4 q).2 0⟩, Or.inr ?_⟩
      rcases h3 with h3 | h3
      · exact Or.inl h3
      · exact Or.inr (Or.inl h3)
    by_cases h33 : zN n ch p = 33
    · rw [if_pos h33] at q
      cases q
      rw [if_pos (Or.inl h33)]
      exact ⟨fun _ => exq (Or.inl h33), fun q => absurd q (by decide)⟩
    · rw [if_neg h33] at q
      cases q
      refine ⟨fun q => absurd rfl q, fun _ => ?_⟩
      have c := f_passes hT (p := p) (c := 63) (by omega) (by omega)
      refine ⟨c.1, fun r32 u33 q => ?_⟩
      rw [show s_Mo_passes (nI n) (nI p) mt 63 = _ from c.2] at q
      by_cases h63 : zN n ch p = 63
      · rw [if_pos h63] at q
        cases q
        rw [if_pos (Or.inr h63)]
        exact ⟨fun _ => exq (Or.inr h63), fun q => absurd q (by decide)⟩
      · rw [if_neg h63] at q
        cases q
        rw [if_neg (by omega)]
        exact ⟨fun q => absurd rfl q, fun _ => ⟨rfl, rfl, fun j hj => ⟨upd_ne hj, rfl, rfl, rfl⟩, fun _ _ => rfl, fun q => absurd q (by simp)⟩⟩
  · have h64 : zN n ch p = 64 := (nI_eq (a := zN n ch p) (b := 64) (by omega) (by omega)).mp h64
    have q1 : p < n := zN_p (ch := ch) (by omega)
    rw [if_pos h64, nI_1, nI_1]
    have l2 := f_look hT (p := p + 1) (by omega)
    refine ⟨l2.1, fun r50 q => ?_⟩
    rw [l2.2] at q
    subst q
    intro r54 q54
    have h2' := h127 (p + 1)
    rw [show s_Mo_in (nI (zN n ch (p + 1))) 65 67 = if 65 ≤ zN n ch (p + 1) ∧ zN n ch (p + 1) ≤ 67 then 1 else 0 from f_in (a := 65) (b := 67) (by omega) (by omega) (by omega)] at q54
    unfold gG
    by_cases hg : 65 ≤ zN n ch (p + 1) ∧ zN n ch (p + 1) ≤ 67
    · have q2 : p + 1 < n := zN_p (ch := ch) (by omega)
      rw [if_pos hg] at q54 ⊢
      subst q54
      refine ⟨fun _ => ⟨l2.1, fun r60 _ => ⟨i340, ?_⟩⟩, fun q => absurd q (by decide)⟩
      have c := f_passes hT (p := p + 1 + 1) (c := 91) (by omega) (by omega)
      refine ⟨c.1, fun r65 u66 q => ?_⟩
      rw [show s_Mo_passes (nI n) (nI (p + 1 + 1)) mt 91 = _ from c.2] at q
      by_cases h91 : zN n ch (p + 1 + 1) = 91
      · have q3 : p + 1 + 1 < n := zN_p (ch := ch) (by omega)
        rw [if_pos h91] at q ⊢
        cases q
        refine ⟨fun _ => ⟨i340, ?_⟩, fun q => absurd q (by decide)⟩
        have hb := gE_b hT (p := p + 1 + 2) (by omega)
        refine me_use hT (p := p + 1 + 2) (by omega) (by omega) (fun a' os' st' cm' cd' op' k1 k2 => ?_)
        generalize gE (zN n ch) (p + 1 + 2) = R at hb k2 ⊢
        obtain ⟨b1, b2, b3, b4⟩ := hb
        have fr0 : ∀ (t1 t2 : Int32) j, ¬ j = i → upd kd i (nI (zN n ch p)) j = kd j ∧ upd tg i (nI (zN n ch (p + 1)) - 65) j = tg j ∧ f1 j = f1 j ∧ upd f2 i (nI a) j = f2 j := fun _ _ j hj => ⟨upd_ne hj, upd_ne hj, rfl, upd_ne hj⟩
        by_cases h6 : R.1 = true
        · rw [if_pos h6, if_pos h6]
          refine ⟨fun q => absurd q (by decide), fun _ => ?_⟩
          obtain ⟨k3, k4⟩ := k2 h6
          subst k3
          have c := f_passes hT (p := R.2.1) (c := 93) (by omega) (by omega)
          refine ⟨c.1, fun r85 u86 q => ?_⟩
          rw [show s_Mo_passes (nI n) (nI R.2.1) mt 93 = _ from c.2] at q
          by_cases h93 : zN n ch R.2.1 = 93
          · have q4 : R.2.1 < n := zN_p (ch := ch) (by omega)
            rw [if_pos h93] at q ⊢
            cases q
            refine ⟨fun q => absurd q (by decide), fun _ => ?_⟩
            have c := f_passes hT (p := R.2.1 + 1) (c := 61) (by omega) (by omega)
            refine ⟨c.1, fun r91 u92 q => ?_⟩
            rw [show s_Mo_passes (nI n) (nI (R.2.1 + 1)) mt 61 = _ from c.2] at q
            by_cases h61 : zN n ch (R.2.1 + 1) = 61
            · have q5 : R.2.1 + 1 < n := zN_p (ch := ch) (by omega)
              rw [if_pos h61] at q ⊢
              cases q
              refine ⟨fun _ => ⟨i340, ?_⟩, fun q => absurd q (by decide)⟩
              have hb2 := gE_b hT (p := R.2.1 + 2) (by omega)
              refine me_use hT (p := R.2.1 + 2) (a := a + 2 * R.2.2.length + 2) (by omega) (by omega) (fun a2 os2 st2 cm2 cd2 op2 k5 k6 => ⟨zb_if _, ?_⟩)
              generalize gE (zN n ch) (R.2.1 + 2) = S at hb2 k6 ⊢
              obtain ⟨s1, s2, s3, s4⟩ := hb2
              refine ⟨rfl, rfl, fun j hj => ⟨upd_ne hj, upd_ne hj, upd_ne hj, upd_ne hj⟩, fun j hj => (k5 j (by omega)).trans (k1 j hj), fun q => ?_⟩
              obtain ⟨k7, k8⟩ := k6 q
              refine ⟨_, k7, by omega, by simp only; omega, ?_, ⟨a + 2 * R.2.2.length + 2, if_pos rfl, by omega, by simp only; omega, k8, (s4 q).2 0⟩, Or.inr (Or.inr (Or.inr ⟨rfl, by simp only; omega, ?_, a, if_pos rfl, Nat.le_refl _, by simp only; omega, ?_, (b4 h6).2 0⟩))⟩
              · show upd kd i (nI (zN n ch p)) i = nI 64
                rw [h64]; exact if_pos rfl
              · show upd tg i (nI (zN n ch (p + 1)) - 65) i = nI (zN n ch (p + 1) - 65)
                rw [show nI (zN n ch (p + 1)) - 65 = nI (zN n ch (p + 1) - 65) from pk_sub (a := zN n ch (p + 1)) (b := 65) (by omega)]
                exact if_pos rfl
              · exact mE_congr _ _ (fun j _ h2 => k5 j (by simp only at h2; omega)) k4
            · rw [if_neg h61] at q ⊢
              cases q
              exact ⟨fun q => absurd rfl q, fun _ => ⟨rfl, rfl, fr0 0 0, k1, fun q => absurd q (by simp)⟩⟩
          · rw [if_neg h93] at q ⊢
            cases q
            exact ⟨fun _ => ⟨rfl, rfl, fr0 0 0, k1, fun q => absurd q (by simp)⟩, fun q => absurd rfl q⟩
        · rw [if_neg h6, if_neg h6]
          exact ⟨fun _ => ⟨rfl, rfl, fr0 0 0, k1, fun q => absurd q (by simp)⟩, fun q => absurd rfl q⟩
      · rw [if_neg h91] at q ⊢
        cases q
        exact ⟨fun q => absurd rfl q, fun _ => ⟨rfl, rfl, fun j hj => ⟨upd_ne hj, upd_ne hj, rfl, rfl⟩, fun _ _ => rfl, fun q => absurd q (by simp)⟩⟩
    · rw [if_neg hg] at q54 ⊢
      subst q54
      exact ⟨fun q => absurd rfl q, fun _ => ⟨rfl, rfl, fun j hj => ⟨upd_ne hj, rfl, rfl, rfl⟩, fun _ _ => rfl, fun q => absurd q (by simp)⟩⟩
end ZMA
