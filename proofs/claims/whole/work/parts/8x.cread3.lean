/-! a rule's head and body -/
section ZGR
variable (nx : Nat → Nat)
def gT : Bool × Nat × Option (List zTok) :=
  if 48 ≤ nx 1 ∧ nx 1 ≤ 55 then (if nx 2 = 47 then (if (gE nx 3).1 then (if nx (gE nx 3).2.1 = 47 then (if nx ((gE nx 3).2.1 + 1) = 123 then (true, (gE nx 3).2.1 + 2, some (gE nx 3).2.2) else (false, (gE nx 3).2.1 + 1, none)) else (false, (gE nx 3).2.1, none)) else (false, (gE nx 3).2.1, none)) else (if nx 2 = 123 then (true, 3, none) else (false, 2, none))) else (false, 1, none)
def gAs (n : Nat) : Nat → Nat → List zAct → Bool × Nat × List zAct
  | 0, p, A => (false, p, A)
  | m + 1, p, A => if (gA nx p).1 then (if nx (gA nx p).2.1 = 125 then (decide ((gA nx p).2.1 + 1 = n), (gA nx p).2.1 + 1, A ++ [(gA nx p).2.2]) else (if nx (gA nx p).2.1 = 59 then gAs n m ((gA nx p).2.1 + 1) (A ++ [(gA nx p).2.2]) else (false, (gA nx p).2.1, A ++ [(gA nx p).2.2]))) else (false, (gA nx p).2.1, A)
end ZGR
section ZCC
variable {n : Nat} {ch : Nat → Nat} {tc mt : Nat → Int32}
theorem gT_b (hT : zTx n ch tc mt) (h1 : 1 ≤ n) : 1 ≤ (gT (zN n ch)).2.1 ∧ (gT (zN n ch)).2.1 ≤ n ∧ ((gT (zN n ch)).1 = true → 3 ≤ (gT (zN n ch)).2.1 ∧ (zxC (gT (zN n ch)).2.2).length + 3 ≤ (gT (zN n ch)).2.1) := by
  unfold gT
  by_cases h2 : 48 ≤ zN n ch 1 ∧ zN n ch 1 ≤ 55
  · have q1 : 1 < n := zN_p (ch := ch) (by omega)
    rw [if_pos h2]
    by_cases h3 : zN n ch 2 = 47
    · have q2 : 2 < n := zN_p (ch := ch) (by omega)
      rw [if_pos h3]
      obtain ⟨b1, b2, b3, b4⟩ := gE_b hT (p := 3) (by omega)
      by_cases h4 : (gE (zN n ch) 3).1 = true
      · rw [if_pos h4]
        have b5 := (b4 h4).1
        by_cases h5 : zN n ch (gE (zN n ch) 3).2.1 = 47
        · have q3 : (gE (zN n ch) 3).2.1 < n := zN_p (ch := ch) (by omega)
          rw [if_pos h5]
          by_cases h6 : zN n ch ((gE (zN n ch) 3).2.1 + 1) = 123
          · have q4 : (gE (zN n ch) 3).2.1 + 1 < n := zN_p (ch := ch) (by omega)
            rw [if_pos h6]
            refine ⟨by simp only; omega, by simp only; omega, fun _ => ⟨by simp only; omega, ?_⟩⟩
            simp only [zxC, List.length_append, List.length_map, List.length_cons, List.length_nil]
            omega
          · rw [if_neg h6]
            exact ⟨by simp only; omega, by simp only; omega, fun q => absurd q (by simp)⟩
        · rw [if_neg h5]
          exact ⟨by simp only; omega, b2, fun q => absurd q (by simp)⟩
      · rw [if_neg h4]
        exact ⟨by simp only; omega, b2, fun q => absurd q (by simp)⟩
    · rw [if_neg h3]
      by_cases h4 : zN n ch 2 = 123
      · have q2 : 2 < n := zN_p (ch := ch) (by omega)
        rw [if_pos h4]
        exact ⟨by simp, by simp only; omega, fun _ => ⟨by simp, by simp [zxC]⟩⟩
      · rw [if_neg h4]
        exact ⟨by simp, by simp only; omega, fun q => absurd q (by simp)⟩
  · rw [if_neg h2]
    exact ⟨by simp, by simp only; omega, fun q => absurd q (by simp)⟩
def cTQ (s : Nat) (ex : Int32) (r : Bool × Nat × Option (List zTok)) (a : Int32) (b : Int32 × Int32 × Int32 × Int32 × Int32 × (Nat → Int32)) : Prop := a = (if r.1 then 1 else 0) ∧ b.1 = nI r.2.1 ∧ (r.1 = true → b.2.1 = nI (zxC r.2.2).length ∧ b.2.2.1 = nI s ∧ b.2.2.2.1 = ex ∧ b.2.2.2.2.1 = (if r.2.2.isSome then 1 else 0) ∧ sE b.2.2.2.2.2 0 (zxC r.2.2))
def zTail (n : Nat) (tc ds : Nat → Int32) (u ex : Int32) (Q : Int32 → (Int32 × Int32 × Int32 × Int32 × Int32 × (Nat → Int32)) → Prop) : Prop :=
  p_Te_next (nI n) u tc ∧ (∀ (r13 : Int32), s_Te_next (nI n) u tc = r13 → (∀ (r17 : Int32), s_Tr_isWithin (r13 - (48 : Int32)) (8 : Int32) = r17 → ((¬ r17 = 0) → p_Te_pass (nI n) (u + (1 : Int32)) tc (47 : Int32) ∧ (∀ (r23 u24 : Int32), s_Te_pass (nI n) (u + (1 : Int32)) tc (47 : Int32) = (r23, u24) → ((r23 = 0) → p_Te_pass (nI n) u24 tc (123 : Int32) ∧ (∀ (r29 u30 : Int32), s_Te_pass (nI n) u24 tc (123 : Int32) = (r29, u30) → (zb r29 ∧ Q r29 (u30, (0 : Int32), r13 - (48 : Int32), ex, (0 : Int32), ds)))) ∧ ((¬ r23 = 0) → p_Te_readLevel (nI n) u24 tc (0 : Int32) ds (0 : Int32) (0 : Int32) ∧ (∀ (r33 m36 m37 : Int32) (m38 : Nat → Int32), s_Te_readLevel (nI n) u24 tc (0 : Int32) ds (0 : Int32) (0 : Int32) = (r33, m36, m37, m38) → ((r33 = 0) → Q (0 : Int32) (m36, m37, r13 - (48 : Int32), ex, (0 : Int32), m38)) ∧ ((¬ r33 = 0) → p_Te_pass (nI n) m36 tc (47 : Int32) ∧ (∀ (r42 u43 : Int32), s_Te_pass (nI n) m36 tc (47 : Int32) = (r42, u43) → ((¬ r42 = 0) → p_Ru_add m37 m38 (47 : Int32) ∧ (∀ (m51 : Int32) (m52 : Nat → Int32), s_Ru_add m37 m38 (47 : Int32) = (m51, m52) → p_Te_pass (nI n) u43 tc (123 : Int32) ∧ (∀ (r54 u55 : Int32), s_Te_pass (nI n) u43 tc (123 : Int32) = (r54, u55) → (zb r54 ∧ Q r54 (u55, m51, r13 - (48 : Int32), ex, (1 : Int32), m52))))) ∧ ((r42 = 0) → Q (0 : Int32) (u43, m37, r13 - (48 : Int32), ex, (0 : Int32), m38)))))))) ∧ ((r17 = 0) → Q (0 : Int32) (u, (0 : Int32), r13 - (48 : Int32), ex, (0 : Int32), ds))))
theorem c_tail (hT : zTx n ch tc mt) (h1 : 1 ≤ n) (ds : Nat → Int32) (ex : Int32) : zTail n tc ds (nI 1) ex (cTQ (zN n ch 1 - 48) ex (gT (zN n ch))) := by
  have hn := hT.1
  have h127 := zN_lt hT
  have h1' := h127 1
  have l := f_next hT (p := 1) (by omega)
  refine ⟨l.1, fun r13 q => ?_⟩
  rw [l.2] at q
  subst q
  intro r17 q17
  unfold gT
  by_cases h2 : 48 ≤ zN n ch 1 ∧ zN n ch 1 ≤ 55
  · have q1 : 1 < n := zN_p (ch := ch) (by omega)
    have e48 : nI (zN n ch 1) - 48 = nI (zN n ch 1 - 48) := pk_sub (a := zN n ch 1) (b := 48) (by omega)
    rw [e48, show s_Tr_isWithin (nI (zN n ch 1 - 48)) 8 = 1 from wi_in (n := 8) (by omega) (by omega)] at q17
    subst q17
    rw [if_pos h2, e48]
    refine ⟨fun _ => ?_, fun q => absurd q (by decide)⟩
    have c := f_pass hT (p := 2) (c := 47) (by omega) (by omega)
    refine ⟨c.1, fun r23 u24 q => ?_⟩
    rw [show s_Te_pass (nI n) (nI 1 + 1) tc 47 = _ from c.2] at q
    by_cases h3 : zN n ch 2 = 47
    · have q2 : 2 < n := zN_p (ch := ch) (by omega)
      rw [if_pos h3] at q ⊢
      cases q
      refine ⟨fun q => absurd q (by decide), fun _ => ?_⟩
      have hb := gE_b hT (p := 3) (by omega)
      refine (c_exp hT (p := 3) (d := 0) (ds := ds) (by omega) (by omega)).use (P := fun r33 m36 m37 m38 => ((r33 = 0) → cTQ (zN n ch 1 - 48) ex _ (0 : Int32) (m36, m37, nI (zN n ch 1 - 48), ex, (0 : Int32), m38)) ∧ ((¬ r33 = 0) → p_Te_pass (nI n) m36 tc (47 : Int32) ∧ (∀ (r42 u43 : Int32), s_Te_pass (nI n) m36 tc (47 : Int32) = (r42, u43) → ((¬ r42 = 0) → p_Ru_add m37 m38 (47 : Int32) ∧ (∀ (m51 : Int32) (m52 : Nat → Int32), s_Ru_add m37 m38 (47 : Int32) = (m51, m52) → p_Te_pass (nI n) u43 tc (123 : Int32) ∧ (∀ (r54 u55 : Int32), s_Te_pass (nI n) u43 tc (123 : Int32) = (r54, u55) → (zb r54 ∧ cTQ (zN n ch 1 - 48) ex _ r54 (u55, m51, nI (zN n ch 1 - 48), ex, (1 : Int32), m52))))) ∧ ((r42 = 0) → cTQ (zN n ch 1 - 48) ex _ (0 : Int32) (u43, m37, nI (zN n ch 1 - 48), ex, (0 : Int32), m38))))) (fun ds' e1 e2 => ?_)
      have e1 : sE ds' 0 ((gE (zN n ch) 3).2.2.map zkc) := e1
      generalize hR : gE (zN n ch) 3 = R at hb e1 ⊢
      have hR' : gP (zN n ch) 30 0 0 0 3 = R := hR
      rw [hR']
      obtain ⟨b1, b2, b3, b4⟩ := hb
      by_cases h4 : R.1 = true
      · rw [if_pos h4, if_pos h4]
        refine ⟨fun q => absurd q (by decide), fun _ => ?_⟩
        have c := f_pass hT (p := R.2.1) (c := 47) (by omega) (by omega)
        refine ⟨c.1, fun r42 u43 q => ?_⟩
        rw [show s_Te_pass (nI n) (nI R.2.1) tc 47 = _ from c.2] at q
        by_cases h5 : zN n ch R.2.1 = 47
        · have q3 : R.2.1 < n := zN_p (ch := ch) (by omega)
          rw [if_pos h5] at q ⊢
          cases q
          refine ⟨fun _ => ?_, fun q => absurd q (by decide)⟩
          have u := f_ruadd (d := 0 + R.2.2.length) (by omega) ds' 47
          refine ⟨u.1, fun m51 m52 q => ?_⟩
          rw [u.2] at q
          cases q
          have c := f_pass hT (p := R.2.1 + 1) (c := 123) (by omega) (by omega)
          refine ⟨c.1, fun r54 u55 q => ?_⟩
          rw [show s_Te_pass (nI n) (nI (R.2.1 + 1)) tc 123 = _ from c.2] at q
          by_cases h6 : zN n ch (R.2.1 + 1) = 123
          · rw [if_pos h6] at q ⊢
            cases q
            refine ⟨Or.inr rfl, rfl, rfl, fun _ => ⟨?_, rfl, rfl, rfl, ?_⟩⟩
            · simp only [zxC, List.length_append, List.length_map, List.length_cons, List.length_nil]
              congr 1; omega
            · exact sE_snoc (x := 47) (by rw [List.length_map]) e1
          · rw [if_neg h6] at q ⊢
            cases q
            exact ⟨Or.inl rfl, rfl, rfl, fun q => absurd q (by simp)⟩
        · rw [if_neg h5] at q ⊢
          cases q
          exact ⟨fun q => absurd rfl q, fun _ => ⟨rfl, rfl, fun q => absurd q (by simp)⟩⟩
      · rw [if_neg h4, if_neg h4]
        exact ⟨fun _ => ⟨rfl, rfl, fun q => absurd q (by simp)⟩, fun q => absurd rfl q⟩
    · rw [if_neg h3] at q ⊢
      cases q
      refine ⟨fun _ => ?_, fun q => absurd rfl q⟩
      have c := f_pass hT (p := 2) (c := 123) (by omega) (by omega)
      refine ⟨c.1, fun r29 u30 q => ?_⟩
      rw [show s_Te_pass (nI n) (nI 2) tc 123 = _ from c.2] at q
      by_cases h4 : zN n ch 2 = 123
      · rw [if_pos h4] at q ⊢
        cases q
        exact ⟨Or.inr rfl, rfl, rfl, fun _ => ⟨rfl, rfl, rfl, rfl, trivial⟩⟩
      · rw [if_neg h4] at q ⊢
        cases q
        exact ⟨Or.inl rfl, rfl, rfl, fun q => absurd q (by simp)⟩
  · rw [if_neg h2]
    have e0 : s_Tr_isWithin (nI (zN n ch 1) - 48) 8 = 0 := by
      by_cases h3 : zN n ch 1 < 48
      · exact wi_neg (pk_sneg (a := zN n ch 1) (b := 48) (by omega) h3) _
      · rw [show nI (zN n ch 1) - 48 = nI (zN n ch 1 - 48) from pk_sub (a := zN n ch 1) (b := 48) (by omega)]
        exact wi_big (nI_le (a := 8) (by omega) (by omega))
    rw [e0] at q17
    subst q17
    exact ⟨fun q => absurd rfl q, fun _ => ⟨rfl, rfl, fun q => absurd q (by simp)⟩⟩
theorem c_head (hT : zTx n ch tc mt) (ds : Nat → Int32) : p_Te_readHead (nI n) 0 tc 0 0 0 0 ds ∧ (if zN n ch 0 = 101 ∨ zN n ch 0 = 120 then cTQ (zN n ch 1 - 48) (if zN n ch 0 = 120 then 1 else 0) (gT (zN n ch)) (s_Te_readHead (nI n) 0 tc 0 0 0 0 ds).1 (s_Te_readHead (nI n) 0 tc 0 0 0 0 ds).2 else (s_Te_readHead (nI n) 0 tc 0 0 0 0 ds).1 = 0 ∧ (s_Te_readHead (nI n) 0 tc 0 0 0 0 ds).2.1 = nI 0) := by
  have hn := hT.1
  have h127 := zN_lt hT
  have h0' := h127 0
  refine e_Te_readHead (nI n) 0 tc 0 0 0 0 ds (Q := fun a b => if zN n ch 0 = 101 ∨ zN n ch 0 = 120 then cTQ (zN n ch 1 - 48) (if zN n ch 0 = 120 then 1 else 0) (gT (zN n ch)) a b else a = 0 ∧ b.1 = nI 0) ?_
  have l := f_next hT (p := 0) (by omega)
  refine ⟨l.1, fun r1 q => ?_⟩
  rw [show s_Te_next (nI n) 0 tc = _ from l.2] at q
  subst q
  have c1 := f_pass hT (p := 0) (c := 101) (by omega) (by omega)
  have c2 := f_pass hT (p := 0) (c := 120) (by omega) (by omega)
  refine ⟨fun h => ?_, fun h => ?_⟩
  · have h120 : ¬ zN n ch 0 = 120 := fun e => h (by rw [e]; rfl)
    refine ⟨c1.1, fun r7 u8 q => ?_⟩
    rw [show s_Te_pass (nI n) 0 tc 101 = _ from c1.2] at q
    by_cases h101 : zN n ch 0 = 101
    · have q1 : 0 < n := zN_p (ch := ch) (by omega)
      rw [if_pos h101] at q
      cases q
      refine ⟨fun _ => ?_, fun q => absurd q (by decide)⟩
      have t := c_tail hT (by omega) ds 0
      simp only [if_pos (show zN n ch 0 = 101 ∨ zN n ch 0 = 120 from Or.inl h101), if_neg h120]
      exact t
    · rw [if_neg h101] at q
      cases q
      refine ⟨fun q => absurd rfl q, fun _ => ?_⟩
      refine ⟨c2.1, fun r58 u59 q => ?_⟩
      rw [show s_Te_pass (nI n) (nI 0) tc 120 = _ from c2.2, if_neg h120] at q
      cases q
      refine ⟨fun q => absurd rfl q, fun _ => ?_⟩
      have hne : ¬ (zN n ch 0 = 101 ∨ zN n ch 0 = 120) := by omega
      show (if zN n ch 0 = 101 ∨ zN n ch 0 = 120 then _ else _)
      rw [if_neg hne]
      exact ⟨rfl, rfl⟩
  · have h120 : zN n ch 0 = 120 := (nI_eq (a := zN n ch 0) (b := 120) (by omega) (by omega)).mp h
    have q1 : 0 < n := zN_p (ch := ch) (by omega)
    refine ⟨c1.1, fun r7 u8 q => ?_⟩
    rw [show s_Te_pass (nI n) 0 tc 101 = _ from c1.2, if_neg (by omega)] at q
    cases q
    refine ⟨fun q => absurd rfl q, fun _ => ?_⟩
    refine ⟨c2.1, fun r58 u59 q => ?_⟩
    rw [show s_Te_pass (nI n) (nI 0) tc 120 = _ from c2.2, if_pos h120] at q
    cases q
    refine ⟨fun _ => ?_, fun q => absurd q (by decide)⟩
    have t := c_tail hT (by omega) ds 1
    simp only [if_pos (show zN n ch 0 = 101 ∨ zN n ch 0 = 120 from Or.inr h120), if_pos h120]
    exact t
/-- what the class's draft holds when the body has been read -/
def cRQ (L0 : List Nat) (site exit cond : Int32) (r : Bool × Nat × List zAct) (a : Int32) (b : Int32 × Int32 × Int32 × Int32 × Int32 × Int32 × Int32 × Int32 × Int32 × Int32 × (Nat → Int32)) : Prop := a = (if r.1 then 1 else 0) ∧ b.1 = nI r.2.1 ∧ (r.1 = true → b.2.1 = nI (L0 ++ r.2.2.flatMap zxS).length ∧ (L0 ++ r.2.2.flatMap zxS).length ≤ 48 ∧ b.2.2.1 = nI r.2.2.length ∧ b.2.2.2.1 = site ∧ b.2.2.2.2.1 = exit ∧ b.2.2.2.2.2.1 = cond ∧ b.2.2.2.2.2.2.1 = 0 ∧ b.2.2.2.2.2.2.2.1 = 0 ∧ b.2.2.2.2.2.2.2.2.1 = 0 ∧ b.2.2.2.2.2.2.2.2.2.1 = 0 ∧ sE b.2.2.2.2.2.2.2.2.2.2 0 (L0 ++ r.2.2.flatMap zxS))
theorem c_body (hT : zTx n ch tc mt) {L0 : List Nat} {site exit cond : Int32} : ∀ (m p : Nat) (A : List zAct) (F : Nat) (ds : Nat → Int32), m ≤ 48 → p ≤ n → A.length ≤ 48 - m → (L0 ++ A.flatMap zxS).length ≤ p → sE ds 0 (L0 ++ A.flatMap zxS) → WP_Te_read_L23 (F + m + 1) (nI (48 - m)) (nI n) (nI p) (nI (L0 ++ A.flatMap zxS).length) (nI A.length) site exit cond 0 0 0 0 tc ds (cRQ L0 site exit cond (gAs (zN n ch) n m p A))
  | 0, p, A, F, ds, _, hp, hA, hl, hs => pk_le 48 48 (fun _ => ⟨rfl, rfl, fun q => absurd q (by simp [gAs])⟩) (fun q => absurd q (by omega))
  | m + 1, p, A, F, ds, hm, hp, hA, hl, hs => by
    have hn := hT.1
    have h127 := zN_lt hT
    show WP_Te_read_L23 (F + m + 1 + 1) _ _ _ _ _ _ _ _ _ _ _ _ _ _ _
    refine pk_le 48 (48 - (m + 1)) (fun q => absurd q (by omega)) (fun _ => ?_)
    have c := c_act hT (p := p) (d := (L0 ++ A.flatMap zxS).length) (ds := ds) hp hl
    have hb := gA_b hT (p := p) hp
    unfold gAs
    refine ⟨c.1, fun r28 m31 m32 m33 q => ?_⟩
    have c2 := c.2
    rw [q] at c2
    obtain ⟨k1, k2, k3⟩ := c2
    simp only at k1 k2 k3
    generalize gA (zN n ch) p = R at hb k1 k2 k3 ⊢
    obtain ⟨b1, b2, b3⟩ := hb
    subst k1 k2
    by_cases h6 : R.1 = true
    · rw [if_pos h6, if_pos h6]
      obtain ⟨k4, k5, k6⟩ := k3 h6
      obtain ⟨b4, b5⟩ := b3 h6
      have hfl : L0 ++ (A ++ [R.2.2]).flatMap zxS = (L0 ++ A.flatMap zxS) ++ zxS R.2.2 := by
        rw [List.flatMap_append, List.append_assoc]
        simp
      have hsE : sE m33 0 (L0 ++ (A ++ [R.2.2]).flatMap zxS) := by
        rw [hfl]
        exact sE_more (by omega) hs k6 k5
      have hlen : (L0 ++ (A ++ [R.2.2]).flatMap zxS).length = (L0 ++ A.flatMap zxS).length + (zxS R.2.2).length := by rw [hfl, List.length_append]
      subst k4
      refine ⟨fun _ => ?_, fun q => absurd q (by decide)⟩
      have c := f_pass hT (p := R.2.1) (c := 125) (by omega) (by omega)
      refine ⟨c.1, fun r37 u38 q => ?_⟩
      rw [show s_Te_pass (nI n) (nI R.2.1) tc 125 = _ from c.2] at q
      by_cases h7 : zN n ch R.2.1 = 125
      · have q1 : R.2.1 < n := zN_p (ch := ch) (by omega)
        rw [if_pos h7] at q ⊢
        cases q
        refine ⟨fun q => absurd q (by decide), fun _ => ?_⟩
        rw [nI_1]
        refine ⟨fun q => ?_, fun q => ?_⟩
        · have hne : ¬ R.2.1 + 1 = n := fun e => q (by rw [e])
          exact ⟨by simp only [decide_eq_false hne]; rfl, rfl, fun q => absurd q (by simp only [decide_eq_false hne]; decide)⟩
        · have he : R.2.1 + 1 = n := (nI_eq (by omega) (by omega)).mp q
          refine ⟨by simp only [decide_eq_true he]; rfl, rfl, fun _ => ⟨by rw [hlen], by rw [hlen]; omega, by simp only [List.length_append, List.length_cons, List.length_nil], rfl, rfl, rfl, rfl, rfl, rfl, rfl, hsE⟩⟩
      · rw [if_neg h7] at q ⊢
        cases q
        refine ⟨fun _ => ?_, fun q => absurd rfl q⟩
        have c := f_pass hT (p := R.2.1) (c := 59) (by omega) (by omega)
        refine ⟨c.1, fun r43 u44 q => ?_⟩
        rw [show s_Te_pass (nI n) (nI R.2.1) tc 59 = _ from c.2] at q
        by_cases h8 : zN n ch R.2.1 = 59
        · have q1 : R.2.1 < n := zN_p (ch := ch) (by omega)
          rw [if_pos h8] at q ⊢
          cases q
          refine ⟨fun _ => ?_, fun q => absurd q (by decide)⟩
          have ih := c_body hT (L0 := L0) (site := site) (exit := exit) (cond := cond) m (R.2.1 + 1) (A ++ [R.2.2]) F m33 (by omega) (by omega) (by simp only [List.length_append, List.length_cons, List.length_nil]; omega) (by rw [hlen]; omega) hsE
          rw [hlen, show (A ++ [R.2.2]).length = A.length + 1 by simp] at ih
          rw [nI_1, nI_1, show 48 - (m + 1) + 1 = 48 - m by omega]
          exact ih
        · rw [if_neg h8] at q ⊢
          cases q
          exact ⟨fun q => absurd rfl q, fun _ => ⟨rfl, rfl, fun q => absurd q (by simp)⟩⟩
    · rw [if_neg h6, if_neg h6]
      exact ⟨fun q => absurd rfl q, fun _ => ⟨rfl, rfl, fun q => absurd q (by simp)⟩⟩
end ZCC
