/-! the text, read by neither -/
/-- the character at p, or 0 behind the end -/
def zN (n : Nat) (ch : Nat → Nat) (p : Nat) : Nat := if p < n then ch p else 0
def zTx (n : Nat) (ch : Nat → Nat) (tc mt : Nat → Int32) : Prop := n ≤ 48 ∧ ∀ i, i < n → 33 ≤ ch i ∧ ch i ≤ 126 ∧ tc i = nI (ch i) ∧ mt i = nI (ch i)
theorem zN_lt {n : Nat} {ch : Nat → Nat} {tc mt : Nat → Int32} (h : zTx n ch tc mt) (p : Nat) : zN n ch p < 127 := by
  unfold zN
  split
  · rename_i q
    have := (h.2 p q).2.1
    omega
  · omega
theorem zN_p {n : Nat} {ch : Nat → Nat} {p : Nat} (h : ¬ zN n ch p = 0) : p < n := by
  unfold zN at h
  split at h
  · assumption
  · exact absurd rfl h
theorem f_next {n : Nat} {ch : Nat → Nat} {tc mt : Nat → Int32} (h : zTx n ch tc mt) {p : Nat} (hp : p < 1000) : p_Te_next (nI n) (nI p) tc ∧ s_Te_next (nI n) (nI p) tc = nI (zN n ch p) := by
  have hn := h.1
  refine e_Te_next (nI n) (nI p) tc (Q := fun a _ => a = nI (zN n ch p)) (pk_le n p (fun q => ?_) (fun q => pk_le 48 p (fun q2 => absurd q2 (by omega)) (fun _ => ?_)))
  · unfold zN
    rw [if_neg (by omega)]; rfl
  · obtain ⟨a, b, c, d⟩ := h.2 p q
    rw [nI_clamp (by omega), c]
    refine ⟨pk_in p 48 (by omega), (pk_charN (by omega)).1, ?_⟩
    unfold zN
    rw [if_pos q]
theorem f_look {n : Nat} {ch : Nat → Nat} {tc mt : Nat → Int32} (h : zTx n ch tc mt) {p : Nat} (hp : p < 1000) : p_Mo_look (nI n) (nI p) mt ∧ s_Mo_look (nI n) (nI p) mt = nI (zN n ch p) := by
  have hn := h.1
  refine e_Mo_look (nI n) (nI p) mt (Q := fun a _ => a = nI (zN n ch p)) (pk_le n p (fun q => ?_) (fun q => ?_))
  · unfold zN
    rw [if_neg (by omega)]; rfl
  · obtain ⟨a, b, c, d⟩ := h.2 p q
    rw [nI_clamp (by omega), d]
    refine ⟨pk_in p 48 (by omega), ?_⟩
    unfold zN
    rw [if_pos q]
theorem f_pass {n : Nat} {ch : Nat → Nat} {tc mt : Nat → Int32} (h : zTx n ch tc mt) {p c : Nat} (hp : p < 1000) (hc : c < 127) : p_Te_pass (nI n) (nI p) tc (nI c) ∧ s_Te_pass (nI n) (nI p) tc (nI c) = (if zN n ch p = c then (1, nI (p + 1)) else (0, nI p)) := by
  have a := f_next h hp
  have b := zN_lt h p
  refine e_Te_pass (nI n) (nI p) tc (nI c) (Q := fun x y => (x, y) = (if zN n ch p = c then (1, nI (p + 1)) else (0, nI p))) ⟨a.1, fun r q => ?_⟩
  rw [a.2] at q
  subst q
  refine pk_eq (zN n ch p) c (fun q => ?_) (fun q => ?_)
  · rw [if_pos q, nI_1]
  · rw [if_neg q]
theorem f_passes {n : Nat} {ch : Nat → Nat} {tc mt : Nat → Int32} (h : zTx n ch tc mt) {p c : Nat} (hp : p < 1000) (hc : c < 127) : p_Mo_passes (nI n) (nI p) mt (nI c) ∧ s_Mo_passes (nI n) (nI p) mt (nI c) = (if zN n ch p = c then (1, nI (p + 1)) else (0, nI p)) := by
  have a := f_look h hp
  have b := zN_lt h p
  refine e_Mo_passes (nI n) (nI p) mt (nI c) (Q := fun x y => (x, y) = (if zN n ch p = c then (1, nI (p + 1)) else (0, nI p))) ⟨a.1, fun r q => ?_⟩
  rw [a.2] at q
  subst q
  refine pk_eq (zN n ch p) c (fun q => ?_) (fun q => ?_)
  · rw [if_pos q, nI_1]
  · rw [if_neg q]
/-- the level of an operator: 0 comparing, 1 summing, 2 multiplying, 9 none -/
def lvN (c : Nat) : Nat := if c = 60 ∨ c = 61 ∨ c = 62 then 0 else if c = 43 ∨ c = 45 then 1 else if c = 42 ∨ c = 58 then 2 else 9
theorem f_lev : ∀ c, c < 127 → s_Te_levelOf (nI c) = if lvN c = 9 then -1 else nI (lvN c) := by decide +kernel
theorem f_rank : ∀ c, c < 127 → s_Mo_rank (nI c) = if lvN c = 9 then 0 else nI (lvN c + 1) := by decide +kernel
def dgN (c : Nat) : Bool := decide (48 ≤ c) && decide (c ≤ 57)
def nmN (c : Nat) : Bool := (decide (97 ≤ c) && decide (c ≤ 99)) || decide (c = 116) || decide (c = 107) || (decide (117 ≤ c) && decide (c ≤ 122))
theorem f_dig : ∀ c, c < 127 → s_Te_isDigit (nI c) = if dgN c then 1 else 0 := by decide +kernel
theorem f_nam : ∀ c, c < 127 → s_Te_isName (nI c) = if nmN c then 1 else 0 := by decide +kernel
theorem f_dig2 : ∀ c, c < 127 → s_Mo_in (nI c) 48 57 = if dgN c then 1 else 0 := by decide +kernel
theorem nmN_Nm {c : Nat} (h : nmN c = true) : zNm c := by
  unfold nmN at h
  simp at h
  unfold zNm
  omega
theorem lv_cases : ∀ c, c < 127 → lvN c = 0 ∨ lvN c = 1 ∨ lvN c = 2 ∨ lvN c = 9 := by decide +kernel
theorem lv_Op : ∀ c, c < 127 → ¬ lvN c = 9 → zOp c := by unfold zOp; decide +kernel
theorem lv_0 : lvN 0 = 9 := rfl
section ZPG
variable (nx : Nat → Nat)
/-- a number of one to three digits -/
def gN (p : Nat) : Nat × Nat := if dgN (nx (p + 1)) then (if dgN (nx (p + 2)) then (p + 3, (nx p - 48) * 100 + (nx (p + 1) - 48) * 10 + (nx (p + 2) - 48)) else (p + 2, (nx p - 48) * 10 + (nx (p + 1) - 48))) else (p + 1, nx p - 48)
def gU (subL subU : Nat → Bool × Nat × List zTok) (dep p : Nat) : Bool × Nat × List zTok :=
  if dgN (nx p) then (true, (gN nx p).1, [(1, (gN nx p).2)])
  else if nmN (nx p) then (true, p + 1, [(2, nx p)])
  else if nx p = 40 then (if dep < 5 then (if (subL (p + 1)).1 then (if nx (subL (p + 1)).2.1 = 41 then (true, (subL (p + 1)).2.1 + 1, (subL (p + 1)).2.2) else (false, (subL (p + 1)).2.1, (subL (p + 1)).2.2)) else (false, (subL (p + 1)).2.1, (subL (p + 1)).2.2)) else (false, p, []))
  else if nx p = 45 then (if dep < 5 then (if (subU (p + 1)).1 then (true, (subU (p + 1)).2.1, (subU (p + 1)).2.2 ++ [(4, 0)]) else (false, (subU (p + 1)).2.1, (subU (p + 1)).2.2)) else (false, p, []))
  else (false, p, [])
def gW (sub : Nat → Bool × Nat × List zTok) (lev : Nat) : Nat → Nat → List zTok → Bool × Nat × List zTok
  | 0, p, T => (true, p, T)
  | m + 1, p, T => if lvN (nx p) = lev then (if (sub (p + 1)).1 then gW sub lev m (sub (p + 1)).2.1 (T ++ ((sub (p + 1)).2.2 ++ [(3, nx p)])) else (false, (sub (p + 1)).2.1, T ++ (sub (p + 1)).2.2)) else (true, p, T)
def gP : Nat → Nat → Nat → Nat → Nat → Bool × Nat × List zTok
  | 0, _, _, _, p => (false, p, [])
  | f + 1, md, lev, dep, p => if md = 0 then (if 2 < lev then gP f 1 0 dep p else (if (gP f 0 (lev + 1) dep p).1 then gW nx (gP f 0 (lev + 1) dep) lev (if lev = 0 then 1 else 48) (gP f 0 (lev + 1) dep p).2.1 (gP f 0 (lev + 1) dep p).2.2 else (false, (gP f 0 (lev + 1) dep p).2.1, (gP f 0 (lev + 1) dep p).2.2))) else gU nx (gP f 0 0 (dep + 1)) (gP f 1 0 (dep + 1)) dep p
end ZPG
/-- what every reading keeps: it goes on in the text, and leaves no more tokens than it took characters -/
def gB (n p : Nat) (r : Bool × Nat × List zTok) : Prop := p ≤ r.2.1 ∧ r.2.1 ≤ n ∧ r.2.2.length + p ≤ r.2.1 ∧ (r.1 = true → p < r.2.1 ∧ ∀ d, wT d r.2.2 (d + 1))
theorem wT_app : ∀ (T U : List zTok) (d e g : Nat), wT d T e → wT e U g → wT d (T ++ U) g
  | [], U, d, e, g, h1, h2 => by
    have : d = e := h1
    subst this
    exact h2
  | t :: T, U, d, e, g, h1, h2 => by
    rcases h1 with ⟨a, b, h⟩ | ⟨a, b, h⟩ | ⟨a, b, c, h⟩ | ⟨a, b, c, h⟩
    · exact Or.inl ⟨a, b, wT_app T U _ e g h h2⟩
    · exact Or.inr (Or.inl ⟨a, b, wT_app T U _ e g h h2⟩)
    · exact Or.inr (Or.inr (Or.inl ⟨a, b, c, wT_app T U _ e g h h2⟩))
    · exact Or.inr (Or.inr (Or.inr ⟨a, b, c, wT_app T U _ e g h h2⟩))
theorem dgN_n {c : Nat} (h : dgN c = true) : 48 ≤ c ∧ c ≤ 57 := by
  unfold dgN at h
  simp at h
  exact h
section ZPH
variable {n : Nat} {ch : Nat → Nat}
theorem gN_b {p : Nat} (hp : dgN (zN n ch p) = true) : p < (gN (zN n ch) p).1 ∧ (gN (zN n ch) p).1 ≤ n ∧ (gN (zN n ch) p).2 ≤ 999 := by
  have ne : ∀ q, dgN (zN n ch q) = true → q < n := fun q h => zN_p (fun e => by rw [e] at h; exact absurd h (by decide))
  have h0 := ne p hp
  have d0 := dgN_n hp
  unfold gN
  by_cases h1 : dgN (zN n ch (p + 1)) = true
  · have := ne _ h1
    have d1 := dgN_n h1
    rw [if_pos h1]
    by_cases h2 : dgN (zN n ch (p + 2)) = true
    · have := ne _ h2
      have d2 := dgN_n h2
      rw [if_pos h2]
      simp only
      omega
    · rw [if_neg h2]
      simp only
      omega
  · rw [if_neg h1]
    simp only
    omega
theorem gU_b {subL subU : Nat → Bool × Nat × List zTok} {dep p : Nat} (hp : p ≤ n) (hL : dep < 5 → ∀ q, q ≤ n → gB n q (subL q)) (hU : dep < 5 → ∀ q, q ≤ n → gB n q (subU q)) : gB n p (gU (zN n ch) subL subU dep p) := by
  unfold gU
  by_cases h1 : dgN (zN n ch p) = true
  · rw [if_pos h1]
    obtain ⟨a, b, c⟩ := gN_b h1
    exact ⟨by simp only; omega, b, by simp only [List.length_cons, List.length_nil]; omega, fun _ => ⟨a, fun d => Or.inl ⟨rfl, c, rfl⟩⟩⟩
  rw [if_neg h1]
  by_cases h2 : nmN (zN n ch p) = true
  · rw [if_pos h2]
    have : p < n := zN_p (fun e => by rw [e] at h2; exact absurd h2 (by decide))
    exact ⟨by simp only; omega, by simp only; omega, by simp only [List.length_cons, List.length_nil]; omega, fun _ => ⟨by simp only; omega, fun d => Or.inr (Or.inl ⟨rfl, nmN_Nm h2, rfl⟩)⟩⟩
  rw [if_neg h2]
  have fal : gB n p (false, p, []) := ⟨Nat.le_refl _, hp, by simp, fun q => absurd q (by simp)⟩
  by_cases h3 : zN n ch p = 40
  · rw [if_pos h3]
    have : p < n := zN_p (ch := ch) (by omega)
    by_cases h5 : dep < 5
    · rw [if_pos h5]
      obtain ⟨a, b, c, d⟩ := hL h5 (p + 1) (by omega)
      by_cases h6 : (subL (p + 1)).1 = true
      · rw [if_pos h6]
        obtain ⟨d1, d2⟩ := d h6
        by_cases h7 : zN n ch (subL (p + 1)).2.1 = 41
        · rw [if_pos h7]
          have : (subL (p + 1)).2.1 < n := zN_p (ch := ch) (by omega)
          exact ⟨by simp only; omega, by simp only; omega, by simp only; omega, fun _ => ⟨by simp only; omega, d2⟩⟩
        · rw [if_neg h7]
          exact ⟨by simp only; omega, b, by simp only; omega, fun q => absurd q (by simp)⟩
      · rw [if_neg h6]
        exact ⟨by simp only; omega, b, by simp only; omega, fun q => absurd q (by simp)⟩
    · rw [if_neg h5]
      exact fal
  rw [if_neg h3]
  by_cases h4 : zN n ch p = 45
  · rw [if_pos h4]
    have : p < n := zN_p (ch := ch) (by omega)
    by_cases h5 : dep < 5
    · rw [if_pos h5]
      obtain ⟨a, b, c, d⟩ := hU h5 (p + 1) (by omega)
      by_cases h6 : (subU (p + 1)).1 = true
      · rw [if_pos h6]
        obtain ⟨d1, d2⟩ := d h6
        refine ⟨by simp only; omega, b, by simp only [List.length_append, List.length_cons, List.length_nil]; omega, fun _ => ⟨by simp only; omega, fun d => ?_⟩⟩
        exact wT_app _ _ d (d + 1) (d + 1) (d2 d) (Or.inr (Or.inr (Or.inr ⟨rfl, rfl, by omega, rfl⟩)))
      · rw [if_neg h6]
        exact ⟨by simp only; omega, b, by simp only; omega, fun q => absurd q (by simp)⟩
    · rw [if_neg h5]
      exact fal
  rw [if_neg h4]
  exact fal
theorem gW_b (h127 : ∀ q, zN n ch q < 127) {sub : Nat → Bool × Nat × List zTok} {lev : Nat} (hlev : ¬ lev = 9) (hs : ∀ q, q ≤ n → gB n q (sub q)) : ∀ (m p p0 : Nat) (T : List zTok), p ≤ n → T.length + p0 ≤ p → p0 < p → (∀ d, wT d T (d + 1)) → gB n p0 (gW (zN n ch) sub lev m p T)
  | 0, p, p0, T, hp, hl, h0, hw => ⟨by simp only [gW]; omega, by simp only [gW]; omega, by simp only [gW]; omega, fun _ => ⟨by simp only [gW]; omega, hw⟩⟩
  | m + 1, p, p0, T, hp, hl, h0, hw => by
    unfold gW
    by_cases h1 : lvN (zN n ch p) = lev
    · rw [if_pos h1]
      have hop := lv_Op _ (h127 p) (by rw [h1]; exact hlev)
      have hpn : p < n := zN_p (fun e => by rw [e, lv_0] at h1; exact hlev h1.symm)
      obtain ⟨a, b, c, d⟩ := hs (p + 1) (by omega)
      by_cases h2 : (sub (p + 1)).1 = true
      · rw [if_pos h2]
        obtain ⟨d1, d2⟩ := d h2
        refine gW_b h127 hlev hs m _ p0 _ b (by simp only [List.length_append, List.length_cons, List.length_nil]; omega) (by omega) (fun d => ?_)
        refine wT_app _ _ d (d + 1) (d + 1) (hw d) (wT_app _ _ (d + 1) (d + 2) (d + 1) (d2 (d + 1)) ?_)
        exact Or.inr (Or.inr (Or.inl ⟨rfl, hop, by omega, by show d + 2 - 1 = d + 1; omega⟩))
      · rw [if_neg h2]
        exact ⟨by simp only; omega, b, by simp only [List.length_append]; omega, fun q => absurd q (by simp)⟩
    · rw [if_neg h1]
      exact ⟨by simp only; omega, by simp only; omega, by simp only; omega, fun _ => ⟨by simp only; omega, hw⟩⟩
theorem gP_b (h127 : ∀ q, zN n ch q < 127) : ∀ (f md lev dep p : Nat), p ≤ n → gB n p (gP (zN n ch) f md lev dep p)
  | 0, md, lev, dep, p, hp => ⟨Nat.le_refl _, hp, by simp [gP], fun q => absurd q (by simp [gP])⟩
  | f + 1, md, lev, dep, p, hp => by
    unfold gP
    by_cases h0 : md = 0
    · rw [if_pos h0]
      by_cases h1 : 2 < lev
      · rw [if_pos h1]
        exact gP_b h127 f 1 0 dep p hp
      · rw [if_neg h1]
        obtain ⟨a, b, c, d⟩ := gP_b h127 f 0 (lev + 1) dep p hp
        by_cases h2 : (gP (zN n ch) f 0 (lev + 1) dep p).1 = true
        · rw [if_pos h2]
          obtain ⟨d1, d2⟩ := d h2
          exact gW_b h127 (by omega) (fun q hq => gP_b h127 f 0 (lev + 1) dep q hq) _ _ p _ b c d1 d2
        · rw [if_neg h2]
          exact ⟨a, b, c, fun q => absurd q (by simp)⟩
    · rw [if_neg h0]
      exact gU_b hp (fun _ q hq => gP_b h127 f 0 0 (dep + 1) q hq) (fun _ q hq => gP_b h127 f 1 0 (dep + 1) q hq)
end ZPH
