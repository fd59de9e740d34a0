/-! the class reads as gP says -/
theorem sE_congr {s s' : Nat → Int32} : ∀ (L : List Nat) (o : Nat), (∀ i, o ≤ i → i < o + L.length → s' i = s i) → sE s o L → sE s' o L
  | [], _, _, _ => trivial
  | x :: L, o, h, hs => ⟨(h o (by omega) (by simp)).trans hs.1, sE_congr L (o + 1) (fun i h1 h2 => h i (by omega) (by simp only [List.length_cons]; omega)) hs.2⟩
theorem sE_snoc {s : Nat → Int32} {L : List Nat} {o d x : Nat} (hd : o + L.length = d) (hs : sE s o L) : sE (upd s d (nI x)) o (L ++ [x]) := by
  rw [sE_app]
  refine ⟨sE_congr L o (fun i h1 h2 => ?_) hs, ?_, trivial⟩
  · simp only [upd]
    rw [if_neg (by omega)]
  · rw [hd]
    exact if_pos rfl
theorem f_ruadd {d : Nat} (h : d < 48) (ds : Nat → Int32) (x : Int32) : p_Ru_add (nI d) ds x ∧ s_Ru_add (nI d) ds x = (nI (d + 1), upd ds d x) := by
  refine e_Ru_add (nI d) ds x (Q := fun r => r = (nI (d + 1), upd ds d x)) (pk_le 48 d (fun q => absurd q (by omega)) (fun _ => ⟨pk_in d 48 h, ?_⟩))
  rw [nI_clamp (by omega), nI_1]
section ZCR
variable {n : Nat} {ch : Nat → Nat} {tc mt : Nat → Int32}
theorem rn_stop (hT : zTx n ch tc mt) {f v k p d : Nat} {ds : Nat → Int32} {Q : (Int32 × Int32 × (Nat → Int32)) → Prop} (hp : p < 1000) (hd : d < 48) (hk : k ≤ 3) (hv : v < 1000) (h : k = 3 ∨ ¬ dgN (zN n ch p) = true) (K : Q (nI p, nI (d + 1), upd ds d (nI (256 + v)))) : WP_Te_readNumber_L4 (f + 1) (nI v) (nI k) (nI n) (nI p) tc (nI d) ds Q := by
  have a := f_ruadd hd ds (nI (256 + v))
  have e : (256 : Int32) + nI v = nI (256 + v) := nI_add 256 v
  have go : p_Ru_add (nI d) ds ((256 : Int32) + nI v) ∧ (∀ (m6 : Int32) (m7 : Nat → Int32), s_Ru_add (nI d) ds ((256 : Int32) + nI v) = (m6, m7) → Q (nI p, m6, m7)) := by
    rw [e]
    refine ⟨a.1, fun m6 m7 q => ?_⟩
    rw [a.2] at q
    cases q
    exact K
  refine pk_le 3 k (fun _ => go) (fun q => ?_)
  have b := f_next hT hp
  refine ⟨b.1, fun r9 q9 r13 q13 => ?_⟩
  rw [b.2] at q9
  subst q9
  rw [f_dig _ (zN_lt hT p), if_neg (h.elim (fun h => absurd h (by omega)) id)] at q13
  subst q13
  exact ⟨fun _ => go, fun q => absurd rfl q⟩
theorem rn_step (hT : zTx n ch tc mt) {f v k p d : Nat} {ds : Nat → Int32} {Q : (Int32 × Int32 × (Nat → Int32)) → Prop} (hp : p < 1000) (hk : k < 3) (hv : v < 1000) (h : dgN (zN n ch p) = true) (K : WP_Te_readNumber_L4 f (nI (v * 10 + (zN n ch p - 48))) (nI (k + 1)) (nI n) (nI (p + 1)) tc (nI d) ds Q) : WP_Te_readNumber_L4 (f + 1) (nI v) (nI k) (nI n) (nI p) tc (nI d) ds Q := by
  refine pk_le 3 k (fun q => absurd q (by omega)) (fun _ => ?_)
  have b := f_next hT hp
  have dg := dgN_n h
  refine ⟨b.1, fun r9 q9 r13 q13 => ?_⟩
  rw [b.2] at q9
  subst q9
  rw [f_dig _ (zN_lt hT p), if_pos h] at q13
  subst q13
  refine ⟨fun q => absurd q (by decide), fun _ => ⟨b.1, fun r25 _ => ?_⟩⟩
  have e1 : nI v * 10 = nI (v * 10) := pk_mul v 10
  have e2 : nI (zN n ch p) - 48 = nI (zN n ch p - 48) := pk_sub (a := zN n ch p) (b := 48) (by omega)
  rw [e1, e2, nI_add, nI_1, nI_1]
  exact K
theorem c_num (hT : zTx n ch tc mt) {p d : Nat} {ds : Nat → Int32} (hp : p ≤ n) (hd : d < 48) (h : dgN (zN n ch p) = true) : p_Te_readNumber (nI n) (nI p) tc (nI d) ds ∧ s_Te_readNumber (nI n) (nI p) tc (nI d) ds = (nI (gN (zN n ch) p).1, nI (d + 1), upd ds d (nI (256 + (gN (zN n ch) p).2))) := by
  have hn := hT.1
  refine e_Te_readNumber (nI n) (nI p) tc (nI d) ds (Q := fun x => x = (nI (gN (zN n ch) p).1, nI (d + 1), upd ds d (nI (256 + (gN (zN n ch) p).2)))) ?_
  have d0 := dgN_n h
  refine rn_step hT (f := 599) (v := 0) (k := 0) (by omega) (by omega) (by omega) h ?_
  unfold gN
  by_cases h1 : dgN (zN n ch (p + 1)) = true
  · have d1 := dgN_n h1
    rw [if_pos h1]
    refine rn_step hT (f := 598) (by omega) (by omega) (by omega) h1 ?_
    by_cases h2 : dgN (zN n ch (p + 2)) = true
    · have d2 := dgN_n h2
      rw [if_pos h2]
      refine rn_step hT (f := 597) (p := p + 2) (by omega) (by omega) (by omega) h2 ?_
      have e : ((0 * 10 + (zN n ch p - 48)) * 10 + (zN n ch (p + 1) - 48)) * 10 + (zN n ch (p + 2) - 48) = (zN n ch p - 48) * 100 + (zN n ch (p + 1) - 48) * 10 + (zN n ch (p + 2) - 48) := by omega
      rw [e]
      exact rn_stop hT (f := 596) (p := p + 3) (by omega) hd (by omega) (by omega) (Or.inl rfl) rfl
    · rw [if_neg h2]
      have e : (0 * 10 + (zN n ch p - 48)) * 10 + (zN n ch (p + 1) - 48) = (zN n ch p - 48) * 10 + (zN n ch (p + 1) - 48) := by omega
      rw [e]
      exact rn_stop hT (f := 597) (p := p + 2) (by omega) hd (by omega) (by omega) (Or.inr h2) rfl
  · rw [if_neg h1]
    have e : 0 * 10 + (zN n ch p - 48) = zN n ch p - 48 := by omega
    rw [e]
    exact rn_stop hT (f := 598) (p := p + 1) (by omega) hd (by omega) (by omega) (Or.inr h1) rfl
/-- what a reading leaves in the draft -/
def cQ (d : Nat) (ds : Nat → Int32) (r : Bool × Nat × List zTok) (a : Int32) (b : Int32 × Int32 × (Nat → Int32)) : Prop := a = (if r.1 then 1 else 0) ∧ b.1 = nI r.2.1 ∧ b.2.1 = nI (d + r.2.2.length) ∧ sE b.2.2 d (r.2.2.map zkc) ∧ ∀ i, i < d → b.2.2 i = ds i
def cOk (tc : Nat → Int32) (n : Nat) (rd : zRD) (prd : zRP) (md p d : Nat) (ds : Nat → Int32) (x y : Int32) (r : Bool × Nat × List zTok) : Prop := prd md (nI n) (nI p) tc (nI d) ds x y ∧ cQ d ds r (rd md (nI n) (nI p) tc (nI d) ds x y).1 (rd md (nI n) (nI p) tc (nI d) ds x y).2
theorem cOk.use {rd : zRD} {prd : zRP} {md p d : Nat} {ds : Nat → Int32} {x y : Int32} {r : Bool × Nat × List zTok} (h : cOk tc n rd prd md p d ds x y r) {P : Int32 → Int32 → Int32 → (Nat → Int32) → Prop} (K : ∀ ds', sE ds' d (r.2.2.map zkc) → (∀ i, i < d → ds' i = ds i) → P (if r.1 then 1 else 0) (nI r.2.1) (nI (d + r.2.2.length)) ds') : prd md (nI n) (nI p) tc (nI d) ds x y ∧ ∀ (r3 m6 m7 : Int32) (m8 : Nat → Int32), rd md (nI n) (nI p) tc (nI d) ds x y = (r3, m6, m7, m8) → P r3 m6 m7 m8 := by
  refine ⟨h.1, fun r3 m6 m7 m8 q => ?_⟩
  obtain ⟨h1, h2, h3, h4, h5⟩ := h.2
  rw [q] at h1 h2 h3 h4 h5
  simp only at h1 h2 h3 h4 h5
  subst h1 h2 h3
  exact K m8 h4 h5
theorem zb_if (b : Bool) : zb (if b then 1 else 0) := by
  cases b
  · exact Or.inl rfl
  · exact Or.inr rfl
theorem c_unit (hT : zTx n ch tc mt) {rd : zRD} {prd : zRP} {f dep p d : Nat} {ds : Nat → Int32} (hp : p ≤ n) (hd : d ≤ p) (hdep : dep ≤ 5)
    (hL : dep < 5 → ∀ (q d : Nat) (ds : Nat → Int32), q ≤ n → d ≤ q → cOk tc n rd prd 0 q d ds (nI 0) (nI (dep + 1)) (gP (zN n ch) f 0 0 (dep + 1) q)) (hU : dep < 5 → ∀ (q d : Nat) (ds : Nat → Int32), q ≤ n → d ≤ q → cOk tc n rd prd 1 q d ds (nI (dep + 1)) 0 (gP (zN n ch) f 1 0 (dep + 1) q)) :
    WP_Te_readUnit rd prd (nI n) (nI p) tc (nI d) ds (nI dep) (cQ d ds (gU (zN n ch) (gP (zN n ch) f 0 0 (dep + 1)) (gP (zN n ch) f 1 0 (dep + 1)) dep p)) := by
  have hn := hT.1
  have h127 := zN_lt hT
  have a := f_next hT (p := p) (by omega)
  refine ⟨a.1, fun r1 q => ?_⟩
  rw [a.2] at q
  subst q
  intro r5 q5
  rw [f_dig _ (h127 p)] at q5
  have fal : cQ d ds (false, p, []) 0 (nI p, nI d, ds) := ⟨rfl, rfl, rfl, trivial, fun _ _ => rfl⟩
  unfold gU
  by_cases h1 : dgN (zN n ch p) = true
  · rw [if_pos h1] at q5 ⊢
    subst q5
    have hpn : p < n := zN_p (ch := ch) (fun e => by rw [e] at h1; exact absurd h1 (by decide))
    have b := c_num hT (ds := ds) (d := d) hp (by omega) h1
    refine ⟨fun q => absurd q (by decide), fun _ => ⟨b.1, fun m1 m2 m3 q => ?_⟩⟩
    rw [b.2] at q
    cases q
    refine ⟨rfl, rfl, rfl, ⟨if_pos rfl, trivial⟩, fun i hi => ?_⟩
    simp only [upd]
    rw [if_neg (by omega)]
  rw [if_neg h1] at q5 ⊢
  subst q5
  refine ⟨fun _ r11 q11 => ?_, fun q => absurd rfl q⟩
  rw [f_nam _ (h127 p)] at q11
  by_cases h2 : nmN (zN n ch p) = true
  · rw [if_pos h2] at q11 ⊢
    subst q11
    have hpn : p < n := zN_p (ch := ch) (fun e => by rw [e] at h2; exact absurd h2 (by decide))
    have b := f_ruadd (d := d) (by omega) ds (nI (zN n ch p))
    refine ⟨fun q => absurd q (by decide), fun _ => ⟨b.1, fun m1 m2 q => ?_⟩⟩
    rw [b.2] at q
    cases q
    rw [nI_1]
    refine ⟨rfl, rfl, rfl, ⟨if_pos rfl, trivial⟩, fun i hi => ?_⟩
    simp only [upd]
    rw [if_neg (by omega)]
  rw [if_neg h2] at q11 ⊢
  subst q11
  refine ⟨fun _ => ?_, fun q => absurd rfl q⟩
  by_cases h3 : zN n ch p = 40
  · rw [if_pos h3, h3]
    have hpn : p < n := zN_p (ch := ch) (by omega)
    refine ⟨fun _ => pk_lt dep 5 (fun h5 => ?_) (fun h5 => ?_), fun q => absurd rfl q⟩
    · rw [if_pos h5, nI_1, nI_1]
      have hb := gP_b (n := n) (ch := ch) h127 f 0 0 (dep + 1) (p + 1) (by omega)
      refine (hL h5 (p + 1) d ds (by omega) (by omega)).use (P := fun r22 m25 m26 m27 => ((r22 = 0) → cQ d ds _ (0 : Int32) (m25, m26, m27)) ∧ ((¬ r22 = 0) → p_Te_pass (nI n) m25 tc (41 : Int32) ∧ (∀ (r31 : Int32) (u32 : Int32), s_Te_pass (nI n) m25 tc (41 : Int32) = (r31, u32) → ((r31 = 0) → cQ d ds _ (0 : Int32) (u32, m26, m27)) ∧ ((¬ r31 = 0) → cQ d ds _ (1 : Int32) (u32, m26, m27))))) (fun ds' e1 e2 => ?_)
      generalize gP (zN n ch) f 0 0 (dep + 1) (p + 1) = R at hb e1 ⊢
      obtain ⟨b1, b2, b3, b4⟩ := hb
      by_cases h6 : R.1 = true
      · rw [if_pos h6, if_pos h6]
        refine ⟨fun q => absurd q (by decide), fun _ => ?_⟩
        have c := f_pass hT (p := R.2.1) (c := 41) (by omega) (by omega)
        refine ⟨c.1, fun r31 u32 q => ?_⟩
        rw [show s_Te_pass (nI n) (nI R.2.1) tc 41 = _ from c.2] at q
        by_cases h7 : zN n ch R.2.1 = 41
        · rw [if_pos h7] at q ⊢
          cases q
          exact ⟨fun q => absurd q (by decide), fun _ => ⟨rfl, rfl, rfl, e1, e2⟩⟩
        · rw [if_neg h7] at q ⊢
          cases q
          exact ⟨fun _ => ⟨rfl, rfl, rfl, e1, e2⟩, fun q => absurd rfl q⟩
      · rw [if_neg h6, if_neg h6]
        exact ⟨fun _ => ⟨rfl, rfl, rfl, e1, e2⟩, fun q => absurd rfl q⟩
    · rw [if_neg (by omega)]
      exact fal
  rw [if_neg h3]
  refine ⟨fun q => absurd ((nI_eq (a := zN n ch p) (b := 40) (by have := h127 p; omega) (by omega)).mp q) h3, fun _ => ?_⟩
  by_cases h4 : zN n ch p = 45
  · rw [if_pos h4, h4]
    have hpn : p < n := zN_p (ch := ch) (by omega)
    refine ⟨fun q => absurd rfl q, fun _ => pk_lt dep 5 (fun h5 => ?_) (fun h5 => ?_)⟩
    · rw [if_pos h5, nI_1, nI_1]
      have hb := gP_b (n := n) (ch := ch) h127 f 1 0 (dep + 1) (p + 1) (by omega)
      refine (hU h5 (p + 1) d ds (by omega) (by omega)).use (P := fun r42 m45 m46 m47 => ((¬ r42 = 0) → p_Ru_add m46 m47 (126 : Int32) ∧ (∀ (m54 : Int32) (m55 : Nat → Int32), s_Ru_add m46 m47 (126 : Int32) = (m54, m55) → cQ d ds _ (1 : Int32) (m45, m54, m55))) ∧ ((r42 = 0) → cQ d ds _ (0 : Int32) (m45, m46, m47))) (fun ds' e1 e2 => ?_)
      generalize gP (zN n ch) f 1 0 (dep + 1) (p + 1) = R at hb e1 ⊢
      obtain ⟨b1, b2, b3, b4⟩ := hb
      by_cases h6 : R.1 = true
      · rw [if_pos h6, if_pos h6]
        refine ⟨fun _ => ?_, fun q => absurd q (by decide)⟩
        have c := f_ruadd (d := d + R.2.2.length) (by omega) ds' 126
        refine ⟨c.1, fun m54 m55 q => ?_⟩
        rw [c.2] at q
        cases q
        refine ⟨rfl, rfl, by simp only [List.length_append, List.length_cons, List.length_nil]; rfl, ?_, fun i hi => ?_⟩
        · rw [List.map_append]
          exact sE_snoc (x := 126) (by rw [List.length_map]) e1
        · simp only [upd]
          rw [if_neg (by omega)]
          exact e2 i hi
      · rw [if_neg h6, if_neg h6]
        exact ⟨fun q => absurd rfl q, fun _ => ⟨rfl, rfl, rfl, e1, e2⟩⟩
    · rw [if_neg (by omega)]
      exact fal
  rw [if_neg h4]
  exact ⟨fun _ => fal, fun q => absurd ((nI_eq (a := zN n ch p) (b := 45) (by have := h127 p; omega) (by omega)).mp q) h4⟩
end ZCR
