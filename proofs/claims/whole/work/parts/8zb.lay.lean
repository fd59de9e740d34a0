/-! the reference lays a rule in its place -/
section ZCM
variable {k NA : Nat} {y2 by_ ns nc sz pl pos os th : Int32} {tx st cm op si co ac the on fa me kd0 tg0 f10 f20 : Nat → Int32} {Q : Int32 → (Int32 × Int32 × Int32 × Int32 × Int32 × Int32 × Int32 × Int32 × Int32 × (Nat → Int32) × (Nat → Int32) × (Nat → Int32) × (Nat → Int32) × (Nat → Int32) × (Nat → Int32) × (Nat → Int32) × (Nat → Int32) × (Nat → Int32) × (Nat → Int32) × (Nat → Int32) × (Nat → Int32) × (Nat → Int32) × (Nat → Int32) × (Nat → Int32)) → Prop}
theorem mc_acts (hk : k < 6) (hNA : NA ≤ 48) {at_ : Int32} {cd : Nat → Int32} : ∀ (d i F : Nat) (kd tg f1 f2 : Nat → Int32), i + d = NA → (∀ j, 288 ≤ j → kd j = kd0 j ∧ tg j = tg0 j ∧ f1 j = f10 j ∧ f2 j = f20 j) → (∀ t, t < i → kd (48 * k + t) = kd0 (288 + t) ∧ tg (48 * k + t) = tg0 (288 + t) ∧ f1 (48 * k + t) = f10 (288 + t) + by_ ∧ f2 (48 * k + t) = f20 (288 + t) + by_) → (∀ j, j < 288 → (j < 48 * k ∨ 48 * k + i ≤ j) → kd j = kd0 j ∧ tg j = tg0 j ∧ f1 j = f10 j ∧ f2 j = f20 j) →
    (∀ kd' tg' f1' f2' : Nat → Int32, (∀ t, t < NA → kd' (48 * k + t) = kd0 (288 + t) ∧ tg' (48 * k + t) = tg0 (288 + t) ∧ f1' (48 * k + t) = f10 (288 + t) + by_ ∧ f2' (48 * k + t) = f20 (288 + t) + by_) → (∀ j, j < 288 → (j < 48 * k ∨ 48 * k + NA ≤ j) → kd' j = kd0 j ∧ tg' j = tg0 j ∧ f1' j = f10 j ∧ f2' j = f20 j) → Q (nI NA) (ns, nc, nI NA, sz, pl, pos, at_, os, th, st, cm, cd, op, kd', tg', f1', f2', si, co, ac, upd the k 1, upd on k 0, upd fa k 0, upd me k 0)) → WP_Mo_compile_L150 (F + d + 1) (nI k) y2 by_ (nI i) ns nc (nI NA) sz pl pos at_ os th tx st cm cd op kd tg f1 f2 si co ac the on fa me Q
  | 0, i, F, kd, tg, f1, f2, e, h1, h2, h3, K => by
    have e : i = NA := e
    subst e
    have i6 : vp_in (nI k) 6 := pk_in k 6 hk
    have clk : (nI k).toNatClampNeg = k := nI_clamp (by omega)
    refine pk_le i i (fun _ => ⟨i6, i6, i6, i6, ?_⟩) (fun q => absurd q (by omega))
    rw [clk]
    exact K kd tg f1 f2 h2 h3
  | d + 1, i, F, kd, tg, f1, f2, e, h1, h2, h3, K => by
    have e1 : (288 : Int32) + nI i = nI (288 + i) := nI_add 288 i
    have e2 : nI k * 48 + nI i = nI (48 * k + i) := by
      have := pk_mul k 48
      rw [show nI k * 48 = nI (k * 48) from this, nI_add, Nat.mul_comm]
    have w1 : vp_in (nI (288 + i)) 340 := pk_in (288 + i) 340 (by omega)
    have w2 : vp_in (nI (48 * k + i)) 340 := pk_in (48 * k + i) 340 (by omega)
    have c1 : (nI (288 + i)).toNatClampNeg = 288 + i := nI_clamp (by omega)
    have c2 : (nI (48 * k + i)).toNatClampNeg = 48 * k + i := nI_clamp (by omega)
    show WP_Mo_compile_L150 (F + d + 1 + 1) (nI k) y2 by_ (nI i) ns nc (nI NA) sz pl pos at_ os th tx st cm cd op kd tg f1 f2 si co ac the on fa me Q
    refine pk_le NA i (fun q => absurd q (by omega)) (fun _ => ?_)
    rw [e1, e2, c1, c2, nI_1]
    refine ⟨w1, w2, w1, w2, w1, w2, w1, w2, ?_⟩
    obtain ⟨a1, a2, a3, a4⟩ := h1 (288 + i) (by omega)
    refine mc_acts hk hNA d (i + 1) F _ _ _ _ (by omega) (fun j hj => ?_) (fun t ht => ?_) (fun j hj hj2 => ?_) K
    · rw [upd_ne (by omega), upd_ne (by omega), upd_ne (by omega), upd_ne (by omega)]
      exact h1 j hj
    · by_cases q : t = i
      · subst q
        refine ⟨?_, ?_, ?_, ?_⟩ <;> simp only [upd, if_true, a1, a2, a3, a4]
      · rw [upd_ne (by omega), upd_ne (by omega), upd_ne (by omega), upd_ne (by omega)]
        exact h2 t (by omega)
    · rw [upd_ne (by omega), upd_ne (by omega), upd_ne (by omega), upd_ne (by omega)]
      exact h3 j hj (by omega)
theorem by_eq : ∀ k, k < 6 → (nI k - 6) * 200 = -(nI (200 * (6 - k))) := by decide +kernel
theorem by_add {k i : Nat} (hb : by_ = -(nI (200 * (6 - k)))) (hi : 200 * (6 - k) ≤ i) : nI i + by_ = nI (i - 200 * (6 - k)) := by
  rw [hb, ← Int32.sub_eq_add_neg]
  exact pk_sub hi
theorem mc_code {a2 : Nat} {kd tg f1 f2 cd0 : Nat → Int32} (hk : k < 6) (ha2 : a2 ≤ 1390) (hb : by_ = -(nI (200 * (6 - k)))) : ∀ (d i F : Nat) (cd : Nat → Int32), i + d = a2 → 1200 ≤ i → (∀ j, 1200 ≤ j → cd j = cd0 j) → (∀ j, 200 * k ≤ j → j + 200 * (6 - k) < i → cd j = cd0 (j + 200 * (6 - k))) → (∀ j, j < 1200 → (j < 200 * k ∨ i ≤ j + 200 * (6 - k)) → cd j = cd0 j) →
    (∀ cd' : Nat → Int32, (∀ j, 200 * k ≤ j → j + 200 * (6 - k) < a2 → cd' j = cd0 (j + 200 * (6 - k))) → (∀ j, j < 1200 → (j < 200 * k ∨ a2 ≤ j + 200 * (6 - k)) → cd' j = cd0 j) → ((0 ≤ nc) → WP_Mo_compile_L150 600 (nI k) y2 by_ (0 : Int32) ns nc (nI NA) sz pl pos (nI a2) os th tx st cm cd' op kd tg f1 f2 (upd si k ns) (upd co k (nc + by_)) (upd ac k (nI NA)) the on fa me Q) ∧ ((¬ 0 ≤ nc) → WP_Mo_compile_L150 600 (nI k) y2 by_ (0 : Int32) ns nc (nI NA) sz pl pos (nI a2) os th tx st cm cd' op kd tg f1 f2 (upd si k ns) (upd co k (-1)) (upd ac k (nI NA)) the on fa me Q)) → WP_Mo_compile_L73 (F + d + 1) (nI k) y2 by_ (nI i) ns nc (nI NA) sz pl pos (nI a2) os th tx st cm cd op kd tg f1 f2 si co ac the on fa me Q
  | 0, i, F, cd, e, h0, h1, h2, h3, K => by
    have e : i = a2 := e
    subst e
    have i6 : vp_in (nI k) 6 := pk_in k 6 hk
    have clk : (nI k).toNatClampNeg = k := nI_clamp (by omega)
    obtain ⟨w1, w2⟩ := K cd h2 h3
    refine pk_le i i (fun _ => ⟨i6, fun q => ⟨i6, i6, ?_⟩, fun q => ⟨i6, i6, ?_⟩⟩) (fun q => absurd q (by omega))
    · rw [clk]; exact w1 q
    · rw [clk]; exact w2 q
  | d + 1, i, F, cd, e, h0, h1, h2, h3, K => by
    have e1 := by_add (i := i) hb (by omega)
    show WP_Mo_compile_L73 (F + d + 1 + 1) (nI k) y2 by_ (nI i) ns nc (nI NA) sz pl pos (nI a2) os th tx st cm cd op kd tg f1 f2 si co ac the on fa me Q
    refine pk_le a2 i (fun q => absurd q (by omega)) (fun _ => ?_)
    rw [e1, nI_clamp (by omega), nI_clamp (by omega), nI_1]
    refine ⟨pk_in i 1400 (by omega), pk_in (i - 200 * (6 - k)) 1400 (by omega), ?_⟩
    refine mc_code hk ha2 hb d (i + 1) F _ (by omega) (by omega) (fun j hj => ?_) (fun j hj hj2 => ?_) (fun j hj hj2 => ?_) K
    · rw [upd_ne (by omega)]
      exact h1 j hj
    · by_cases q : j = i - 200 * (6 - k)
      · subst q
        rw [show i - 200 * (6 - k) + 200 * (6 - k) = i by omega]
        simp only [upd, if_true]
        exact h1 i h0
      · rw [upd_ne q]
        exact h2 j hj (by omega)
    · rw [upd_ne (by omega)]
      exact h3 j hj (by omega)
end ZCM
theorem mE_shift {c0 c1 : Nat → Int32} {g : Nat} : ∀ (T : List zTok) (a : Nat), g ≤ a → (∀ j, a ≤ j → j ≤ a + 2 * T.length → c1 (j - g) = c0 j) → mE c0 a T → mE c1 (a - g) T
  | [], a, hg, h, hs => (h a (Nat.le_refl _) (by simp)).trans hs
  | t :: T, a, hg, h, hs => by
    refine ⟨(h a (by omega) (by simp only [List.length_cons]; omega)).trans hs.1, ?_, ?_⟩
    · rw [show a - g + 1 = a + 1 - g by omega]
      exact (h (a + 1) (by omega) (by simp only [List.length_cons]; omega)).trans hs.2.1
    · rw [show a - g + 2 = a + 2 - g by omega]
      exact mE_shift T (a + 2) (by omega) (fun j h1 h2 => h j (by omega) (by simp only [List.length_cons]; omega)) hs.2.2
theorem mVb_shift {c0 c1 : Nat → Int32} {k a2 : Nat} {x by_ : Int32} {T : List zTok} (hk : k < 6) (ha2 : a2 ≤ 1390) (hb : by_ = -(nI (200 * (6 - k)))) (hc : ∀ j, 200 * k ≤ j → j + 200 * (6 - k) < a2 → c1 j = c0 (j + 200 * (6 - k))) (h : mVb 1200 a2 c0 x T) : mVb (200 * k) (200 * k + 200) c1 (x + by_) T := by
  obtain ⟨a, rfl, h2, h3, h4, h5⟩ := h
  refine ⟨a - 200 * (6 - k), by_add hb (by omega), by omega, by omega, mE_shift T a (by omega) (fun j h1 h2 => ?_) h4, h5⟩
  rw [hc (j - 200 * (6 - k)) (by omega) (by omega), show j - 200 * (6 - k) + 200 * (6 - k) = j by omega]
theorem zxLb_shift {c0 c1 kd0 tg0 f10 f20 kd1 tg1 f11 f21 : Nat → Int32} {k a2 : Nat} {by_ : Int32} (hk : k < 6) (ha2 : a2 ≤ 1390) (hb : by_ = -(nI (200 * (6 - k)))) (hc : ∀ j, 200 * k ≤ j → j + 200 * (6 - k) < a2 → c1 j = c0 (j + 200 * (6 - k))) : ∀ (A : List zAct) (t : Nat), (∀ u, t ≤ u → u < t + A.length → kd1 (48 * k + u) = kd0 (288 + u) ∧ tg1 (48 * k + u) = tg0 (288 + u) ∧ f11 (48 * k + u) = f10 (288 + u) + by_ ∧ f21 (48 * k + u) = f20 (288 + u) + by_) → zxLb 1200 a2 kd0 tg0 f10 f20 c0 (288 + t) A → zxLb (200 * k) (200 * k + 200) kd1 tg1 f11 f21 c1 (48 * k + t) A
  | [], _, _, _ => trivial
  | a :: A, t, h, hs => by
    obtain ⟨e1, e2, e3, e4⟩ := h t (Nat.le_refl _) (by simp only [List.length_cons]; omega)
    refine ⟨⟨e1.trans hs.1.1, by rw [e3]; exact mVb_shift hk ha2 hb hc hs.1.2.1, ?_⟩, zxLb_shift hk ha2 hb hc A (t + 1) (fun u h1 h2 => h u (by omega) (by simp only [List.length_cons]; omega)) hs.2⟩
    rcases hs.1.2.2 with ⟨w1, w2, w3⟩ | w | w | ⟨w1, w2, w3, w4⟩
    · exact Or.inl ⟨w1, w2, e2.trans w3⟩
    · exact Or.inr (Or.inl w)
    · exact Or.inr (Or.inr (Or.inl w))
    · exact Or.inr (Or.inr (Or.inr ⟨w1, w2, e2.trans w3, by rw [e4]; exact mVb_shift hk ha2 hb hc w4⟩))
theorem mVb_in {lo hi : Nat} {c c' : Nat → Int32} {x : Int32} {T : List zTok} (h : mVb lo hi c x T) (hc : ∀ j, lo ≤ j → j < hi → c' j = c j) : mVb lo hi c' x T := by
  obtain ⟨a, h1, h2, h3, h4, h5⟩ := h
  exact ⟨a, h1, h2, h3, mE_congr T a (fun i h6 h7 => hc i (by omega) (by omega)) h4, h5⟩
theorem zxLb_in {lo hi : Nat} {kd tg f1 f2 c kd' tg' f1' f2' c' : Nat → Int32} (hc : ∀ j, lo ≤ j → j < hi → c' j = c j) : ∀ (A : List zAct) (i : Nat), (∀ j, i ≤ j → j < i + A.length → kd' j = kd j ∧ tg' j = tg j ∧ f1' j = f1 j ∧ f2' j = f2 j) → zxLb lo hi kd tg f1 f2 c i A → zxLb lo hi kd' tg' f1' f2' c' i A
  | [], _, _, _ => trivial
  | a :: A, i, h, hs => by
    obtain ⟨e1, e2, e3, e4⟩ := h i (Nat.le_refl _) (by simp only [List.length_cons]; omega)
    refine ⟨⟨e1.trans hs.1.1, by rw [e3]; exact mVb_in hs.1.2.1 hc, ?_⟩, zxLb_in hc A (i + 1) (fun j h1 h2 => h j (by omega) (by simp only [List.length_cons]; omega)) hs.2⟩
    rcases hs.1.2.2 with ⟨w1, w2, w3⟩ | w | w | ⟨w1, w2, w3, w4⟩
    · exact Or.inl ⟨w1, w2, e2.trans w3⟩
    · exact Or.inr (Or.inl w)
    · exact Or.inr (Or.inr (Or.inl w))
    · exact Or.inr (Or.inr (Or.inr ⟨w1, w2, e2.trans w3, by rw [e4]; exact mVb_in w4 hc⟩))
theorem zxNb_in {lo hi : Nat} {c c' : Nat → Int32} {x : Int32} (hc : ∀ j, lo ≤ j → j < hi → c' j = c j) : ∀ (C : Option (List zTok)), zxNb lo hi c x C → zxNb lo hi c' x C
  | none, h => h
  | some _, h => mVb_in h hc
/-- a rule's program stands where nothing of its own place has changed -/
theorem rPk_in {len site exit cond : Int32} {steps : Nat → Int32} {ms mc ma : Int32} {kd tg f1 f2 c kd' tg' f1' f2' c' : Nat → Int32} {k : Nat} (h : rPk len site exit cond steps ms mc ma kd tg f1 f2 c k) (hc : ∀ j, 200 * k ≤ j → j < 200 * k + 200 → c' j = c j) (ht : ∀ j, 48 * k ≤ j → j < 48 * k + 48 → kd' j = kd j ∧ tg' j = tg j ∧ f1' j = f1 j ∧ f2' j = f2 j) : rPk len site exit cond steps ms mc ma kd' tg' f1' f2' c' k := by
  obtain ⟨s, C, A, a1, a2, a3, a4, a5, a6, a7, a8, a9, a10, a11⟩ := h
  have hl := acts_len A
  rw [List.length_append] at a6
  exact ⟨s, C, A, a1, a2, a3, a4, a5, by rw [List.length_append]; exact a6, a7, a8, zxNb_in hc C a9, a10, zxLb_in hc A _ (fun j h1 h2 => ht j h1 (by omega)) a11⟩
