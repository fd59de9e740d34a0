/-! what stands behind what was read -/
section ZNX
variable {n : Nat} {ch : Nat → Nat}
theorem gW_nx (h127 : ∀ q, zN n ch q < 127) {sub : Nat → Bool × Nat × List zTok} {lev : Nat} (hlev : ¬ lev = 9) (hs : ∀ q, q ≤ n → gB n q (sub q)) (hx : ∀ q, q ≤ n → (sub q).1 = true → ∀ v, lev + 1 ≤ v → v ≤ 2 → ¬ lvN (zN n ch (sub q).2.1) = v) :
    ∀ (m p : Nat) (T : List zTok), p ≤ n → (∀ v, lev + 1 ≤ v → v ≤ 2 → ¬ lvN (zN n ch p) = v) → (gW (zN n ch) sub lev m p T).1 = true → (∀ v, lev + 1 ≤ v → v ≤ 2 → ¬ lvN (zN n ch (gW (zN n ch) sub lev m p T).2.1) = v) ∧ (¬ lvN (zN n ch (gW (zN n ch) sub lev m p T).2.1) = lev ∨ p + 2 * m ≤ (gW (zN n ch) sub lev m p T).2.1)
  | 0, p, T, hp, h, _ => ⟨h, Or.inr (Nat.le_refl _)⟩
  | m + 1, p, T, hp, h, ht => by
    unfold gW at ht ⊢
    by_cases h1 : lvN (zN n ch p) = lev
    · rw [if_pos h1] at ht ⊢
      have hpn : p < n := zN_p (ch := ch) (fun e => by rw [e, lv_0] at h1; exact hlev h1.symm)
      obtain ⟨a, b, c, d⟩ := hs (p + 1) (by omega)
      by_cases h2 : (sub (p + 1)).1 = true
      · rw [if_pos h2] at ht ⊢
        obtain ⟨d1, d2⟩ := d h2
        obtain ⟨r1, r2⟩ := gW_nx h127 hlev hs hx m _ _ b (hx (p + 1) (by omega) h2) ht
        refine ⟨r1, r2.imp id (fun r => ?_)⟩
        omega
      · rw [if_neg h2] at ht
        exact absurd ht (by simp)
    · rw [if_neg h1] at ht ⊢
      exact ⟨h, Or.inl h1⟩
theorem gP_nx (hn : n ≤ 48) (h127 : ∀ q, zN n ch q < 127) : ∀ (f lev dep p : Nat), p ≤ n → (gP (zN n ch) f 0 lev dep p).1 = true → ∀ v, lev ≤ v → 1 ≤ v → v ≤ 2 → ¬ lvN (zN n ch (gP (zN n ch) f 0 lev dep p).2.1) = v
  | 0, lev, dep, p, hp, ht => absurd ht (by simp [gP])
  | f + 1, lev, dep, p, hp, ht => by
    intro v hv h1 h2
    have hB := gP_b (n := n) (ch := ch) h127 (f + 1) 0 lev dep p hp
    unfold gP at ht hB ⊢
    rw [if_pos rfl] at ht hB ⊢
    by_cases h3 : 2 < lev
    · omega
    · rw [if_neg h3] at ht hB ⊢
      by_cases h4 : (gP (zN n ch) f 0 (lev + 1) dep p).1 = true
      · rw [if_pos h4] at ht hB ⊢
        obtain ⟨a, b, c, d⟩ := gP_b (n := n) (ch := ch) h127 f 0 (lev + 1) dep p hp
        obtain ⟨d1, d2⟩ := d h4
        obtain ⟨r1, r2⟩ := gW_nx (sub := gP (zN n ch) f 0 (lev + 1) dep) h127 (by omega) (fun q hq => gP_b (n := n) (ch := ch) h127 f 0 (lev + 1) dep q hq) (fun q hq ht v hv h2 => gP_nx hn h127 f (lev + 1) dep q hq ht v hv (by omega) h2) _ _ _ b (fun v hv h2 => gP_nx hn h127 f (lev + 1) dep p hp h4 v hv (by omega) h2) ht
        by_cases e : lev = v
        · subst e
          rcases r2 with r2 | r2
          · exact r2
          · rw [if_neg (by omega : ¬ lev = 0)] at r2 hB
            have := hB.2.1
            omega
        · exact r1 v (by omega) h2
      · rw [if_neg h4] at ht
        exact absurd ht (by simp)
end ZNX
