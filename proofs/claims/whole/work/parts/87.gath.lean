/-! gatherers -/
def zfs (k : Nat → Int32) (z : Nat) (x : Int32) (r : Nat) : Prop := r < z ∧ k r = x ∧ ∀ i, i < r → ¬ k i = x
theorem zfs_or (k : Nat → Int32) (x : Int32) : ∀ z, (∃ r, zfs k z x r) ∨ ∀ i, i < z → ¬ k i = x
  | 0 => Or.inr (fun i h => absurd h (by omega))
  | z + 1 => by
    rcases zfs_or k x z with ⟨r, h1, h2, h3⟩ | h
    · exact Or.inl ⟨r, by omega, h2, h3⟩
    · by_cases q : k z = x
      · exact Or.inl ⟨z, by omega, q, h⟩
      · refine Or.inr (fun i hi => ?_)
        by_cases e : i = z
        · rw [e]; exact q
        · exact h i (by omega)
theorem row_hit {k : Nat → Int32} {z r : Nat} {x : Int32} (hz : z ≤ 4) (h : zfs k z x r) : p_Ga_rowOf (nI z) k x ∧ s_Ga_rowOf (nI z) k x = nI r := by
  have h1 := h.1
  refine e_Ga_rowOf (nI z) k x (Q := fun a _ => a = nI r) ?_
  have go : ∀ d i n, i + d = r → WP_Ga_rowOf_L2 (n + d + 1) x (nI i) (nI z) k (fun a _ => a = nI r) := by
    intro d
    induction d with
    | zero =>
      intro i n e
      have e : i = r := e
      subst e
      refine pk_le z i (fun q => absurd q (by have := h.1; omega)) (fun _ => pk_le 4 i (fun q => absurd q (by have := h.1; omega)) (fun _ => ⟨pk_in i 4 (by have := h.1; omega), ?_⟩))
      rw [nI_clamp (by have := h.1; omega)]
      exact ⟨fun q => absurd h.2.1 q, fun _ => rfl⟩
    | succ d ih =>
      intro i n e
      refine pk_le z i (fun q => absurd q (by have := h.1; omega)) (fun _ => pk_le 4 i (fun q => absurd q (by have := h.1; omega)) (fun _ => ⟨pk_in i 4 (by have := h.1; omega), ?_⟩))
      rw [nI_clamp (by have := h.1; omega)]
      refine ⟨fun _ => ?_, fun q => absurd q (h.2.2 i (by omega))⟩
      rw [nI_1]
      exact ih (i + 1) n (by omega)
  have := go r 0 (599 - r) (by omega)
  rw [show 599 - r + r + 1 = 600 by have := h.1; omega] at this
  exact this
theorem row_miss {k : Nat → Int32} {z : Nat} {x : Int32} (hz : z ≤ 4) (h : ∀ i, i < z → ¬ k i = x) : p_Ga_rowOf (nI z) k x ∧ s_Ga_rowOf (nI z) k x = -1 := by
  refine e_Ga_rowOf (nI z) k x (Q := fun a _ => a = -1) ?_
  have go : ∀ d i n, i + d = z → WP_Ga_rowOf_L2 (n + d + 1) x (nI i) (nI z) k (fun a _ => a = -1) := by
    intro d
    induction d with
    | zero =>
      intro i n e
      have e : i = z := e
      subst e
      exact pk_le i i (fun _ => rfl) (fun q => absurd q (by omega))
    | succ d ih =>
      intro i n e
      refine pk_le z i (fun q => absurd q (by omega)) (fun _ => pk_le 4 i (fun q => absurd q (by omega)) (fun _ => ⟨pk_in i 4 (by omega), ?_⟩))
      rw [nI_clamp (by omega)]
      refine ⟨fun _ => ?_, fun q => absurd q (h i (by omega))⟩
      rw [nI_1]
      exact ih (i + 1) n (by omega)
  have := go z 0 (599 - z) (by omega)
  rw [show 599 - z + z + 1 = 600 by omega] at this
  exact this
theorem find_hit {ks k : Nat → Int32} {g z r : Nat} {x : Int32} (hg : g < 3) (hz : z ≤ 4) (hk : ks g = nI z) (h : zfs (fun i => k (4 * g + i)) z x r) : p_Mo_find ks k (nI g) x ∧ s_Mo_find ks k (nI g) x = nI (4 * g + r) := by
  refine e_Mo_find ks k (nI g) x (Q := fun a _ => a = nI (4 * g + r)) ?_
  have go : ∀ d i n, i + d = r → WP_Mo_find_L2 (n + d + 1) (nI g) x (nI i) ks k (fun a _ => a = nI (4 * g + r)) := by
    intro d
    induction d with
    | zero =>
      intro i n e
      have e : i = r := e
      subst e
      have h1 := h.1
      have e : nI g * 4 + nI i = nI (4 * g + i) := by
        have := pk_mul g 4
        rw [show nI g * 4 = nI (g * 4) from this, nI_add, Nat.mul_comm]
      refine ⟨pk_in g 3 hg, ?_⟩
      rw [nI_clamp (by omega), hk, e, nI_clamp (by omega)]
      exact pk_le z i (fun q => absurd q (by omega)) (fun _ => ⟨pk_in (4 * g + i) 12 (by omega), fun q => absurd h.2.1 q, fun _ => rfl⟩)
    | succ d ih =>
      intro i n e
      have h1 := h.1
      have e' : nI g * 4 + nI i = nI (4 * g + i) := by
        have := pk_mul g 4
        rw [show nI g * 4 = nI (g * 4) from this, nI_add, Nat.mul_comm]
      refine ⟨pk_in g 3 hg, ?_⟩
      rw [nI_clamp (by omega), hk, e', nI_clamp (by omega), nI_1]
      exact pk_le z i (fun q => absurd q (by omega)) (fun _ => ⟨pk_in (4 * g + i) 12 (by omega), fun _ => ih (i + 1) n (by omega), fun q => absurd q (h.2.2 i (by omega))⟩)
  have := go r 0 (599 - r) (by omega)
  rw [show 599 - r + r + 1 = 600 by have := h.1; omega] at this
  exact this
theorem find_miss {ks k : Nat → Int32} {g z : Nat} {x : Int32} (hg : g < 3) (hz : z ≤ 4) (hk : ks g = nI z) (h : ∀ i, i < z → ¬ k (4 * g + i) = x) : p_Mo_find ks k (nI g) x ∧ s_Mo_find ks k (nI g) x = -1 := by
  refine e_Mo_find ks k (nI g) x (Q := fun a _ => a = -1) ?_
  have go : ∀ d i n, i + d = z → WP_Mo_find_L2 (n + d + 1) (nI g) x (nI i) ks k (fun a _ => a = -1) := by
    intro d
    induction d with
    | zero =>
      intro i n e
      have e : i = z := e
      subst e
      refine ⟨pk_in g 3 hg, ?_⟩
      rw [nI_clamp (by omega), hk]
      exact pk_le i i (fun _ => rfl) (fun q => absurd q (by omega))
    | succ d ih =>
      intro i n e
      have e' : nI g * 4 + nI i = nI (4 * g + i) := by
        have := pk_mul g 4
        rw [show nI g * 4 = nI (g * 4) from this, nI_add, Nat.mul_comm]
      refine ⟨pk_in g 3 hg, ?_⟩
      rw [nI_clamp (by omega), hk, e', nI_clamp (by omega), nI_1]
      exact pk_le z i (fun q => absurd q (by omega)) (fun _ => ⟨pk_in (4 * g + i) 12 (by omega), fun _ => ih (i + 1) n (by omega), fun q => absurd q (h i (by omega))⟩)
  have := go z 0 (599 - z) (by omega)
  rw [show 599 - z + z + 1 = 600 by omega] at this
  exact this
def zpw (i : Nat) : UInt64 := UInt64.ofNat (4607182418800017408 + i * 4503599627370496)
theorem zpw_mul : ∀ i, i < 8 → FP.dmul (zpw i) 4611686018427387904 = zpw (i + 1) := by decide +kernel
theorem zpw_n : ∀ i, i < 9 → zg (zpw i) := by unfold zg; decide +kernel
theorem bin_eq {v : UInt64} (hv : vf_n64 v) : ∃ b : Nat, b < 8 ∧ (p_Ga_binOf v ∧ s_Ga_binOf v = nI b) ∧ (p_Mo_binOf v ∧ s_Mo_binOf v = nI b) := by
  have go : ∀ d i, i + d = 7 → ∃ b, b < 8 ∧ (∀ n, WP_Ga_binOf_L5 (n + d + 1) v (zpw i) (nI i) (fun a _ => a = nI b)) ∧ ∀ n, WP_Mo_binOf_L4 (n + d + 1) v (nI i) (zpw i) (fun a _ => a = nI b) := by
    intro d
    induction d with
    | zero =>
      intro i e
      have e : i = 7 := e
      subst e
      exact ⟨7, by omega, fun n => pk_le 7 7 (fun _ => rfl) (fun q => absurd q (by omega)), fun n => pk_le 7 7 (fun _ => rfl) (fun q => absurd q (by omega))⟩
    | succ d ih =>
      intro i e
      have hn := zg_n (zpw_n i (by omega))
      by_cases q : FP.dcmp v (zpw i) = some .lt
      · refine ⟨i, by omega, fun n => pk_le 7 i (fun q => absurd q (by omega)) (fun _ => ⟨fun h => absurd q ((zcv_nlt _).mp h), fun _ => rfl⟩), fun n => pk_le 7 i (fun q => absurd q (by omega)) (fun _ => ⟨fun _ => rfl, fun h => absurd ((zcv_llt _).mpr ((zg_lt_ge hv hn).mp q)) h⟩)⟩
      · obtain ⟨b, hb, h1, h2⟩ := ih (i + 1) (by omega)
        have m := zpw_mul i (by omega)
        have mn : vf_n64 (zpw (i + 1)) := zg_n (zpw_n (i + 1) (by omega))
        refine ⟨b, hb, fun n => pk_le 7 i (fun q => absurd q (by omega)) (fun _ => ⟨fun _ => ?_, fun h => absurd ((zcv_nlt _).mpr q) h⟩), fun n => pk_le 7 i (fun q => absurd q (by omega)) (fun _ => ⟨fun h => absurd ((zg_lt_ge hv hn).mpr ((zcv_llt _).mp h)) q, fun _ => ?_⟩)⟩
        · rw [m, nI_1]; exact ⟨mn, h1 n⟩
        · rw [m, nI_1]; exact ⟨mn, h2 n⟩
  obtain ⟨b, hb, h1, h2⟩ := go 7 0 rfl
  exact ⟨b, hb, e_Ga_binOf v (Q := fun a _ => a = nI b) (h1 592), e_Mo_binOf v (Q := fun a _ => a = nI b) (h2 592)⟩
theorem zg_zbd {v : UInt64} (h : zg v) : zbd v = some v := by
  have hn := zg_nan h
  have b1 : FP.Core.val64 4741671816366391296 ≠ .nan := (FP.Core.ne_nan _).mpr (by decide)
  have b2 : FP.Core.val64 13965043853221167104 ≠ .nan := (FP.Core.ne_nan _).mpr (by decide)
  have hl := v.toNat_lt
  unfold zg at h
  have k1 : FP.Core.dkey 4741671816366391296 = 4741671816366391296 := by decide
  have k2 : FP.Core.dkey 13965043853221167104 = -4741671816366391296 := by decide
  have kv : -4741671816366391296 ≤ FP.Core.dkey v ∧ FP.Core.dkey v ≤ 4741671816366391296 := by
    unfold FP.Core.dkey
    split <;> omega
  have c1 : FP.dcmp v 4741671816366391296 ≠ some .gt := by
    rw [zdk hn b1]
    intro q
    have := (FP.Core.compare_gt_iff _ _).mp (Option.some.inj q)
    omega
  have c2 : FP.dcmp v 13965043853221167104 ≠ some .lt := by
    rw [zdk hn b2]
    intro q
    have := (FP.Core.compare_lt_iff _ _).mp (Option.some.inj q)
    omega
  unfold zbd s_Rn_isOutOfBounds
  rw [if_neg (fun q => c1 ((zcv_gt _).mp q)), if_pos ((zcv_nlt _).mpr c2)]
  rfl
theorem zg_add0 {v : UInt64} (h : zg v) : zg (FP.dadd FP.dconst0 v) := by
  have e : FP.dadd FP.dconst0 v = FP.dadd v FP.dconst0 := FP.Core.dadd_comm _ _
  rw [e]
  by_cases q : v = FP.Core.dzeroNeg
  · rw [q]
    unfold zg
    decide +kernel
  · have : FP.dadd v FP.dconst0 = v := FP.Core.dadd_zero (zg_nan h) q
    rw [this]
    exact h
