/-! the reference reckons tokens -/
theorem f_in {x a b : Nat} (hx : x < 2 ^ 31) (ha : a < 2 ^ 31) (hb : b < 2 ^ 31) : s_Mo_in (nI x) (nI a) (nI b) = if a ≤ x ∧ x ≤ b then 1 else 0 := by
  unfold s_Mo_in
  by_cases h1 : x < a
  · rw [if_pos ((nI_ltI hx ha).mpr h1), if_neg (by omega)]
  · rw [if_neg (fun q => h1 ((nI_ltI hx ha).mp q))]
    by_cases h2 : b < x
    · rw [if_pos ((nI_ltI hb hx).mpr h2), if_neg (by omega)]
    · rw [if_neg (fun q => h2 ((nI_ltI hb hx).mp q)), if_pos (by omega)]
def zEm (ld : Nat → UInt64) (tm : Int32) (th : Nat) (hd gl ow : Nat → UInt64) : Prop :=
  (∀ j, j < 3 → ld (97 + j) = hd j) ∧ ld 116 = FP.i2d tm ∧ ld 107 = FP.i2d (nI th) ∧ (∀ j, j < 3 → ld (117 + j) = gl j) ∧ ∀ j, j < 3 → ld (120 + j) = ow (3 * th + j)
theorem f_load {ld : Nat → UInt64} {tm : Int32} {th : Nat} (ht : th < 4) {hd gl ow : Nat → UInt64} (hE : zEm ld tm th hd gl ow) {c : Nat} (hc : zNm c) : p_Mo_load tm (nI th) hd gl ow (nI c) ∧ s_Mo_load tm (nI th) hd gl ow (nI c) = ld c := by
  refine e_Mo_load tm (nI th) hd gl ow (nI c) (Q := fun r _ => r = ld c) ?_
  obtain ⟨E1, E4, E5, E6, E7⟩ := hE
  have hcb : c < 2 ^ 31 := by rcases hc with h | h | h | h <;> omega
  intro r1 q
  have e := f_in (x := c) (a := 97) (b := 99) hcb (by omega) (by omega)
  rw [show nI 97 = (97 : Int32) from rfl, show nI 99 = (99 : Int32) from rfl] at e
  rw [e] at q
  subst q
  refine ⟨fun q => ?_, fun q => ?_⟩
  · have h1 : ¬ (97 ≤ c ∧ c ≤ 99) := fun h => by rw [if_pos h] at q; exact absurd q (by decide)
    refine ⟨fun q2 => ⟨fun q3 => ?_, fun q3 => ?_⟩, fun q2 => ?_⟩
    · have h2 : ¬ c = 116 := fun h => q2 (by rw [h]; rfl)
      have h3 : ¬ c = 107 := fun h => q3 (by rw [h]; rfl)
      have h4 : 117 ≤ c ∧ c ≤ 122 := by rcases hc with h | h | h | h <;> omega
      refine pk_le 120 c (fun h5 => ?_) (fun h5 => ?_)
      · have e : nI th * 3 + nI c - 120 = nI (3 * th + (c - 120)) := by
          have a1 : nI th * 3 = nI (th * 3) := pk_mul th 3
          have a2 := pk_sub (a := th * 3 + c) (b := 120) (by omega)
          rw [show th * 3 + c - 120 = 3 * th + (c - 120) by omega] at a2
          rw [a1, nI_add]
          exact a2
        rw [e]
        refine ⟨pk_in (3 * th + (c - 120)) 12 (by omega), ?_⟩
        rw [nI_clamp (by omega), ← E7 (c - 120) (by omega)]
        congr 1; omega
      · have e : nI c - 117 = nI (c - 117) := pk_sub (a := c) (b := 117) (by omega)
        rw [e]
        refine ⟨pk_in (c - 117) 3 (by omega), ?_⟩
        rw [nI_clamp (by omega), ← E6 (c - 117) (by omega)]
        congr 1; omega
    · have : c = 107 := (nI_eq hcb (by omega)).mp q3
      rw [this, E5]
    · have : c = 116 := (nI_eq hcb (by omega)).mp q2
      rw [this, E4]
  · have h1 : 97 ≤ c ∧ c ≤ 99 := Decidable.byContradiction fun h => q (by rw [if_neg h])
    have e : nI c - 97 = nI (c - 97) := pk_sub (a := c) (b := 97) (by omega)
    rw [e]
    refine ⟨pk_in (c - 97) 3 (by omega), ?_⟩
    rw [nI_clamp (by omega), ← E1 (c - 97) (by omega)]
    congr 1; omega
theorem z_oob (v : UInt64) {A : Prop} {B : Prop} (h1 : zbd v = none → A) (h0 : zbd v = some v → B) :
    ((0 < (Op.cmpValue (FP.dcmp v (4741671816366391296 : UInt64)) .l)) → A) ∧ ((¬ 0 < (Op.cmpValue (FP.dcmp v (4741671816366391296 : UInt64)) .l)) → ((0 ≤ (Op.cmpValue (FP.dcmp v (13965043853221167104 : UInt64)) .g)) → B) ∧ ((¬ 0 ≤ (Op.cmpValue (FP.dcmp v (13965043853221167104 : UInt64)) .g)) → A)) := by
  unfold zbd s_Rn_isOutOfBounds at h1 h0
  refine ⟨fun a => h1 (by rw [if_pos a]; rfl), fun a => ⟨fun b => h0 (by rw [if_neg a, if_pos b]; rfl), fun b => h1 (by rw [if_neg a, if_neg b]; rfl)⟩⟩
theorem f_reckon {c : Nat} (hc : zOp c) {x y : UInt64} (hx : zg x) (hy : zg y) : p_Mo_reckon 0 (nI c) x y ∧ ((zrk c x y = some (s_Mo_reckon 0 (nI c) x y).1 ∧ (s_Mo_reckon 0 (nI c) x y).2 = 0) ∨ (zrk c x y = none ∧ (s_Mo_reckon 0 (nI c) x y).2 = 1)) := by
  refine e_Mo_reckon 0 (nI c) x y (Q := fun a b => (zrk c x y = some a ∧ b = 0) ∨ (zrk c x y = none ∧ b = 1)) ?_
  unfold WP_Mo_reckon
  rcases hc with rfl | rfl | rfl | rfl | rfl | rfl | rfl
  · refine ⟨fun q => absurd rfl q, fun _ => ⟨fun h0 => Or.inl ⟨by simp [zrk, h0], rfl⟩, fun h0 => Or.inl ⟨by simp [zrk, h0], rfl⟩⟩⟩
  · refine ⟨fun _ => ⟨fun q => absurd rfl q, fun _ => ⟨fun h0 => Or.inl ⟨by simp [zrk, h0], rfl⟩, fun h0 => Or.inl ⟨by simp [zrk, h0], rfl⟩⟩⟩, fun q => absurd q (by decide)⟩
  · refine ⟨fun _ => ⟨fun _ => ⟨fun q => absurd rfl q, fun _ => ⟨fun h0 => Or.inl ⟨by simp [zrk, h0], rfl⟩, fun h0 => Or.inl ⟨by simp [zrk, h0], rfl⟩⟩⟩, fun q => absurd q (by decide)⟩, fun q => absurd q (by decide)⟩
  · refine ⟨fun _ => ⟨fun _ => ⟨fun _ => ⟨fun _ => ⟨fun q => absurd rfl q, fun _ => ⟨z64_add hx hy, ?_⟩⟩, fun q => absurd q (by decide)⟩, fun q => absurd q (by decide)⟩, fun q => absurd q (by decide)⟩, fun q => absurd q (by decide)⟩
    exact z_oob _ (fun h => Or.inr ⟨by simp [zrk, h], rfl⟩) (fun h => Or.inl ⟨by simp [zrk, h], rfl⟩)
  · refine ⟨fun _ => ⟨fun _ => ⟨fun _ => ⟨fun _ => ⟨fun _ => ⟨fun q => absurd rfl q, fun _ => ⟨z64_sub hx hy, ?_⟩⟩, fun q => absurd q (by decide)⟩, fun q => absurd q (by decide)⟩, fun q => absurd q (by decide)⟩, fun q => absurd q (by decide)⟩, fun q => absurd q (by decide)⟩
    exact z_oob _ (fun h => Or.inr ⟨by simp [zrk, h], rfl⟩) (fun h => Or.inl ⟨by simp [zrk, h], rfl⟩)
  · refine ⟨fun _ => ⟨fun _ => ⟨fun _ => ⟨fun _ => ⟨fun _ => ⟨fun _ => ⟨fun q => absurd rfl q, fun _ => ⟨z64_mul (zg_fin hx) (zg_fin hy), ?_⟩⟩, fun q => absurd q (by decide)⟩, fun q => absurd q (by decide)⟩, fun q => absurd q (by decide)⟩, fun q => absurd q (by decide)⟩, fun q => absurd q (by decide)⟩, fun q => absurd q (by decide)⟩
    exact z_oob _ (fun h => Or.inr ⟨by simp [zrk, h], rfl⟩) (fun h => Or.inl ⟨by simp [zrk, h], rfl⟩)
  · refine ⟨fun _ => ⟨fun _ => ⟨fun _ => ⟨fun q => absurd rfl q, fun _ => ⟨fun h0 => ⟨fun _ => ⟨fun _ => ⟨fun _ => ⟨z64_div hx (zg_fin hy) h0, ?_⟩, fun q => absurd q (by decide)⟩, fun q => absurd q (by decide)⟩, fun q => absurd q (by decide)⟩, fun h0 => Or.inr ⟨by simp [zrk, h0], rfl⟩⟩⟩, fun q => absurd q (by decide)⟩, fun q => absurd q (by decide)⟩, fun q => absurd q (by decide)⟩
    exact z_oob _ (fun h => Or.inr ⟨by simp [zrk, h, h0], rfl⟩) (fun h => Or.inl ⟨by simp [zrk, h, h0], rfl⟩)
theorem vl_tok {ld : Nat → UInt64} {tm y1 : Int32} {th e f : Nat} (ht : th < 4) {hd gl ow : Nat → UInt64} (hE : zEm ld tm th hd gl ow) (hL : zLg ld) {code : Nat → Int32} {Q : UInt64 → (Int32 × (Nat → UInt64)) → Prop} :
    ∀ (T : List zTok) (p : Nat) (S : List UInt64) (pile : Nat → UInt64), mE code p T → p + 2 * T.length + 2 ≤ 1400 → S.length + T.length ≤ 60 → wT S.length T e → (∀ x ∈ S, zg x) → zst pile S →
    (ev ld T S = none → ∀ pile', Q (pile' 0) (1, pile')) → (∀ S' pile', ev ld T S = some S' → zst pile' S' → (∀ x ∈ S', zg x) → S'.length = e → Q (pile' 0) (0, pile')) →
    WP_Mo_value_L4 (f + 2 + T.length) y1 (nI S.length) (nI p) tm (nI th) 0 code pile hd gl ow Q
  | [], p, S, pile, hm, hp, hb, hw, hg, hS, _, K => by
    refine ⟨pk_in p 1400 (by simp at hp; omega), ?_⟩
    rw [nI_clamp (by simp at hp; omega)]
    exact ⟨fun _ => K S pile rfl hS hg hw, fun q => absurd hm q⟩
  | (t1, t2) :: T, p, S, pile, hm, hp, hb, hw, hg, hS, K0, K => by
    have hp' : p + 2 * (T.length + 1) + 2 ≤ 1400 := hp
    have hb' : S.length + (T.length + 1) ≤ 60 := hb
    have cons : ∀ {y : UInt64} {S' : List UInt64}, zg y → (∀ x ∈ S', zg x) → ∀ x ∈ y :: S', zg x := by
      intro y S' hy hS' x hx
      rcases List.mem_cons.mp hx with rfl | hx
      · exact hy
      · exact hS' x hx
    obtain ⟨m1, m2, m3⟩ := hm
    simp only at m1 m2
    have e1 : nI p + 1 = nI (p + 1) := nI_1 p
    have e2 : nI p + 2 = nI (p + 2) := nI_add p 2
    have goOn : ∀ (S' : List UInt64) (pile' : Nat → UInt64), evs ld (t1, t2) S = some S' → S'.length ≤ S.length + 1 → wT S'.length T e → (∀ x ∈ S', zg x) → zst pile' S' →
        WP_Mo_value_L4 (f + 2 + T.length) y1 (nI S'.length) (nI (p + 2)) tm (nI th) 0 code pile' hd gl ow Q := by
      intro S' pile' c1 c2 c3 c4 c5
      exact vl_tok ht hE hL T (p + 2) S' pile' m3 (by omega) (by omega) c3 c4 c5 (fun q => K0 (by simp only [ev, c1]; exact q)) (fun S'' pile'' d1 => K S'' pile'' (by simp only [ev, c1]; exact d1))
    have stop : ∀ (n : Int32) (pile' : Nat → UInt64), evs ld (t1, t2) S = none → WP_Mo_value_L4 (f + 1 + T.length + 1) y1 n (nI (p + 2)) tm (nI th) 1 code pile' hd gl ow Q := by
      intro n pile' c1
      have := K0 (by simp only [ev, c1]; rfl)
      refine ⟨pk_in (p + 2) 1400 (by omega), fun _ => this pile', fun _ => ⟨fun _ => this pile', fun q => absurd q (by decide)⟩⟩
    show WP_Mo_value_L4 (f + 2 + T.length + 1) y1 (nI S.length) (nI p) tm (nI th) 0 code pile hd gl ow Q
    refine ⟨pk_in p 1400 (by omega), ?_⟩
    rw [nI_clamp (by omega), m1]
    simp only [e1, e2, nI_clamp (show p + 1 < 2 ^ 31 by omega), m2]
    rcases hw with ⟨h1, h2, hw⟩ | ⟨h1, h2, hw⟩ | ⟨h1, h2, h3, hw⟩ | ⟨h1, h2, h3, hw⟩
    · simp only at h1 h2
      subst h1
      refine ⟨fun q => absurd q (by decide), fun _ => ⟨fun q => (q (by first | rfl | trivial)).elim, fun _ => ⟨pk_in p 1400 (by omega), pk_in (p + 1) 1400 (by omega), ⟨fun q => absurd q (by decide), fun _ => ⟨fun q => (q (by first | rfl | trivial)).elim, fun _ => ⟨pk_in S.length 60 (by omega), ?_⟩⟩⟩⟩⟩⟩
      rw [nI_1, nI_clamp (by omega)]
      exact goOn (FP.i2d (nI t2) :: S) _ rfl (Nat.le_refl _) hw (cons (zg_i2dN (by omega)) hg) (zst_push hS)
    · simp only at h1 h2
      subst h1
      have fl := f_load ht hE h2
      refine ⟨fun q => absurd q (by decide), fun _ => ⟨fun q => (q (by first | rfl | trivial)).elim, fun _ => ⟨pk_in p 1400 (by omega), pk_in (p + 1) 1400 (by omega), ⟨fun q => absurd q (by decide), fun _ => ⟨fun _ => ⟨fl.1, fun r q => ⟨pk_in S.length 60 (by omega), ?_⟩⟩, fun q => absurd q (by decide)⟩⟩⟩⟩⟩
      rw [fl.2] at q
      subst q
      rw [nI_1, nI_clamp (by omega)]
      exact goOn (ld t2 :: S) _ rfl (Nat.le_refl _) hw (cons (hL t2 h2) hg) (zst_push hS)
    · simp only at h1 h2
      subst h1
      match S, h3, hb', hg, hS, hw, goOn, stop with
      | y :: x :: S, h3, hb', hg, hS, hw, goOn, stop =>
        have hy := hg y (by simp)
        have hx := hg x (by simp)
        have hg' : ∀ z ∈ S, zg z := fun z hz => hg z (by simp [hz])
        have e3 : nI (y :: x :: S).length - 2 = nI S.length := pk_sub (a := S.length + 2) (b := 2) (by omega)
        have e4 : nI (y :: x :: S).length - 1 = nI (S.length + 1) := pk_sub (a := S.length + 2) (b := 1) (by omega)
        have e5 : nI (y :: x :: S).length + (-1) = nI (S.length + 1) := pk_m1 (S.length + 1)
        have hSl : S.length < 58 := by simp only [List.length_cons] at hb'; omega
        simp only [e3, e4, e5, nI_clamp (show S.length < 2 ^ 31 by omega), nI_clamp (show S.length + 1 < 2 ^ 31 by omega)]
        have hy' : pile (S.length + 1) = y := hS.1
        have hx' : pile S.length = x := hS.2.1
        rw [hy', hx']
        obtain ⟨a, b⟩ := f_reckon h2 hx hy
        refine ⟨fun q => absurd q (by decide), fun _ => ⟨fun q => (q (by first | rfl | trivial)).elim, fun _ => ⟨pk_in p 1400 (by omega), pk_in (p + 1) 1400 (by omega), ⟨fun _ => ⟨fun _ => ⟨pk_in S.length 60 (by omega), pk_in (S.length + 1) 60 (by omega), a, fun r u q => ⟨pk_in S.length 60 (by omega), ?_⟩⟩, fun q => absurd q (by decide)⟩, fun q => absurd (by decide) q⟩⟩⟩⟩
        rw [q] at b
        simp only at b
        rcases b with ⟨b1, b2⟩ | ⟨b1, b2⟩
        · subst b2
          exact goOn (r :: S) _ (by show (zrk t2 x y).map (· :: S) = _; rw [b1]; rfl) (by simp only [List.length_cons]; omega) hw (cons (zrk_g hx hy b1) hg') (zst_push hS.2.2)
        · subst b2
          have := stop (nI (S.length + 1)) (vf_upd pile S.length r) (by show (zrk t2 x y).map (· :: S) = _; rw [b1]; rfl)
          rw [show f + 1 + T.length + 1 = f + 2 + T.length by omega] at this
          exact this
    · simp only at h1 h2
      subst h1
      match S, h3, hb', hg, hS, hw, goOn with
      | y :: S, h3, hb', hg, hS, hw, goOn =>
        have hy := hg y (by simp)
        have hg' : ∀ z ∈ S, zg z := fun z hz => hg z (by simp [hz])
        have e4 : nI (y :: S).length - 1 = nI S.length := pk_sub (a := S.length + 1) (b := 1) (by omega)
        have hSl : S.length < 59 := by simp only [List.length_cons] at hb'; omega
        simp only [e4, nI_clamp (show S.length < 2 ^ 31 by omega)]
        have hy' : pile S.length = y := hS.1
        rw [hy']
        refine ⟨fun q => absurd q (by decide), fun _ => ⟨fun q => (q (by first | rfl | trivial)).elim, fun _ => ⟨pk_in p 1400 (by omega), pk_in (p + 1) 1400 (by omega), ⟨fun _ => ⟨fun q => (q (by first | rfl | trivial)).elim, fun _ => ⟨pk_in S.length 60 (by omega), pk_in S.length 60 (by omega), ?_⟩⟩, fun q => absurd (by decide) q⟩⟩⟩⟩
        exact goOn (FP.dneg y :: S) _ rfl (by simp) hw (cons (zg_neg hy) hg') (zst_push hS.2)
/-- what tokens come to -/
def evv (ld : Nat → UInt64) (T : List zTok) : Option UInt64 := (ev ld T []).bind List.head?
theorem f_value {ld : Nat → UInt64} {tm x : Int32} {th : Nat} (ht : th < 4) {hd gl ow : Nat → UInt64} (hE : zEm ld tm th hd gl ow) (hL : zLg ld) {code : Nat → Int32} {T : List zTok} (hV : mV code x T) (hT : T.length ≤ 48) (pile : Nat → UInt64) :
    p_Mo_value tm (nI th) 0 code pile hd gl ow x ∧ ∃ v u pile', s_Mo_value tm (nI th) 0 code pile hd gl ow x = (v, u, pile') ∧ ((evv ld T = some v ∧ u = 0 ∧ zg v) ∨ (evv ld T = none ∧ u = 1)) := by
  obtain ⟨a, rfl, h1, h2, h3⟩ := hV
  have := e_Mo_value tm (nI th) 0 code pile hd gl ow (nI a) (Q := fun v r => (evv ld T = some v ∧ r.1 = 0 ∧ zg v) ∨ (evv ld T = none ∧ r.1 = 1)) (by
    show WP_Mo_value_L4 600 (nI a) (nI ([] : List UInt64).length) (nI a) tm (nI th) 0 code pile hd gl ow _
    rw [show 600 = (598 - T.length) + 2 + T.length by omega]
    refine vl_tok ht hE hL T a [] pile h2 h1 (by simp; omega) h3 (by simp) trivial ?_ ?_
    · intro q pile'
      exact Or.inr ⟨by simp only [evv, q]; rfl, rfl⟩
    · intro S' pile' q hS hg hl
      match S', hl, hS, hg, q with
      | [v], _, hS, hg, q =>
        have hv : pile' 0 = v := hS.1
        exact Or.inl ⟨by simp only [evv, q, hv]; rfl, rfl, by rw [hv]; exact hg v (by simp)⟩)
  exact ⟨this.1, _, _, _, rfl, this.2⟩
