/-! the class's loop over the steps -/
section ZRN
variable {tm dr cond fa mt : Int32} {th l : Nat} {ha hb hc : UInt64} {me : Int32} {st va : Nat → UInt64} {sz : Nat → Int32} {ol qs lo : Int32} {ks : Nat → Nat → Int32} {su : Nat → Nat → UInt64} {vs bs : Nat → Nat → Int32} {le gr : Nat → Nat → UInt64} {rg : Nat → UInt64} {steps : Nat → Int32} {Q : Int32 → (Int32 × Int32 × Int32 × Int32 × Int32 × Int32 × Int32 × (Nat → UInt64) × (Nat → UInt64) × (Nat → Int32) × Int32 × Int32 × Int32 × (Nat → Nat → Int32) × (Nat → Nat → UInt64) × (Nat → Nat → Int32) × (Nat → Nat → Int32) × (Nat → Nat → UInt64) × (Nat → Nat → UInt64) × (Nat → UInt64)) → Prop}
/-- one step of the loop -/
theorem rl_step {o f : Nat} {x : Nat} {tp : Int32} (ho : o < l) (hl : l ≤ 48) (hs : steps o = nI x) {dr' tp' ov' fl' me' ol' qs' lo' : Int32} {st' va' rg' : Nat → UInt64} {sz' : Nat → Int32} {ks' vs' bs' : Nat → Nat → Int32} {su' le' gr' : Nat → Nat → UInt64}
    (k : p_Rn_doStep tm dr (nI th) ha hb hc tp 0 0 me st va sz ol qs lo ks su vs bs le gr rg (nI x) ∧ s_Rn_doStep tm dr (nI th) ha hb hc tp 0 0 me st va sz ol qs lo ks su vs bs le gr rg (nI x) = (dr', tp', ov', fl', me', st', va', sz', ol', qs', lo', ks', su', vs', bs', le', gr', rg'))
    (w : WP_Rn_run_L33 f (nI (o + 1)) (nI l) cond fa mt steps tm dr' (nI th) ha hb hc tp' ov' fl' me' st' va' sz' ol' qs' lo' ks' su' vs' bs' le' gr' rg' Q) : WP_Rn_run_L33 (f + 1) (nI o) (nI l) cond fa mt steps tm dr (nI th) ha hb hc tp 0 0 me st va sz ol qs lo ks su vs bs le gr rg Q := by
  refine pk_le l o (fun q => absurd q (by omega)) (fun _ => pk_le 48 o (fun q => absurd q (by omega)) (fun _ => ⟨fun q => absurd rfl q, fun _ => ⟨pk_in o 48 (by omega), ?_⟩⟩))
  rw [nI_clamp (by omega), hs]
  refine ⟨k.1, fun m1 m2 m3 m4 m5 m6 m7 m8 m9 m10 m11 m12 m13 m14 m15 m16 m17 m18 q => ?_⟩
  rw [k.2] at q
  cases q
  rw [nI_1]
  exact w
/-- tokens in the loop -/
theorem rl_tok {ld : Nat → UInt64} (ht : th < 4) (hE : zEn ld tm th ha hb hc va) (hL : zLg ld) (hl : l ≤ 48) {f e : Nat} :
    ∀ (T : List zTok) (o : Nat) (S : List UInt64) (st : Nat → UInt64), o + T.length ≤ l → sE steps o (T.map zkc) → S.length ≤ o → wT S.length T e → (∀ x ∈ S, zg x) → zst st S →
    (ev ld T S = none → ∀ y tp st' g, WP_Rn_run_L33 (g + 1) y (nI l) cond fa mt steps tm dr (nI th) ha hb hc tp 1 1 me st' va sz ol qs lo ks su vs bs le gr rg Q) →
    (∀ S' st', ev ld T S = some S' → zst st' S' → (∀ x ∈ S', zg x) → S'.length = e → S'.length ≤ o + T.length → WP_Rn_run_L33 (f + 1) (nI (o + T.length)) (nI l) cond fa mt steps tm dr (nI th) ha hb hc (nI S'.length) 0 0 me st' va sz ol qs lo ks su vs bs le gr rg Q) →
    WP_Rn_run_L33 (f + 1 + T.length) (nI o) (nI l) cond fa mt steps tm dr (nI th) ha hb hc (nI S.length) 0 0 me st va sz ol qs lo ks su vs bs le gr rg Q
  | [], o, S, st, _, _, hSo, hw, hg, hS, _, K => K S st rfl hS hg hw hSo
  | t :: T, o, S, st, ho, hs, hSo, hw, hg, hS, K0, K => by
    have ho' : o + T.length + 1 ≤ l := ho
    obtain ⟨a, tp', ov', fl', st', b, c⟩ := f_tok tm dr ha hb hc me st va sz ol qs lo ks su vs bs le gr rg ht hE hL hw (by omega) hg hS
    refine rl_step (f := f + 1 + T.length) (by omega) hl hs.1 ⟨a, b⟩ ?_
    rcases c with ⟨S', c1, c2, c3, c4, c5, c6, c7, c8⟩ | ⟨c1, c2, c3⟩
    · subst c2; subst c3; subst c4
      refine rl_tok ht hE hL hl T (o + 1) S' st' (by omega) hs.2 (by omega) c8 c7 c5 (fun q => K0 (by simp only [ev, c1]; exact q)) ?_
      intro S'' st'' d1 d2 d3 d4 d5
      have := K S'' st'' (by simp only [ev, c1]; exact d1) d2 d3 d4 (by simp only [List.length_cons]; omega)
      rw [show o + 1 + T.length = o + (t :: T).length by simp only [List.length_cons]; omega]
      exact this
    · subst c2; subst c3
      have := K0 (by simp only [ev, c1]; rfl) (nI (o + 1)) tp' st' (f + T.length)
      rw [show f + T.length + 1 = f + 1 + T.length by omega] at this
      exact this
end ZRN
