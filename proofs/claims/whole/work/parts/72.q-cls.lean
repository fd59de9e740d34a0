theorem zex1 {A : Type} (x : A) : ∃ a, x = a := ⟨x, rfl⟩
theorem zex2 {A0 A1 : Type} (x : A0 × A1) : ∃ a0 a1, x = (a0, a1) := ⟨x.1, x.2, rfl⟩
theorem zex3 {A0 A1 A2 : Type} (x : A0 × A1 × A2) : ∃ a0 a1 a2, x = (a0, a1, a2) := ⟨x.1, x.2.1, x.2.2, rfl⟩
theorem zex4 {A0 A1 A2 A3 : Type} (x : A0 × A1 × A2 × A3) : ∃ a0 a1 a2 a3, x = (a0, a1, a2, a3) := ⟨x.1, x.2.1, x.2.2.1, x.2.2.2, rfl⟩
theorem zex5 {A0 A1 A2 A3 A4 : Type} (x : A0 × A1 × A2 × A3 × A4) : ∃ a0 a1 a2 a3 a4, x = (a0, a1, a2, a3, a4) := ⟨x.1, x.2.1, x.2.2.1, x.2.2.2.1, x.2.2.2.2, rfl⟩
theorem zex7 {A0 A1 A2 A3 A4 A5 A6 : Type} (x : A0 × A1 × A2 × A3 × A4 × A5 × A6) : ∃ a0 a1 a2 a3 a4 a5 a6, x = (a0, a1, a2, a3, a4, a5, a6) := ⟨x.1, x.2.1, x.2.2.1, x.2.2.2.1, x.2.2.2.2.1, x.2.2.2.2.2.1, x.2.2.2.2.2.2, rfl⟩
theorem zex8 {A0 A1 A2 A3 A4 A5 A6 A7 : Type} (x : A0 × A1 × A2 × A3 × A4 × A5 × A6 × A7) : ∃ a0 a1 a2 a3 a4 a5 a6 a7, x = (a0, a1, a2, a3, a4, a5, a6, a7) := ⟨x.1, x.2.1, x.2.2.1, x.2.2.2.1, x.2.2.2.2.1, x.2.2.2.2.2.1, x.2.2.2.2.2.2.1, x.2.2.2.2.2.2.2, rfl⟩
theorem zex9 {A0 A1 A2 A3 A4 A5 A6 A7 A8 : Type} (x : A0 × A1 × A2 × A3 × A4 × A5 × A6 × A7 × A8) : ∃ a0 a1 a2 a3 a4 a5 a6 a7 a8, x = (a0, a1, a2, a3, a4, a5, a6, a7, a8) := ⟨x.1, x.2.1, x.2.2.1, x.2.2.2.1, x.2.2.2.2.1, x.2.2.2.2.2.1, x.2.2.2.2.2.2.1, x.2.2.2.2.2.2.2.1, x.2.2.2.2.2.2.2.2, rfl⟩
theorem zex11 {A0 A1 A2 A3 A4 A5 A6 A7 A8 A9 A10 : Type} (x : A0 × A1 × A2 × A3 × A4 × A5 × A6 × A7 × A8 × A9 × A10) : ∃ a0 a1 a2 a3 a4 a5 a6 a7 a8 a9 a10, x = (a0, a1, a2, a3, a4, a5, a6, a7, a8, a9, a10) := ⟨x.1, x.2.1, x.2.2.1, x.2.2.2.1, x.2.2.2.2.1, x.2.2.2.2.2.1, x.2.2.2.2.2.2.1, x.2.2.2.2.2.2.2.1, x.2.2.2.2.2.2.2.2.1, x.2.2.2.2.2.2.2.2.2.1, x.2.2.2.2.2.2.2.2.2.2, rfl⟩
theorem zex12 {A0 A1 A2 A3 A4 A5 A6 A7 A8 A9 A10 A11 : Type} (x : A0 × A1 × A2 × A3 × A4 × A5 × A6 × A7 × A8 × A9 × A10 × A11) : ∃ a0 a1 a2 a3 a4 a5 a6 a7 a8 a9 a10 a11, x = (a0, a1, a2, a3, a4, a5, a6, a7, a8, a9, a10, a11) := ⟨x.1, x.2.1, x.2.2.1, x.2.2.2.1, x.2.2.2.2.1, x.2.2.2.2.2.1, x.2.2.2.2.2.2.1, x.2.2.2.2.2.2.2.1, x.2.2.2.2.2.2.2.2.1, x.2.2.2.2.2.2.2.2.2.1, x.2.2.2.2.2.2.2.2.2.2.1, x.2.2.2.2.2.2.2.2.2.2.2, rfl⟩
theorem zex15 {A0 A1 A2 A3 A4 A5 A6 A7 A8 A9 A10 A11 A12 A13 A14 : Type} (x : A0 × A1 × A2 × A3 × A4 × A5 × A6 × A7 × A8 × A9 × A10 × A11 × A12 × A13 × A14) : ∃ a0 a1 a2 a3 a4 a5 a6 a7 a8 a9 a10 a11 a12 a13 a14, x = (a0, a1, a2, a3, a4, a5, a6, a7, a8, a9, a10, a11, a12, a13, a14) := ⟨x.1, x.2.1, x.2.2.1, x.2.2.2.1, x.2.2.2.2.1, x.2.2.2.2.2.1, x.2.2.2.2.2.2.1, x.2.2.2.2.2.2.2.1, x.2.2.2.2.2.2.2.2.1, x.2.2.2.2.2.2.2.2.2.1, x.2.2.2.2.2.2.2.2.2.2.1, x.2.2.2.2.2.2.2.2.2.2.2.1, x.2.2.2.2.2.2.2.2.2.2.2.2.1, x.2.2.2.2.2.2.2.2.2.2.2.2.2.1, x.2.2.2.2.2.2.2.2.2.2.2.2.2.2, rfl⟩
theorem zex16 {A0 A1 A2 A3 A4 A5 A6 A7 A8 A9 A10 A11 A12 A13 A14 A15 : Type} (x : A0 × A1 × A2 × A3 × A4 × A5 × A6 × A7 × A8 × A9 × A10 × A11 × A12 × A13 × A14 × A15) : ∃ a0 a1 a2 a3 a4 a5 a6 a7 a8 a9 a10 a11 a12 a13 a14 a15, x = (a0, a1, a2, a3, a4, a5, a6, a7, a8, a9, a10, a11, a12, a13, a14, a15) := ⟨x.1, x.2.1, x.2.2.1, x.2.2.2.1, x.2.2.2.2.1, x.2.2.2.2.2.1, x.2.2.2.2.2.2.1, x.2.2.2.2.2.2.2.1, x.2.2.2.2.2.2.2.2.1, x.2.2.2.2.2.2.2.2.2.1, x.2.2.2.2.2.2.2.2.2.2.1, x.2.2.2.2.2.2.2.2.2.2.2.1, x.2.2.2.2.2.2.2.2.2.2.2.2.1, x.2.2.2.2.2.2.2.2.2.2.2.2.2.1, x.2.2.2.2.2.2.2.2.2.2.2.2.2.2.1, x.2.2.2.2.2.2.2.2.2.2.2.2.2.2.2, rfl⟩
theorem zex17 {A0 A1 A2 A3 A4 A5 A6 A7 A8 A9 A10 A11 A12 A13 A14 A15 A16 : Type} (x : A0 × A1 × A2 × A3 × A4 × A5 × A6 × A7 × A8 × A9 × A10 × A11 × A12 × A13 × A14 × A15 × A16) : ∃ a0 a1 a2 a3 a4 a5 a6 a7 a8 a9 a10 a11 a12 a13 a14 a15 a16, x = (a0, a1, a2, a3, a4, a5, a6, a7, a8, a9, a10, a11, a12, a13, a14, a15, a16) := ⟨x.1, x.2.1, x.2.2.1, x.2.2.2.1, x.2.2.2.2.1, x.2.2.2.2.2.1, x.2.2.2.2.2.2.1, x.2.2.2.2.2.2.2.1, x.2.2.2.2.2.2.2.2.1, x.2.2.2.2.2.2.2.2.2.1, x.2.2.2.2.2.2.2.2.2.2.1, x.2.2.2.2.2.2.2.2.2.2.2.1, x.2.2.2.2.2.2.2.2.2.2.2.2.1, x.2.2.2.2.2.2.2.2.2.2.2.2.2.1, x.2.2.2.2.2.2.2.2.2.2.2.2.2.2.1, x.2.2.2.2.2.2.2.2.2.2.2.2.2.2.2.1, x.2.2.2.2.2.2.2.2.2.2.2.2.2.2.2.2, rfl⟩
theorem zex18 {A0 A1 A2 A3 A4 A5 A6 A7 A8 A9 A10 A11 A12 A13 A14 A15 A16 A17 : Type} (x : A0 × A1 × A2 × A3 × A4 × A5 × A6 × A7 × A8 × A9 × A10 × A11 × A12 × A13 × A14 × A15 × A16 × A17) : ∃ a0 a1 a2 a3 a4 a5 a6 a7 a8 a9 a10 a11 a12 a13 a14 a15 a16 a17, x = (a0, a1, a2, a3, a4, a5, a6, a7, a8, a9, a10, a11, a12, a13, a14, a15, a16, a17) := ⟨x.1, x.2.1, x.2.2.1, x.2.2.2.1, x.2.2.2.2.1, x.2.2.2.2.2.1, x.2.2.2.2.2.2.1, x.2.2.2.2.2.2.2.1, x.2.2.2.2.2.2.2.2.1, x.2.2.2.2.2.2.2.2.2.1, x.2.2.2.2.2.2.2.2.2.2.1, x.2.2.2.2.2.2.2.2.2.2.2.1, x.2.2.2.2.2.2.2.2.2.2.2.2.1, x.2.2.2.2.2.2.2.2.2.2.2.2.2.1, x.2.2.2.2.2.2.2.2.2.2.2.2.2.2.1, x.2.2.2.2.2.2.2.2.2.2.2.2.2.2.2.1, x.2.2.2.2.2.2.2.2.2.2.2.2.2.2.2.2.1, x.2.2.2.2.2.2.2.2.2.2.2.2.2.2.2.2.2, rfl⟩
theorem zex21 {A0 A1 A2 A3 A4 A5 A6 A7 A8 A9 A10 A11 A12 A13 A14 A15 A16 A17 A18 A19 A20 : Type} (x : A0 × A1 × A2 × A3 × A4 × A5 × A6 × A7 × A8 × A9 × A10 × A11 × A12 × A13 × A14 × A15 × A16 × A17 × A18 × A19 × A20) : ∃ a0 a1 a2 a3 a4 a5 a6 a7 a8 a9 a10 a11 a12 a13 a14 a15 a16 a17 a18 a19 a20, x = (a0, a1, a2, a3, a4, a5, a6, a7, a8, a9, a10, a11, a12, a13, a14, a15, a16, a17, a18, a19, a20) := ⟨x.1, x.2.1, x.2.2.1, x.2.2.2.1, x.2.2.2.2.1, x.2.2.2.2.2.1, x.2.2.2.2.2.2.1, x.2.2.2.2.2.2.2.1, x.2.2.2.2.2.2.2.2.1, x.2.2.2.2.2.2.2.2.2.1, x.2.2.2.2.2.2.2.2.2.2.1, x.2.2.2.2.2.2.2.2.2.2.2.1, x.2.2.2.2.2.2.2.2.2.2.2.2.1, x.2.2.2.2.2.2.2.2.2.2.2.2.2.1, x.2.2.2.2.2.2.2.2.2.2.2.2.2.2.1, x.2.2.2.2.2.2.2.2.2.2.2.2.2.2.2.1, x.2.2.2.2.2.2.2.2.2.2.2.2.2.2.2.2.1, x.2.2.2.2.2.2.2.2.2.2.2.2.2.2.2.2.2.1, x.2.2.2.2.2.2.2.2.2.2.2.2.2.2.2.2.2.2.1, x.2.2.2.2.2.2.2.2.2.2.2.2.2.2.2.2.2.2.2.1, x.2.2.2.2.2.2.2.2.2.2.2.2.2.2.2.2.2.2.2.2, rfl⟩
set_option maxRecDepth 100000 in
theorem pm_Tr_isWithin (x0 : Int32) (x1 : Int32) {Q Q2 : Int32 → Unit → Prop} (hQ : ∀ r u, Q r u → Q2 r u) (hp : WP_Tr_isWithin x0 x1 Q) : WP_Tr_isWithin x0 x1 Q2 := by
  unfold WP_Tr_isWithin at hp ⊢
  refine ⟨fun c1 => ?_, fun c1 => ?_⟩
  · have g1 := hp.1 c1
    exact hQ _ _ g1
  · have g1 := hp.2 c1
    refine ⟨fun c3 => ?_, fun c3 => ?_⟩
    · have g2 := g1.1 c3
      exact hQ _ _ g2
    · have g2 := g1.2 c3
      exact hQ _ _ g2
set_option maxRecDepth 100000 in
theorem qm_Tr_isWithin (x0 : Int32) (x1 : Int32) {Q : Int32 → Unit → Prop} (tgt : Int32) (f0 : s_Tr_isWithin x0 x1 = tgt) (hp : WP_Tr_isWithin x0 x1 Q) : Q tgt () := by
  unfold WP_Tr_isWithin at hp
  unfold s_Tr_isWithin at f0
  by_cases c1 : x0 < 0
  · have f1 := Eq.trans (Eq.symm (if_pos c1)) f0
    have g1 := hp.1 c1
    subst f1; exact g1
  · have f1 := Eq.trans (Eq.symm (if_neg c1)) f0
    have g1 := hp.2 c1
    by_cases c3 : x1 ≤ x0
    · have f2 := Eq.trans (Eq.symm (if_pos c3)) f1
      have g2 := g1.1 c3
      subst f2; exact g2
    · have f2 := Eq.trans (Eq.symm (if_neg c3)) f1
      have g2 := g1.2 c3
      subst f2; exact g2
theorem e_Tr_isWithin (x0 : Int32) (x1 : Int32) {Q : Int32 → Unit → Prop} (hp : WP_Tr_isWithin x0 x1 Q) : Q (s_Tr_isWithin x0 x1) () := qm_Tr_isWithin x0 x1 _ rfl hp
set_option maxRecDepth 100000 in
theorem pm_Tr_mayBeHanded (x0 : UInt64) {Q Q2 : Int32 → Unit → Prop} (hQ : ∀ r u, Q r u → Q2 r u) (hp : WP_Tr_mayBeHanded x0 Q) : WP_Tr_mayBeHanded x0 Q2 := by
  unfold WP_Tr_mayBeHanded at hp ⊢
  refine ⟨fun c1 => ?_, fun c1 => ?_⟩
  · have g1 := hp.1 c1
    exact hQ _ _ g1
  · have g1 := hp.2 c1
    refine ⟨fun c3 => ?_, fun c3 => ?_⟩
    · have g2 := g1.1 c3
      exact hQ _ _ g2
    · have g2 := g1.2 c3
      exact hQ _ _ g2
set_option maxRecDepth 100000 in
theorem qm_Tr_mayBeHanded (x0 : UInt64) {Q : Int32 → Unit → Prop} (tgt : Int32) (f0 : s_Tr_mayBeHanded x0 = tgt) (hp : WP_Tr_mayBeHanded x0 Q) : Q tgt () := by
  unfold WP_Tr_mayBeHanded at hp
  unfold s_Tr_mayBeHanded at f0
  by_cases c1 : (Op.cmpValue (FP.dcmp x0 (13875379345695965184 : UInt64)) .l) < 0
  · have f1 := Eq.trans (Eq.symm (if_pos c1)) f0
    have g1 := hp.1 c1
    subst f1; exact g1
  · have f1 := Eq.trans (Eq.symm (if_neg c1)) f0
    have g1 := hp.2 c1
    by_cases c3 : 0 < (Op.cmpValue (FP.dcmp x0 (4652007308841189376 : UInt64)) .g)
    · have f2 := Eq.trans (Eq.symm (if_pos c3)) f1
      have g2 := g1.1 c3
      subst f2; exact g2
    · have f2 := Eq.trans (Eq.symm (if_neg c3)) f1
      have g2 := g1.2 c3
      subst f2; exact g2
theorem e_Tr_mayBeHanded (x0 : UInt64) {Q : Int32 → Unit → Prop} (hp : WP_Tr_mayBeHanded x0 Q) : Q (s_Tr_mayBeHanded x0) () := qm_Tr_mayBeHanded x0 _ rfl hp
set_option maxRecDepth 100000 in
theorem pm_Re_take (t_oldest : Int32) (t_size : Int32) (t_ring : Nat → UInt64) {Q Q2 : UInt64 → (Int32 × Int32) → Prop} (hQ : ∀ r u, Q r u → Q2 r u) (hp : WP_Re_take t_oldest t_size t_ring Q) : WP_Re_take t_oldest t_size t_ring Q2 := by
  unfold WP_Re_take at hp ⊢
  refine ⟨hp.1, ?_⟩
  have g1 := hp.2
  exact hQ _ _ g1
set_option maxRecDepth 100000 in
theorem qm_Re_take (t_oldest : Int32) (t_size : Int32) (t_ring : Nat → UInt64) {Q : UInt64 → (Int32 × Int32) → Prop} (tgt : UInt64 × Int32 × Int32) (f0 : s_Re_take t_oldest t_size t_ring = tgt) (hp : WP_Re_take t_oldest t_size t_ring Q) : Q tgt.1 tgt.2 := by
  unfold WP_Re_take at hp
  unfold s_Re_take at f0
  have g1 := hp.2
  subst f0; exact g1
theorem e_Re_take (t_oldest : Int32) (t_size : Int32) (t_ring : Nat → UInt64) {Q : UInt64 → (Int32 × Int32) → Prop} (hp : WP_Re_take t_oldest t_size t_ring Q) : p_Re_take t_oldest t_size t_ring ∧ Q (s_Re_take t_oldest t_size t_ring).1 (s_Re_take t_oldest t_size t_ring).2 := ⟨pm_Re_take t_oldest t_size t_ring (fun _ _ _ => trivial) hp, qm_Re_take t_oldest t_size t_ring _ rfl hp⟩
set_option maxRecDepth 100000 in
theorem pm_Re_put (t_oldest : Int32) (t_size : Int32) (t_lost : Int32) (t_ring : Nat → UInt64) (x1 : UInt64) {Q Q2 : (Int32 × Int32 × Int32 × (Nat → UInt64)) → Prop} (hQ : ∀ u, Q u → Q2 u) (hp : WP_Re_put t_oldest t_size t_lost t_ring x1 Q) : WP_Re_put t_oldest t_size t_lost t_ring x1 Q2 := by
  unfold WP_Re_put at hp ⊢
  refine ⟨fun c1 => ?_, fun c1 => ?_⟩
  · have g1 := hp.1 c1
    refine ⟨g1.1, ?_⟩
    have g2 := g1.2
    exact hQ _ g2
  · have g1 := hp.2 c1
    refine ⟨g1.1, ?_⟩
    intro r4 m7 m8 e6
    have g3 := g1.2 r4 m7 m8 e6
    refine ⟨g3.1, ?_⟩
    have g4 := g3.2
    exact hQ _ g4
set_option maxRecDepth 100000 in
theorem qm_Re_put (t_oldest : Int32) (t_size : Int32) (t_lost : Int32) (t_ring : Nat → UInt64) (x1 : UInt64) {Q : (Int32 × Int32 × Int32 × (Nat → UInt64)) → Prop} (tgt : Int32 × Int32 × Int32 × (Nat → UInt64)) (f0 : s_Re_put t_oldest t_size t_lost t_ring x1 = tgt) (hp : WP_Re_put t_oldest t_size t_lost t_ring x1 Q) : Q tgt := by
  unfold WP_Re_put at hp
  unfold s_Re_put at f0
  by_cases c1 : t_size < (6 : Int32)
  · have f1 := Eq.trans (Eq.symm (if_pos c1)) f0
    have g1 := hp.1 c1
    have g2 := g1.2
    subst f1; exact g2
  · have f1 := Eq.trans (Eq.symm (if_neg c1)) f0
    have g1 := hp.2 c1
    obtain ⟨r4, m7, m8, e6⟩ := zex3 (s_Re_take t_oldest t_size t_ring)
    have g3 := g1.2 r4 m7 m8 e6
    have f3 := Eq.trans (Eq.symm (zl2_eq e6)) f1
    have f3 := Eq.trans (Eq.symm (zl2_eq (Eq.refl (m7, m8)))) f3
    have g4 := g3.2
    subst f3; exact g4
theorem e_Re_put (t_oldest : Int32) (t_size : Int32) (t_lost : Int32) (t_ring : Nat → UInt64) (x1 : UInt64) {Q : (Int32 × Int32 × Int32 × (Nat → UInt64)) → Prop} (hp : WP_Re_put t_oldest t_size t_lost t_ring x1 Q) : p_Re_put t_oldest t_size t_lost t_ring x1 ∧ Q (s_Re_put t_oldest t_size t_lost t_ring x1) := ⟨pm_Re_put t_oldest t_size t_lost t_ring x1 (fun _ _ => trivial) hp, qm_Re_put t_oldest t_size t_lost t_ring x1 _ rfl hp⟩
set_option maxRecDepth 100000 in
theorem pm_Ga_binOf_L5 {Q Q2 : Int32 → Unit → Prop} (hQ : ∀ r u, Q r u → Q2 r u) : ∀ (n : Nat) (y0 : UInt64) (y2 : UInt64) (y4 : Int32), WP_Ga_binOf_L5 n y0 y2 y4 Q → WP_Ga_binOf_L5 n y0 y2 y4 Q2 := by
  intro n
  induction n with
  | zero => intros; contradiction
  | succ n ih =>
    intro y0 y2 y4 hp
    unfold WP_Ga_binOf_L5 at hp ⊢
    refine ⟨fun c1 => ?_, fun c1 => ?_⟩
    · have g1 := hp.1 c1
      exact hQ _ _ g1
    · have g1 := hp.2 c1
      refine ⟨fun c3 => ?_, fun c3 => ?_⟩
      · have g2 := g1.1 c3
        refine ⟨g2.1, ?_⟩
        have g3 := g2.2
        exact ih _ _ _ g3
      · have g2 := g1.2 c3
        exact hQ _ _ g2
set_option maxRecDepth 100000 in
theorem qm_Ga_binOf_L5 {Q : Int32 → Unit → Prop} : ∀ (n : Nat) (y0 : UInt64) (y2 : UInt64) (y4 : Int32) (tgt : Int32), s_Ga_binOf_L5 n y0 y2 y4 = tgt → WP_Ga_binOf_L5 n y0 y2 y4 Q → Q tgt () := by
  intro n
  induction n with
  | zero => intros; contradiction
  | succ n ih =>
    intro y0 y2 y4 tgt f0 hp
    unfold WP_Ga_binOf_L5 at hp
    unfold s_Ga_binOf_L5 at f0
    by_cases c1 : (7 : Int32) ≤ y4
    · have f1 := Eq.trans (Eq.symm (if_pos c1)) f0
      have g1 := hp.1 c1
      subst f1; exact g1
    · have f1 := Eq.trans (Eq.symm (if_neg c1)) f0
      have g1 := hp.2 c1
      by_cases c3 : 0 ≤ (Op.cmpValue (FP.dcmp y0 y2) .g)
      · have f2 := Eq.trans (Eq.symm (if_pos c3)) f1
        have g2 := g1.1 c3
        have g3 := g2.2
        exact ih _ _ _ _ f2 g3
      · have f2 := Eq.trans (Eq.symm (if_neg c3)) f1
        have g2 := g1.2 c3
        subst f2; exact g2
set_option maxRecDepth 100000 in
theorem pm_Ga_binOf (x0 : UInt64) {Q Q2 : Int32 → Unit → Prop} (hQ : ∀ r u, Q r u → Q2 r u) (hp : WP_Ga_binOf x0 Q) : WP_Ga_binOf x0 Q2 := by
  unfold WP_Ga_binOf at hp ⊢
  exact pm_Ga_binOf_L5 hQ _ _ _ _ hp
set_option maxRecDepth 100000 in
theorem qm_Ga_binOf (x0 : UInt64) {Q : Int32 → Unit → Prop} (tgt : Int32) (f0 : s_Ga_binOf x0 = tgt) (hp : WP_Ga_binOf x0 Q) : Q tgt () := by
  unfold WP_Ga_binOf at hp
  unfold s_Ga_binOf at f0
  exact qm_Ga_binOf_L5 _ _ _ _ _ f0 hp
theorem e_Ga_binOf (x0 : UInt64) {Q : Int32 → Unit → Prop} (hp : WP_Ga_binOf x0 Q) : p_Ga_binOf x0 ∧ Q (s_Ga_binOf x0) () := ⟨pm_Ga_binOf x0 (fun _ _ _ => trivial) hp, qm_Ga_binOf x0 _ rfl hp⟩
set_option maxRecDepth 100000 in
theorem pm_Ga_rowOf_L2 {Q Q2 : Int32 → Unit → Prop} (hQ : ∀ r u, Q r u → Q2 r u) : ∀ (n : Nat) (y1 : Int32) (y2 : Int32) (t_size : Int32) (t_keys : Nat → Int32), WP_Ga_rowOf_L2 n y1 y2 t_size t_keys Q → WP_Ga_rowOf_L2 n y1 y2 t_size t_keys Q2 := by
  intro n
  induction n with
  | zero => intros; contradiction
  | succ n ih =>
    intro y1 y2 t_size t_keys hp
    unfold WP_Ga_rowOf_L2 at hp ⊢
    refine ⟨fun c1 => ?_, fun c1 => ?_⟩
    · have g1 := hp.1 c1
      exact hQ _ _ g1
    · have g1 := hp.2 c1
      refine ⟨fun c3 => ?_, fun c3 => ?_⟩
      · have g2 := g1.1 c3
        exact hQ _ _ g2
      · have g2 := g1.2 c3
        refine ⟨g2.1, ?_⟩
        have g3 := g2.2
        refine ⟨fun c6 => ?_, fun c6 => ?_⟩
        · have g4 := g3.1 c6
          exact ih _ _ _ _ g4
        · have g4 := g3.2 c6
          exact hQ _ _ g4
set_option maxRecDepth 100000 in
theorem qm_Ga_rowOf_L2 {Q : Int32 → Unit → Prop} : ∀ (n : Nat) (y1 : Int32) (y2 : Int32) (t_size : Int32) (t_keys : Nat → Int32) (tgt : Int32), s_Ga_rowOf_L2 n y1 y2 t_size t_keys = tgt → WP_Ga_rowOf_L2 n y1 y2 t_size t_keys Q → Q tgt () := by
  intro n
  induction n with
  | zero => intros; contradiction
  | succ n ih =>
    intro y1 y2 t_size t_keys tgt f0 hp
    unfold WP_Ga_rowOf_L2 at hp
    unfold s_Ga_rowOf_L2 at f0
    by_cases c1 : t_size ≤ y2
    · have f1 := Eq.trans (Eq.symm (if_pos c1)) f0
      have g1 := hp.1 c1
      subst f1; exact g1
    · have f1 := Eq.trans (Eq.symm (if_neg c1)) f0
      have g1 := hp.2 c1
      by_cases c3 : (4 : Int32) ≤ y2
      · have f2 := Eq.trans (Eq.symm (if_pos c3)) f1
        have g2 := g1.1 c3
        subst f2; exact g2
      · have f2 := Eq.trans (Eq.symm (if_neg c3)) f1
        have g2 := g1.2 c3
        have g3 := g2.2
        by_cases c6 : (t_keys y2.toNatClampNeg) = y1
        · have f4 := Eq.trans (Eq.symm (if_pos c6)) f2
          have g4 := g3.2 c6
          subst f4; exact g4
        · have f4 := Eq.trans (Eq.symm (if_neg c6)) f2
          have g4 := g3.1 c6
          exact ih _ _ _ _ _ f4 g4
set_option maxRecDepth 100000 in
theorem pm_Ga_rowOf (t_size : Int32) (t_keys : Nat → Int32) (x1 : Int32) {Q Q2 : Int32 → Unit → Prop} (hQ : ∀ r u, Q r u → Q2 r u) (hp : WP_Ga_rowOf t_size t_keys x1 Q) : WP_Ga_rowOf t_size t_keys x1 Q2 := by
  unfold WP_Ga_rowOf at hp ⊢
  exact pm_Ga_rowOf_L2 hQ _ _ _ _ _ hp
set_option maxRecDepth 100000 in
theorem qm_Ga_rowOf (t_size : Int32) (t_keys : Nat → Int32) (x1 : Int32) {Q : Int32 → Unit → Prop} (tgt : Int32) (f0 : s_Ga_rowOf t_size t_keys x1 = tgt) (hp : WP_Ga_rowOf t_size t_keys x1 Q) : Q tgt () := by
  unfold WP_Ga_rowOf at hp
  unfold s_Ga_rowOf at f0
  exact qm_Ga_rowOf_L2 _ _ _ _ _ _ f0 hp
theorem e_Ga_rowOf (t_size : Int32) (t_keys : Nat → Int32) (x1 : Int32) {Q : Int32 → Unit → Prop} (hp : WP_Ga_rowOf t_size t_keys x1 Q) : p_Ga_rowOf t_size t_keys x1 ∧ Q (s_Ga_rowOf t_size t_keys x1) () := ⟨pm_Ga_rowOf t_size t_keys x1 (fun _ _ _ => trivial) hp, qm_Ga_rowOf t_size t_keys x1 _ rfl hp⟩
set_option maxRecDepth 100000 in
theorem pm_Ga_rowFor (t_size : Int32) (t_keys : Nat → Int32) (x1 : Int32) {Q Q2 : Int32 → (Int32 × (Nat → Int32)) → Prop} (hQ : ∀ r u, Q r u → Q2 r u) (hp : WP_Ga_rowFor t_size t_keys x1 Q) : WP_Ga_rowFor t_size t_keys x1 Q2 := by
  unfold WP_Ga_rowFor at hp ⊢
  refine ⟨hp.1, ?_⟩
  intro r1 e3
  have g1 := hp.2 r1 e3
  refine ⟨fun c5 => ?_, fun c5 => ?_⟩
  · have g2 := g1.1 c5
    exact hQ _ _ g2
  · have g2 := g1.2 c5
    refine ⟨fun c7 => ?_, fun c7 => ?_⟩
    · have g3 := g2.1 c7
      refine ⟨g3.1, ?_⟩
      have g4 := g3.2
      exact hQ _ _ g4
    · have g3 := g2.2 c7
      exact hQ _ _ g3
set_option maxRecDepth 100000 in
theorem qm_Ga_rowFor (t_size : Int32) (t_keys : Nat → Int32) (x1 : Int32) {Q : Int32 → (Int32 × (Nat → Int32)) → Prop} (tgt : Int32 × Int32 × (Nat → Int32)) (f0 : s_Ga_rowFor t_size t_keys x1 = tgt) (hp : WP_Ga_rowFor t_size t_keys x1 Q) : Q tgt.1 tgt.2 := by
  unfold WP_Ga_rowFor at hp
  unfold s_Ga_rowFor at f0
  obtain ⟨r1, e3⟩ := zex1 (s_Ga_rowOf t_size t_keys x1)
  have g1 := hp.2 r1 e3
  have f1 := Eq.trans (Eq.symm (zl1_eq e3)) f0
  by_cases c5 : 0 ≤ r1
  · have f2 := Eq.trans (Eq.symm (if_pos c5)) f1
    have g2 := g1.1 c5
    subst f2; exact g2
  · have f2 := Eq.trans (Eq.symm (if_neg c5)) f1
    have g2 := g1.2 c5
    by_cases c7 : t_size < (4 : Int32)
    · have f3 := Eq.trans (Eq.symm (if_pos c7)) f2
      have g3 := g2.1 c7
      have g4 := g3.2
      subst f3; exact g4
    · have f3 := Eq.trans (Eq.symm (if_neg c7)) f2
      have g3 := g2.2 c7
      subst f3; exact g3
theorem e_Ga_rowFor (t_size : Int32) (t_keys : Nat → Int32) (x1 : Int32) {Q : Int32 → (Int32 × (Nat → Int32)) → Prop} (hp : WP_Ga_rowFor t_size t_keys x1 Q) : p_Ga_rowFor t_size t_keys x1 ∧ Q (s_Ga_rowFor t_size t_keys x1).1 (s_Ga_rowFor t_size t_keys x1).2 := ⟨pm_Ga_rowFor t_size t_keys x1 (fun _ _ _ => trivial) hp, qm_Ga_rowFor t_size t_keys x1 _ rfl hp⟩
set_option maxRecDepth 100000 in
theorem pm_Ga_add (t_values : Nat → Int32) (t_sums : Nat → UInt64) (t_bins : Nat → Int32) (t_least : Nat → UInt64) (t_greatest : Nat → UInt64) (x1 : Int32) (x2 : UInt64) {Q Q2 : ((Nat → Int32) × (Nat → UInt64) × (Nat → Int32) × (Nat → UInt64) × (Nat → UInt64)) → Prop} (hQ : ∀ u, Q u → Q2 u) (hp : WP_Ga_add t_values t_sums t_bins t_least t_greatest x1 x2 Q) : WP_Ga_add t_values t_sums t_bins t_least t_greatest x1 x2 Q2 := by
  unfold WP_Ga_add at hp ⊢
  refine ⟨hp.1, ?_⟩
  have g1 := hp.2
  refine ⟨fun c2 => ?_, fun c2 => ?_⟩
  · have g2 := g1.1 c2
    refine ⟨g2.1, ?_⟩
    have g3 := g2.2
    refine ⟨g3.1, ?_⟩
    have g4 := g3.2
    refine ⟨g4.1, ?_⟩
    have g5 := g4.2
    refine ⟨g5.1, ?_⟩
    have g6 := g5.2
    refine ⟨g6.1, ?_⟩
    have g7 := g6.2
    refine ⟨g7.1, ?_⟩
    intro r9 e11
    have g8 := g7.2 r9 e11
    refine ⟨g8.1, ?_⟩
    have g9 := g8.2
    refine ⟨g9.1, ?_⟩
    have g10 := g9.2
    refine ⟨g10.1, ?_⟩
    have g11 := g10.2
    refine ⟨fun c17 => ?_, fun c17 => ?_⟩
    · have g12 := g11.1 c17
      refine ⟨g12.1, ?_⟩
      have g13 := g12.2
      refine ⟨g13.1, ?_⟩
      have g14 := g13.2
      refine ⟨g14.1, ?_⟩
      have g15 := g14.2
      refine ⟨fun c23 => ?_, fun c23 => ?_⟩
      · have g16 := g15.1 c23
        refine ⟨g16.1, ?_⟩
        have g17 := g16.2
        refine ⟨g17.1, ?_⟩
        have g18 := g17.2
        exact hQ _ g18
      · have g16 := g15.2 c23
        refine ⟨g16.1, ?_⟩
        have g19 := g16.2
        exact hQ _ g19
    · have g12 := g11.2 c17
      refine ⟨g12.1, ?_⟩
      have g20 := g12.2
      refine ⟨g20.1, ?_⟩
      have g21 := g20.2
      refine ⟨fun c31 => ?_, fun c31 => ?_⟩
      · have g22 := g21.1 c31
        refine ⟨g22.1, ?_⟩
        have g23 := g22.2
        refine ⟨g23.1, ?_⟩
        have g24 := g23.2
        exact hQ _ g24
      · have g22 := g21.2 c31
        refine ⟨g22.1, ?_⟩
        have g25 := g22.2
        exact hQ _ g25
  · have g2 := g1.2 c2
    refine ⟨g2.1, ?_⟩
    have g26 := g2.2
    refine ⟨g26.1, ?_⟩
    have g27 := g26.2
    refine ⟨g27.1, ?_⟩
    have g28 := g27.2
    refine ⟨g28.1, ?_⟩
    have g29 := g28.2
    refine ⟨g29.1, ?_⟩
    have g30 := g29.2
    refine ⟨g30.1, ?_⟩
    intro r41 e43
    have g31 := g30.2 r41 e43
    refine ⟨g31.1, ?_⟩
    have g32 := g31.2
    refine ⟨g32.1, ?_⟩
    have g33 := g32.2
    refine ⟨g33.1, ?_⟩
    have g34 := g33.2
    refine ⟨g34.1, ?_⟩
    have g35 := g34.2
    exact hQ _ g35
set_option maxRecDepth 100000 in
theorem qm_Ga_add (t_values : Nat → Int32) (t_sums : Nat → UInt64) (t_bins : Nat → Int32) (t_least : Nat → UInt64) (t_greatest : Nat → UInt64) (x1 : Int32) (x2 : UInt64) {Q : ((Nat → Int32) × (Nat → UInt64) × (Nat → Int32) × (Nat → UInt64) × (Nat → UInt64)) → Prop} (tgt : (Nat → Int32) × (Nat → UInt64) × (Nat → Int32) × (Nat → UInt64) × (Nat → UInt64)) (f0 : s_Ga_add t_values t_sums t_bins t_least t_greatest x1 x2 = tgt) (hp : WP_Ga_add t_values t_sums t_bins t_least t_greatest x1 x2 Q) : Q tgt := by
  unfold WP_Ga_add at hp
  unfold s_Ga_add at f0
  have g1 := hp.2
  by_cases c2 : (t_values x1.toNatClampNeg) = 0
  · have f2 := Eq.trans (Eq.symm (if_pos c2)) f0
    have g2 := g1.2 c2
    have g3 := g2.2
    have g4 := g3.2
    have g5 := g4.2
    have g6 := g5.2
    have g7 := g6.2
    obtain ⟨r41, e43⟩ := zex1 (s_Ga_binOf x2)
    have g8 := g7.2 r41 e43
    have f8 := Eq.trans (Eq.symm (zl1_eq e43)) f2
    have g9 := g8.2
    have g10 := g9.2
    have g11 := g10.2
    have g12 := g11.2
    subst f8; exact g12
  · have f2 := Eq.trans (Eq.symm (if_neg c2)) f0
    have g2 := g1.1 c2
    have g13 := g2.2
    have g14 := g13.2
    have g15 := g14.2
    have g16 := g15.2
    have g17 := g16.2
    obtain ⟨r9, e11⟩ := zex1 (s_Ga_binOf x2)
    have g18 := g17.2 r9 e11
    have f18 := Eq.trans (Eq.symm (zl1_eq e11)) f2
    have g19 := g18.2
    have g20 := g19.2
    have g21 := g20.2
    by_cases c17 : 0 ≤ (Op.cmpValue (FP.dcmp x2 (t_least x1.toNatClampNeg)) .g)
    · have f22 := Eq.trans (Eq.symm (if_pos c17)) f18
      have g22 := g21.1 c17
      have g23 := g22.2
      have g24 := g23.2
      have g25 := g24.2
      by_cases c23 : (Op.cmpValue (FP.dcmp x2 (t_greatest x1.toNatClampNeg)) .l) ≤ 0
      · have f26 := Eq.trans (Eq.symm (if_pos c23)) f22
        have g26 := g25.1 c23
        have g27 := g26.2
        have g28 := g27.2
        subst f26; exact g28
      · have f26 := Eq.trans (Eq.symm (if_neg c23)) f22
        have g26 := g25.2 c23
        have g29 := g26.2
        subst f26; exact g29
    · have f22 := Eq.trans (Eq.symm (if_neg c17)) f18
      have g22 := g21.2 c17
      have g30 := g22.2
      have g31 := g30.2
      by_cases c31 : (Op.cmpValue (FP.dcmp x2 (t_greatest x1.toNatClampNeg)) .l) ≤ 0
      · have f32 := Eq.trans (Eq.symm (if_pos c31)) f22
        have g32 := g31.1 c31
        have g33 := g32.2
        have g34 := g33.2
        subst f32; exact g34
      · have f32 := Eq.trans (Eq.symm (if_neg c31)) f22
        have g32 := g31.2 c31
        have g35 := g32.2
        subst f32; exact g35
theorem e_Ga_add (t_values : Nat → Int32) (t_sums : Nat → UInt64) (t_bins : Nat → Int32) (t_least : Nat → UInt64) (t_greatest : Nat → UInt64) (x1 : Int32) (x2 : UInt64) {Q : ((Nat → Int32) × (Nat → UInt64) × (Nat → Int32) × (Nat → UInt64) × (Nat → UInt64)) → Prop} (hp : WP_Ga_add t_values t_sums t_bins t_least t_greatest x1 x2 Q) : p_Ga_add t_values t_sums t_bins t_least t_greatest x1 x2 ∧ Q (s_Ga_add t_values t_sums t_bins t_least t_greatest x1 x2) := ⟨pm_Ga_add t_values t_sums t_bins t_least t_greatest x1 x2 (fun _ _ => trivial) hp, qm_Ga_add t_values t_sums t_bins t_least t_greatest x1 x2 _ rfl hp⟩
set_option maxRecDepth 100000 in
theorem pm_Ga_figure (t_values : Nat → Int32) (t_sums : Nat → UInt64) (t_greatest : Nat → UInt64) (t_least : Nat → UInt64) (x1 : Int32) (x2 : Int32) {Q Q2 : UInt64 → Unit → Prop} (hQ : ∀ r u, Q r u → Q2 r u) (hp : WP_Ga_figure t_values t_sums t_greatest t_least x1 x2 Q) : WP_Ga_figure t_values t_sums t_greatest t_least x1 x2 Q2 := by
  unfold WP_Ga_figure at hp ⊢
  refine ⟨fun c1_0 => ?_, fun c1_0 => ?_⟩
  · have g1 := hp.1 c1_0
    refine ⟨g1.1, ?_⟩
    have g2 := g1.2
    exact hQ _ _ g2
  · have g1 := hp.2 c1_0
    refine ⟨fun c1_1 => ?_, fun c1_1 => ?_⟩
    · have g3 := g1.1 c1_1
      refine ⟨g3.1, ?_⟩
      have g4 := g3.2
      exact hQ _ _ g4
    · have g3 := g1.2 c1_1
      refine ⟨fun c1_2 => ?_, fun c1_2 => ?_⟩
      · have g5 := g3.1 c1_2
        refine ⟨g5.1, ?_⟩
        have g6 := g5.2
        exact hQ _ _ g6
      · have g5 := g3.2 c1_2
        refine ⟨g5.1, ?_⟩
        have g7 := g5.2
        refine ⟨fun c12 => ?_, fun c12 => ?_⟩
        · have g8 := g7.1 c12
          refine ⟨g8.1, ?_⟩
          have g9 := g8.2
          refine ⟨g9.1, ?_⟩
          have g10 := g9.2
          refine ⟨g10.1, ?_⟩
          have g11 := g10.2
          exact hQ _ _ g11
        · have g8 := g7.2 c12
          exact hQ _ _ g8
set_option maxRecDepth 100000 in
theorem qm_Ga_figure (t_values : Nat → Int32) (t_sums : Nat → UInt64) (t_greatest : Nat → UInt64) (t_least : Nat → UInt64) (x1 : Int32) (x2 : Int32) {Q : UInt64 → Unit → Prop} (tgt : UInt64) (f0 : s_Ga_figure t_values t_sums t_greatest t_least x1 x2 = tgt) (hp : WP_Ga_figure t_values t_sums t_greatest t_least x1 x2 Q) : Q tgt () := by
  unfold WP_Ga_figure at hp
  unfold s_Ga_figure at f0
  by_cases c1_0 : x2 = (0 : Int32)
  · have f1 := Eq.trans (Eq.symm (if_pos c1_0)) f0
    have g1 := hp.1 c1_0
    have g2 := g1.2
    subst f1; exact g2
  · have f1 := Eq.trans (Eq.symm (if_neg c1_0)) f0
    have g1 := hp.2 c1_0
    by_cases c1_1 : x2 = (1 : Int32)
    · have f3 := Eq.trans (Eq.symm (if_pos c1_1)) f1
      have g3 := g1.1 c1_1
      have g4 := g3.2
      subst f3; exact g4
    · have f3 := Eq.trans (Eq.symm (if_neg c1_1)) f1
      have g3 := g1.2 c1_1
      by_cases c1_2 : x2 = (2 : Int32)
      · have f5 := Eq.trans (Eq.symm (if_pos c1_2)) f3
        have g5 := g3.1 c1_2
        have g6 := g5.2
        subst f5; exact g6
      · have f5 := Eq.trans (Eq.symm (if_neg c1_2)) f3
        have g5 := g3.2 c1_2
        have g7 := g5.2
        by_cases c12 : (t_values x1.toNatClampNeg) = 0
        · have f8 := Eq.trans (Eq.symm (if_pos c12)) f5
          have g8 := g7.2 c12
          subst f8; exact g8
        · have f8 := Eq.trans (Eq.symm (if_neg c12)) f5
          have g8 := g7.1 c12
          have g9 := g8.2
          have g10 := g9.2
          have g11 := g10.2
          subst f8; exact g11
theorem e_Ga_figure (t_values : Nat → Int32) (t_sums : Nat → UInt64) (t_greatest : Nat → UInt64) (t_least : Nat → UInt64) (x1 : Int32) (x2 : Int32) {Q : UInt64 → Unit → Prop} (hp : WP_Ga_figure t_values t_sums t_greatest t_least x1 x2 Q) : p_Ga_figure t_values t_sums t_greatest t_least x1 x2 ∧ Q (s_Ga_figure t_values t_sums t_greatest t_least x1 x2) () := ⟨pm_Ga_figure t_values t_sums t_greatest t_least x1 x2 (fun _ _ _ => trivial) hp, qm_Ga_figure t_values t_sums t_greatest t_least x1 x2 _ rfl hp⟩
set_option maxRecDepth 100000 in
theorem pm_Ru_clear (t_length : Int32) (t_actions : Int32) (t_site : Int32) (t_exit : Int32) (t_conditional : Int32) (t_there : Int32) (t_on : Int32) (t_failures : Int32) (t_meetings : Int32) {Q Q2 : (Int32 × Int32 × Int32 × Int32 × Int32 × Int32 × Int32 × Int32 × Int32) → Prop} (hQ : ∀ u, Q u → Q2 u) (hp : WP_Ru_clear t_length t_actions t_site t_exit t_conditional t_there t_on t_failures t_meetings Q) : WP_Ru_clear t_length t_actions t_site t_exit t_conditional t_there t_on t_failures t_meetings Q2 := by
  unfold WP_Ru_clear at hp ⊢
  exact hQ _ hp
set_option maxRecDepth 100000 in
theorem qm_Ru_clear (t_length : Int32) (t_actions : Int32) (t_site : Int32) (t_exit : Int32) (t_conditional : Int32) (t_there : Int32) (t_on : Int32) (t_failures : Int32) (t_meetings : Int32) {Q : (Int32 × Int32 × Int32 × Int32 × Int32 × Int32 × Int32 × Int32 × Int32) → Prop} (tgt : Int32 × Int32 × Int32 × Int32 × Int32 × Int32 × Int32 × Int32 × Int32) (f0 : s_Ru_clear t_length t_actions t_site t_exit t_conditional t_there t_on t_failures t_meetings = tgt) (hp : WP_Ru_clear t_length t_actions t_site t_exit t_conditional t_there t_on t_failures t_meetings Q) : Q tgt := by
  unfold WP_Ru_clear at hp
  unfold s_Ru_clear at f0
  subst f0; exact hp
theorem e_Ru_clear (t_length : Int32) (t_actions : Int32) (t_site : Int32) (t_exit : Int32) (t_conditional : Int32) (t_there : Int32) (t_on : Int32) (t_failures : Int32) (t_meetings : Int32) {Q : (Int32 × Int32 × Int32 × Int32 × Int32 × Int32 × Int32 × Int32 × Int32) → Prop} (hp : WP_Ru_clear t_length t_actions t_site t_exit t_conditional t_there t_on t_failures t_meetings Q) : Q (s_Ru_clear t_length t_actions t_site t_exit t_conditional t_there t_on t_failures t_meetings) := qm_Ru_clear t_length t_actions t_site t_exit t_conditional t_there t_on t_failures t_meetings _ rfl hp
set_option maxRecDepth 100000 in
theorem pm_Ru_add (t_length : Int32) (t_steps : Nat → Int32) (x1 : Int32) {Q Q2 : (Int32 × (Nat → Int32)) → Prop} (hQ : ∀ u, Q u → Q2 u) (hp : WP_Ru_add t_length t_steps x1 Q) : WP_Ru_add t_length t_steps x1 Q2 := by
  unfold WP_Ru_add at hp ⊢
  refine ⟨fun c1 => ?_, fun c1 => ?_⟩
  · have g1 := hp.1 c1
    exact hQ _ g1
  · have g1 := hp.2 c1
    refine ⟨g1.1, ?_⟩
    have g2 := g1.2
    exact hQ _ g2
set_option maxRecDepth 100000 in
theorem qm_Ru_add (t_length : Int32) (t_steps : Nat → Int32) (x1 : Int32) {Q : (Int32 × (Nat → Int32)) → Prop} (tgt : Int32 × (Nat → Int32)) (f0 : s_Ru_add t_length t_steps x1 = tgt) (hp : WP_Ru_add t_length t_steps x1 Q) : Q tgt := by
  unfold WP_Ru_add at hp
  unfold s_Ru_add at f0
  by_cases c1 : (48 : Int32) ≤ t_length
  · have f1 := Eq.trans (Eq.symm (if_pos c1)) f0
    have g1 := hp.1 c1
    subst f1; exact g1
  · have f1 := Eq.trans (Eq.symm (if_neg c1)) f0
    have g1 := hp.2 c1
    have g2 := g1.2
    subst f1; exact g2
theorem e_Ru_add (t_length : Int32) (t_steps : Nat → Int32) (x1 : Int32) {Q : (Int32 × (Nat → Int32)) → Prop} (hp : WP_Ru_add t_length t_steps x1 Q) : p_Ru_add t_length t_steps x1 ∧ Q (s_Ru_add t_length t_steps x1) := ⟨pm_Ru_add t_length t_steps x1 (fun _ _ => trivial) hp, qm_Ru_add t_length t_steps x1 _ rfl hp⟩
set_option maxRecDepth 100000 in
theorem pm_Ru_isDoneAt (t_site : Int32) (t_exit : Int32) (t_on : Int32) (x1 : Int32) (x2 : Int32) {Q Q2 : Int32 → Unit → Prop} (hQ : ∀ r u, Q r u → Q2 r u) (hp : WP_Ru_isDoneAt t_site t_exit t_on x1 x2 Q) : WP_Ru_isDoneAt t_site t_exit t_on x1 x2 Q2 := by
  unfold WP_Ru_isDoneAt at hp ⊢
  refine ⟨fun c1 => ?_, fun c1 => ?_⟩
  · have g1 := hp.1 c1
    exact hQ _ _ g1
  · have g1 := hp.2 c1
    refine ⟨fun c3 => ?_, fun c3 => ?_⟩
    · have g2 := g1.1 c3
      exact hQ _ _ g2
    · have g2 := g1.2 c3
      refine ⟨fun c5 => ?_, fun c5 => ?_⟩
      · have g3 := g2.1 c5
        exact hQ _ _ g3
      · have g3 := g2.2 c5
        exact hQ _ _ g3
set_option maxRecDepth 100000 in
theorem qm_Ru_isDoneAt (t_site : Int32) (t_exit : Int32) (t_on : Int32) (x1 : Int32) (x2 : Int32) {Q : Int32 → Unit → Prop} (tgt : Int32) (f0 : s_Ru_isDoneAt t_site t_exit t_on x1 x2 = tgt) (hp : WP_Ru_isDoneAt t_site t_exit t_on x1 x2 Q) : Q tgt () := by
  unfold WP_Ru_isDoneAt at hp
  unfold s_Ru_isDoneAt at f0
  by_cases c1 : t_on = 0
  · have f1 := Eq.trans (Eq.symm (if_pos c1)) f0
    have g1 := hp.1 c1
    subst f1; exact g1
  · have f1 := Eq.trans (Eq.symm (if_neg c1)) f0
    have g1 := hp.2 c1
    by_cases c3 : t_site = x1
    · have f2 := Eq.trans (Eq.symm (if_pos c3)) f1
      have g2 := g1.2 c3
      by_cases c5 : t_exit = x2
      · have f3 := Eq.trans (Eq.symm (if_pos c5)) f2
        have g3 := g2.2 c5
        subst f3; exact g3
      · have f3 := Eq.trans (Eq.symm (if_neg c5)) f2
        have g3 := g2.1 c5
        subst f3; exact g3
    · have f2 := Eq.trans (Eq.symm (if_neg c3)) f1
      have g2 := g1.1 c3
      subst f2; exact g2
theorem e_Ru_isDoneAt (t_site : Int32) (t_exit : Int32) (t_on : Int32) (x1 : Int32) (x2 : Int32) {Q : Int32 → Unit → Prop} (hp : WP_Ru_isDoneAt t_site t_exit t_on x1 x2 Q) : Q (s_Ru_isDoneAt t_site t_exit t_on x1 x2) () := qm_Ru_isDoneAt t_site t_exit t_on x1 x2 _ rfl hp
set_option maxRecDepth 100000 in
theorem pm_Te_byteAt (x0 : Int64) (x2 : Int32) {Q Q2 : Int32 → Unit → Prop} (hQ : ∀ r u, Q r u → Q2 r u) (hp : WP_Te_byteAt x0 x2 Q) : WP_Te_byteAt x0 x2 Q2 := by
  unfold WP_Te_byteAt at hp ⊢
  exact hQ _ _ hp
set_option maxRecDepth 100000 in
theorem qm_Te_byteAt (x0 : Int64) (x2 : Int32) {Q : Int32 → Unit → Prop} (tgt : Int32) (f0 : s_Te_byteAt x0 x2 = tgt) (hp : WP_Te_byteAt x0 x2 Q) : Q tgt () := by
  unfold WP_Te_byteAt at hp
  unfold s_Te_byteAt at f0
  subst f0; exact hp
theorem e_Te_byteAt (x0 : Int64) (x2 : Int32) {Q : Int32 → Unit → Prop} (hp : WP_Te_byteAt x0 x2 Q) : Q (s_Te_byteAt x0 x2) () := qm_Te_byteAt x0 x2 _ rfl hp
set_option maxRecDepth 100000 in
theorem pm_Te_levelOf (x0 : Int32) {Q Q2 : Int32 → Unit → Prop} (hQ : ∀ r u, Q r u → Q2 r u) (hp : WP_Te_levelOf x0 Q) : WP_Te_levelOf x0 Q2 := by
  unfold WP_Te_levelOf at hp ⊢
  refine ⟨fun c1_0 => ?_, fun c1_0 => ?_⟩
  · have g1 := hp.1 c1_0
    exact hQ _ _ g1
  · have g1 := hp.2 c1_0
    refine ⟨fun c1_1 => ?_, fun c1_1 => ?_⟩
    · have g2 := g1.1 c1_1
      exact hQ _ _ g2
    · have g2 := g1.2 c1_1
      refine ⟨fun c1_2 => ?_, fun c1_2 => ?_⟩
      · have g3 := g2.1 c1_2
        exact hQ _ _ g3
      · have g3 := g2.2 c1_2
        refine ⟨fun c1_3 => ?_, fun c1_3 => ?_⟩
        · have g4 := g3.1 c1_3
          exact hQ _ _ g4
        · have g4 := g3.2 c1_3
          refine ⟨fun c1_4 => ?_, fun c1_4 => ?_⟩
          · have g5 := g4.1 c1_4
            exact hQ _ _ g5
          · have g5 := g4.2 c1_4
            refine ⟨fun c1_5 => ?_, fun c1_5 => ?_⟩
            · have g6 := g5.1 c1_5
              exact hQ _ _ g6
            · have g6 := g5.2 c1_5
              refine ⟨fun c1_6 => ?_, fun c1_6 => ?_⟩
              · have g7 := g6.1 c1_6
                exact hQ _ _ g7
              · have g7 := g6.2 c1_6
                refine ⟨fun c1_7 => ?_, fun c1_7 => ?_⟩
                · have g8 := g7.1 c1_7
                  exact hQ _ _ g8
                · have g8 := g7.2 c1_7
                  refine ⟨fun c1_8 => ?_, fun c1_8 => ?_⟩
                  · have g9 := g8.1 c1_8
                    exact hQ _ _ g9
                  · have g9 := g8.2 c1_8
                    refine ⟨fun c1_9 => ?_, fun c1_9 => ?_⟩
                    · have g10 := g9.1 c1_9
                      exact hQ _ _ g10
                    · have g10 := g9.2 c1_9
                      refine ⟨fun c1_10 => ?_, fun c1_10 => ?_⟩
                      · have g11 := g10.1 c1_10
                        exact hQ _ _ g11
                      · have g11 := g10.2 c1_10
                        refine ⟨fun c1_11 => ?_, fun c1_11 => ?_⟩
                        · have g12 := g11.1 c1_11
                          exact hQ _ _ g12
                        · have g12 := g11.2 c1_11
                          refine ⟨fun c1_12 => ?_, fun c1_12 => ?_⟩
                          · have g13 := g12.1 c1_12
                            exact hQ _ _ g13
                          · have g13 := g12.2 c1_12
                            refine ⟨fun c1_13 => ?_, fun c1_13 => ?_⟩
                            · have g14 := g13.1 c1_13
                              exact hQ _ _ g14
                            · have g14 := g13.2 c1_13
                              refine ⟨fun c1_14 => ?_, fun c1_14 => ?_⟩
                              · have g15 := g14.1 c1_14
                                exact hQ _ _ g15
                              · have g15 := g14.2 c1_14
                                refine ⟨fun c1_15 => ?_, fun c1_15 => ?_⟩
                                · have g16 := g15.1 c1_15
                                  exact hQ _ _ g16
                                · have g16 := g15.2 c1_15
                                  refine ⟨fun c1_16 => ?_, fun c1_16 => ?_⟩
                                  · have g17 := g16.1 c1_16
                                    exact hQ _ _ g17
                                  · have g17 := g16.2 c1_16
                                    refine ⟨fun c1_17 => ?_, fun c1_17 => ?_⟩
                                    · have g18 := g17.1 c1_17
                                      exact hQ _ _ g18
                                    · have g18 := g17.2 c1_17
                                      refine ⟨fun c1_18 => ?_, fun c1_18 => ?_⟩
                                      · have g19 := g18.1 c1_18
                                        exact hQ _ _ g19
                                      · have g19 := g18.2 c1_18
                                        refine ⟨fun c1_19 => ?_, fun c1_19 => ?_⟩
                                        · have g20 := g19.1 c1_19
                                          exact hQ _ _ g20
                                        · have g20 := g19.2 c1_19
                                          refine ⟨fun c1_20 => ?_, fun c1_20 => ?_⟩
                                          · have g21 := g20.1 c1_20
                                            exact hQ _ _ g21
                                          · have g21 := g20.2 c1_20
                                            exact hQ _ _ g21
set_option maxRecDepth 100000 in
theorem qm_Te_levelOf (x0 : Int32) {Q : Int32 → Unit → Prop} (tgt : Int32) (f0 : s_Te_levelOf x0 = tgt) (hp : WP_Te_levelOf x0 Q) : Q tgt () := by
  unfold WP_Te_levelOf at hp
  unfold s_Te_levelOf at f0
  by_cases c1_0 : x0 = (42 : Int32)
  · have f1 := Eq.trans (Eq.symm (if_pos c1_0)) f0
    have g1 := hp.1 c1_0
    subst f1; exact g1
  · have f1 := Eq.trans (Eq.symm (if_neg c1_0)) f0
    have g1 := hp.2 c1_0
    by_cases c1_1 : x0 = (43 : Int32)
    · have f2 := Eq.trans (Eq.symm (if_pos c1_1)) f1
      have g2 := g1.1 c1_1
      subst f2; exact g2
    · have f2 := Eq.trans (Eq.symm (if_neg c1_1)) f1
      have g2 := g1.2 c1_1
      by_cases c1_2 : x0 = (44 : Int32)
      · have f3 := Eq.trans (Eq.symm (if_pos c1_2)) f2
        have g3 := g2.1 c1_2
        subst f3; exact g3
      · have f3 := Eq.trans (Eq.symm (if_neg c1_2)) f2
        have g3 := g2.2 c1_2
        by_cases c1_3 : x0 = (45 : Int32)
        · have f4 := Eq.trans (Eq.symm (if_pos c1_3)) f3
          have g4 := g3.1 c1_3
          subst f4; exact g4
        · have f4 := Eq.trans (Eq.symm (if_neg c1_3)) f3
          have g4 := g3.2 c1_3
          by_cases c1_4 : x0 = (46 : Int32)
          · have f5 := Eq.trans (Eq.symm (if_pos c1_4)) f4
            have g5 := g4.1 c1_4
            subst f5; exact g5
          · have f5 := Eq.trans (Eq.symm (if_neg c1_4)) f4
            have g5 := g4.2 c1_4
            by_cases c1_5 : x0 = (47 : Int32)
            · have f6 := Eq.trans (Eq.symm (if_pos c1_5)) f5
              have g6 := g5.1 c1_5
              subst f6; exact g6
            · have f6 := Eq.trans (Eq.symm (if_neg c1_5)) f5
              have g6 := g5.2 c1_5
              by_cases c1_6 : x0 = (48 : Int32)
              · have f7 := Eq.trans (Eq.symm (if_pos c1_6)) f6
                have g7 := g6.1 c1_6
                subst f7; exact g7
              · have f7 := Eq.trans (Eq.symm (if_neg c1_6)) f6
                have g7 := g6.2 c1_6
                by_cases c1_7 : x0 = (49 : Int32)
                · have f8 := Eq.trans (Eq.symm (if_pos c1_7)) f7
                  have g8 := g7.1 c1_7
                  subst f8; exact g8
                · have f8 := Eq.trans (Eq.symm (if_neg c1_7)) f7
                  have g8 := g7.2 c1_7
                  by_cases c1_8 : x0 = (50 : Int32)
                  · have f9 := Eq.trans (Eq.symm (if_pos c1_8)) f8
                    have g9 := g8.1 c1_8
                    subst f9; exact g9
                  · have f9 := Eq.trans (Eq.symm (if_neg c1_8)) f8
                    have g9 := g8.2 c1_8
                    by_cases c1_9 : x0 = (51 : Int32)
                    · have f10 := Eq.trans (Eq.symm (if_pos c1_9)) f9
                      have g10 := g9.1 c1_9
                      subst f10; exact g10
                    · have f10 := Eq.trans (Eq.symm (if_neg c1_9)) f9
                      have g10 := g9.2 c1_9
                      by_cases c1_10 : x0 = (52 : Int32)
                      · have f11 := Eq.trans (Eq.symm (if_pos c1_10)) f10
                        have g11 := g10.1 c1_10
                        subst f11; exact g11
                      · have f11 := Eq.trans (Eq.symm (if_neg c1_10)) f10
                        have g11 := g10.2 c1_10
                        by_cases c1_11 : x0 = (53 : Int32)
                        · have f12 := Eq.trans (Eq.symm (if_pos c1_11)) f11
                          have g12 := g11.1 c1_11
                          subst f12; exact g12
                        · have f12 := Eq.trans (Eq.symm (if_neg c1_11)) f11
                          have g12 := g11.2 c1_11
                          by_cases c1_12 : x0 = (54 : Int32)
                          · have f13 := Eq.trans (Eq.symm (if_pos c1_12)) f12
                            have g13 := g12.1 c1_12
                            subst f13; exact g13
                          · have f13 := Eq.trans (Eq.symm (if_neg c1_12)) f12
                            have g13 := g12.2 c1_12
                            by_cases c1_13 : x0 = (55 : Int32)
                            · have f14 := Eq.trans (Eq.symm (if_pos c1_13)) f13
                              have g14 := g13.1 c1_13
                              subst f14; exact g14
                            · have f14 := Eq.trans (Eq.symm (if_neg c1_13)) f13
                              have g14 := g13.2 c1_13
                              by_cases c1_14 : x0 = (56 : Int32)
                              · have f15 := Eq.trans (Eq.symm (if_pos c1_14)) f14
                                have g15 := g14.1 c1_14
                                subst f15; exact g15
                              · have f15 := Eq.trans (Eq.symm (if_neg c1_14)) f14
                                have g15 := g14.2 c1_14
                                by_cases c1_15 : x0 = (57 : Int32)
                                · have f16 := Eq.trans (Eq.symm (if_pos c1_15)) f15
                                  have g16 := g15.1 c1_15
                                  subst f16; exact g16
                                · have f16 := Eq.trans (Eq.symm (if_neg c1_15)) f15
                                  have g16 := g15.2 c1_15
                                  by_cases c1_16 : x0 = (58 : Int32)
                                  · have f17 := Eq.trans (Eq.symm (if_pos c1_16)) f16
                                    have g17 := g16.1 c1_16
                                    subst f17; exact g17
                                  · have f17 := Eq.trans (Eq.symm (if_neg c1_16)) f16
                                    have g17 := g16.2 c1_16
                                    by_cases c1_17 : x0 = (59 : Int32)
                                    · have f18 := Eq.trans (Eq.symm (if_pos c1_17)) f17
                                      have g18 := g17.1 c1_17
                                      subst f18; exact g18
                                    · have f18 := Eq.trans (Eq.symm (if_neg c1_17)) f17
                                      have g18 := g17.2 c1_17
                                      by_cases c1_18 : x0 = (60 : Int32)
                                      · have f19 := Eq.trans (Eq.symm (if_pos c1_18)) f18
                                        have g19 := g18.1 c1_18
                                        subst f19; exact g19
                                      · have f19 := Eq.trans (Eq.symm (if_neg c1_18)) f18
                                        have g19 := g18.2 c1_18
                                        by_cases c1_19 : x0 = (61 : Int32)
                                        · have f20 := Eq.trans (Eq.symm (if_pos c1_19)) f19
                                          have g20 := g19.1 c1_19
                                          subst f20; exact g20
                                        · have f20 := Eq.trans (Eq.symm (if_neg c1_19)) f19
                                          have g20 := g19.2 c1_19
                                          by_cases c1_20 : x0 = (62 : Int32)
                                          · have f21 := Eq.trans (Eq.symm (if_pos c1_20)) f20
                                            have g21 := g20.1 c1_20
                                            subst f21; exact g21
                                          · have f21 := Eq.trans (Eq.symm (if_neg c1_20)) f20
                                            have g21 := g20.2 c1_20
                                            subst f21; exact g21
theorem e_Te_levelOf (x0 : Int32) {Q : Int32 → Unit → Prop} (hp : WP_Te_levelOf x0 Q) : Q (s_Te_levelOf x0) () := qm_Te_levelOf x0 _ rfl hp
set_option maxRecDepth 100000 in
theorem pm_Te_isDigit (x0 : Int32) {Q Q2 : Int32 → Unit → Prop} (hQ : ∀ r u, Q r u → Q2 r u) (hp : WP_Te_isDigit x0 Q) : WP_Te_isDigit x0 Q2 := by
  unfold WP_Te_isDigit at hp ⊢
  refine ⟨fun c1 => ?_, fun c1 => ?_⟩
  · have g1 := hp.1 c1
    exact hQ _ _ g1
  · have g1 := hp.2 c1
    refine ⟨fun c3 => ?_, fun c3 => ?_⟩
    · have g2 := g1.1 c3
      exact hQ _ _ g2
    · have g2 := g1.2 c3
      exact hQ _ _ g2
set_option maxRecDepth 100000 in
theorem qm_Te_isDigit (x0 : Int32) {Q : Int32 → Unit → Prop} (tgt : Int32) (f0 : s_Te_isDigit x0 = tgt) (hp : WP_Te_isDigit x0 Q) : Q tgt () := by
  unfold WP_Te_isDigit at hp
  unfold s_Te_isDigit at f0
  by_cases c1 : x0 < (48 : Int32)
  · have f1 := Eq.trans (Eq.symm (if_pos c1)) f0
    have g1 := hp.1 c1
    subst f1; exact g1
  · have f1 := Eq.trans (Eq.symm (if_neg c1)) f0
    have g1 := hp.2 c1
    by_cases c3 : (57 : Int32) < x0
    · have f2 := Eq.trans (Eq.symm (if_pos c3)) f1
      have g2 := g1.1 c3
      subst f2; exact g2
    · have f2 := Eq.trans (Eq.symm (if_neg c3)) f1
      have g2 := g1.2 c3
      subst f2; exact g2
theorem e_Te_isDigit (x0 : Int32) {Q : Int32 → Unit → Prop} (hp : WP_Te_isDigit x0 Q) : Q (s_Te_isDigit x0) () := qm_Te_isDigit x0 _ rfl hp
set_option maxRecDepth 100000 in
theorem pm_Te_isName (x0 : Int32) {Q Q2 : Int32 → Unit → Prop} (hQ : ∀ r u, Q r u → Q2 r u) (hp : WP_Te_isName x0 Q) : WP_Te_isName x0 Q2 := by
  unfold WP_Te_isName at hp ⊢
  refine ⟨fun c1 => ?_, fun c1 => ?_⟩
  · have g1 := hp.1 c1
    refine ⟨fun c3 => ?_, fun c3 => ?_⟩
    · have g2 := g1.1 c3
      refine ⟨fun c5 => ?_, fun c5 => ?_⟩
      · have g3 := g2.1 c5
        exact hQ _ _ g3
      · have g3 := g2.2 c5
        refine ⟨fun c7 => ?_, fun c7 => ?_⟩
        · have g4 := g3.1 c7
          exact hQ _ _ g4
        · have g4 := g3.2 c7
          exact hQ _ _ g4
    · have g2 := g1.2 c3
      refine ⟨fun c9 => ?_, fun c9 => ?_⟩
      · have g5 := g2.1 c9
        exact hQ _ _ g5
      · have g5 := g2.2 c9
        refine ⟨fun c11 => ?_, fun c11 => ?_⟩
        · have g6 := g5.1 c11
          exact hQ _ _ g6
        · have g6 := g5.2 c11
          refine ⟨fun c13 => ?_, fun c13 => ?_⟩
          · have g7 := g6.1 c13
            exact hQ _ _ g7
          · have g7 := g6.2 c13
            exact hQ _ _ g7
  · have g1 := hp.2 c1
    refine ⟨fun c15 => ?_, fun c15 => ?_⟩
    · have g8 := g1.1 c15
      exact hQ _ _ g8
    · have g8 := g1.2 c15
      refine ⟨fun c17 => ?_, fun c17 => ?_⟩
      · have g9 := g8.1 c17
        refine ⟨fun c19 => ?_, fun c19 => ?_⟩
        · have g10 := g9.1 c19
          exact hQ _ _ g10
        · have g10 := g9.2 c19
          refine ⟨fun c21 => ?_, fun c21 => ?_⟩
          · have g11 := g10.1 c21
            exact hQ _ _ g11
          · have g11 := g10.2 c21
            exact hQ _ _ g11
      · have g9 := g8.2 c17
        refine ⟨fun c23 => ?_, fun c23 => ?_⟩
        · have g12 := g9.1 c23
          exact hQ _ _ g12
        · have g12 := g9.2 c23
          refine ⟨fun c25 => ?_, fun c25 => ?_⟩
          · have g13 := g12.1 c25
            exact hQ _ _ g13
          · have g13 := g12.2 c25
            refine ⟨fun c27 => ?_, fun c27 => ?_⟩
            · have g14 := g13.1 c27
              exact hQ _ _ g14
            · have g14 := g13.2 c27
              exact hQ _ _ g14
set_option maxRecDepth 100000 in
theorem qm_Te_isName (x0 : Int32) {Q : Int32 → Unit → Prop} (tgt : Int32) (f0 : s_Te_isName x0 = tgt) (hp : WP_Te_isName x0 Q) : Q tgt () := by
  unfold WP_Te_isName at hp
  unfold s_Te_isName at f0
  by_cases c1 : x0 < (97 : Int32)
  · have f1 := Eq.trans (Eq.symm (if_pos c1)) f0
    have g1 := hp.1 c1
    by_cases c3 : x0 < (117 : Int32)
    · have f2 := Eq.trans (Eq.symm (if_pos c3)) f1
      have g2 := g1.1 c3
      by_cases c5 : x0 = (116 : Int32)
      · have f3 := Eq.trans (Eq.symm (if_pos c5)) f2
        have g3 := g2.1 c5
        subst f3; exact g3
      · have f3 := Eq.trans (Eq.symm (if_neg c5)) f2
        have g3 := g2.2 c5
        by_cases c7 : x0 = (107 : Int32)
        · have f4 := Eq.trans (Eq.symm (if_pos c7)) f3
          have g4 := g3.2 c7
          subst f4; exact g4
        · have f4 := Eq.trans (Eq.symm (if_neg c7)) f3
          have g4 := g3.1 c7
          subst f4; exact g4
    · have f2 := Eq.trans (Eq.symm (if_neg c3)) f1
      have g2 := g1.2 c3
      by_cases c9 : x0 ≤ (122 : Int32)
      · have f5 := Eq.trans (Eq.symm (if_pos c9)) f2
        have g5 := g2.1 c9
        subst f5; exact g5
      · have f5 := Eq.trans (Eq.symm (if_neg c9)) f2
        have g5 := g2.2 c9
        by_cases c11 : x0 = (116 : Int32)
        · have f6 := Eq.trans (Eq.symm (if_pos c11)) f5
          have g6 := g5.1 c11
          subst f6; exact g6
        · have f6 := Eq.trans (Eq.symm (if_neg c11)) f5
          have g6 := g5.2 c11
          by_cases c13 : x0 = (107 : Int32)
          · have f7 := Eq.trans (Eq.symm (if_pos c13)) f6
            have g7 := g6.2 c13
            subst f7; exact g7
          · have f7 := Eq.trans (Eq.symm (if_neg c13)) f6
            have g7 := g6.1 c13
            subst f7; exact g7
  · have f1 := Eq.trans (Eq.symm (if_neg c1)) f0
    have g1 := hp.2 c1
    by_cases c15 : x0 ≤ (99 : Int32)
    · have f8 := Eq.trans (Eq.symm (if_pos c15)) f1
      have g8 := g1.1 c15
      subst f8; exact g8
    · have f8 := Eq.trans (Eq.symm (if_neg c15)) f1
      have g8 := g1.2 c15
      by_cases c17 : x0 < (117 : Int32)
      · have f9 := Eq.trans (Eq.symm (if_pos c17)) f8
        have g9 := g8.1 c17
        by_cases c19 : x0 = (116 : Int32)
        · have f10 := Eq.trans (Eq.symm (if_pos c19)) f9
          have g10 := g9.1 c19
          subst f10; exact g10
        · have f10 := Eq.trans (Eq.symm (if_neg c19)) f9
          have g10 := g9.2 c19
          by_cases c21 : x0 = (107 : Int32)
          · have f11 := Eq.trans (Eq.symm (if_pos c21)) f10
            have g11 := g10.2 c21
            subst f11; exact g11
          · have f11 := Eq.trans (Eq.symm (if_neg c21)) f10
            have g11 := g10.1 c21
            subst f11; exact g11
      · have f9 := Eq.trans (Eq.symm (if_neg c17)) f8
        have g9 := g8.2 c17
        by_cases c23 : x0 ≤ (122 : Int32)
        · have f12 := Eq.trans (Eq.symm (if_pos c23)) f9
          have g12 := g9.1 c23
          subst f12; exact g12
        · have f12 := Eq.trans (Eq.symm (if_neg c23)) f9
          have g12 := g9.2 c23
          by_cases c25 : x0 = (116 : Int32)
          · have f13 := Eq.trans (Eq.symm (if_pos c25)) f12
            have g13 := g12.1 c25
            subst f13; exact g13
          · have f13 := Eq.trans (Eq.symm (if_neg c25)) f12
            have g13 := g12.2 c25
            by_cases c27 : x0 = (107 : Int32)
            · have f14 := Eq.trans (Eq.symm (if_pos c27)) f13
              have g14 := g13.2 c27
              subst f14; exact g14
            · have f14 := Eq.trans (Eq.symm (if_neg c27)) f13
              have g14 := g13.1 c27
              subst f14; exact g14
theorem e_Te_isName (x0 : Int32) {Q : Int32 → Unit → Prop} (hp : WP_Te_isName x0 Q) : Q (s_Te_isName x0) () := qm_Te_isName x0 _ rfl hp
set_option maxRecDepth 100000 in
theorem pm_Te_next (t_length : Int32) (t_at : Int32) (t_characters : Nat → Int32) {Q Q2 : Int32 → Unit → Prop} (hQ : ∀ r u, Q r u → Q2 r u) (hp : WP_Te_next t_length t_at t_characters Q) : WP_Te_next t_length t_at t_characters Q2 := by
  unfold WP_Te_next at hp ⊢
  refine ⟨fun c1 => ?_, fun c1 => ?_⟩
  · have g1 := hp.1 c1
    exact hQ _ _ g1
  · have g1 := hp.2 c1
    refine ⟨fun c3 => ?_, fun c3 => ?_⟩
    · have g2 := g1.1 c3
      exact hQ _ _ g2
    · have g2 := g1.2 c3
      refine ⟨g2.1, ?_⟩
      have g3 := g2.2
      refine ⟨g3.1, ?_⟩
      have g4 := g3.2
      exact hQ _ _ g4
set_option maxRecDepth 100000 in
theorem qm_Te_next (t_length : Int32) (t_at : Int32) (t_characters : Nat → Int32) {Q : Int32 → Unit → Prop} (tgt : Int32) (f0 : s_Te_next t_length t_at t_characters = tgt) (hp : WP_Te_next t_length t_at t_characters Q) : Q tgt () := by
  unfold WP_Te_next at hp
  unfold s_Te_next at f0
  by_cases c1 : t_length ≤ t_at
  · have f1 := Eq.trans (Eq.symm (if_pos c1)) f0
    have g1 := hp.1 c1
    subst f1; exact g1
  · have f1 := Eq.trans (Eq.symm (if_neg c1)) f0
    have g1 := hp.2 c1
    by_cases c3 : (48 : Int32) ≤ t_at
    · have f2 := Eq.trans (Eq.symm (if_pos c3)) f1
      have g2 := g1.1 c3
      subst f2; exact g2
    · have f2 := Eq.trans (Eq.symm (if_neg c3)) f1
      have g2 := g1.2 c3
      have g3 := g2.2
      have g4 := g3.2
      subst f2; exact g4
theorem e_Te_next (t_length : Int32) (t_at : Int32) (t_characters : Nat → Int32) {Q : Int32 → Unit → Prop} (hp : WP_Te_next t_length t_at t_characters Q) : p_Te_next t_length t_at t_characters ∧ Q (s_Te_next t_length t_at t_characters) () := ⟨pm_Te_next t_length t_at t_characters (fun _ _ _ => trivial) hp, qm_Te_next t_length t_at t_characters _ rfl hp⟩
set_option maxRecDepth 100000 in
theorem pm_Te_pass (t_length : Int32) (t_at : Int32) (t_characters : Nat → Int32) (x1 : Int32) {Q Q2 : Int32 → Int32 → Prop} (hQ : ∀ r u, Q r u → Q2 r u) (hp : WP_Te_pass t_length t_at t_characters x1 Q) : WP_Te_pass t_length t_at t_characters x1 Q2 := by
  unfold WP_Te_pass at hp ⊢
  refine ⟨hp.1, ?_⟩
  intro r1 e3
  have g1 := hp.2 r1 e3
  refine ⟨fun c5 => ?_, fun c5 => ?_⟩
  · have g2 := g1.1 c5
    exact hQ _ _ g2
  · have g2 := g1.2 c5
    exact hQ _ _ g2
set_option maxRecDepth 100000 in
theorem qm_Te_pass (t_length : Int32) (t_at : Int32) (t_characters : Nat → Int32) (x1 : Int32) {Q : Int32 → Int32 → Prop} (tgt : Int32 × Int32) (f0 : s_Te_pass t_length t_at t_characters x1 = tgt) (hp : WP_Te_pass t_length t_at t_characters x1 Q) : Q tgt.1 tgt.2 := by
  unfold WP_Te_pass at hp
  unfold s_Te_pass at f0
  obtain ⟨r1, e3⟩ := zex1 (s_Te_next t_length t_at t_characters)
  have g1 := hp.2 r1 e3
  have f1 := Eq.trans (Eq.symm (zl1_eq e3)) f0
  by_cases c5 : r1 = x1
  · have f2 := Eq.trans (Eq.symm (if_pos c5)) f1
    have g2 := g1.1 c5
    subst f2; exact g2
  · have f2 := Eq.trans (Eq.symm (if_neg c5)) f1
    have g2 := g1.2 c5
    subst f2; exact g2
theorem e_Te_pass (t_length : Int32) (t_at : Int32) (t_characters : Nat → Int32) (x1 : Int32) {Q : Int32 → Int32 → Prop} (hp : WP_Te_pass t_length t_at t_characters x1 Q) : p_Te_pass t_length t_at t_characters x1 ∧ Q (s_Te_pass t_length t_at t_characters x1).1 (s_Te_pass t_length t_at t_characters x1).2 := ⟨pm_Te_pass t_length t_at t_characters x1 (fun _ _ _ => trivial) hp, qm_Te_pass t_length t_at t_characters x1 _ rfl hp⟩
set_option maxRecDepth 100000 in
theorem pm_Te_empty (t_length : Int32) {Q Q2 : Int32 → Prop} (hQ : ∀ u, Q u → Q2 u) (hp : WP_Te_empty t_length Q) : WP_Te_empty t_length Q2 := by
  unfold WP_Te_empty at hp ⊢
  exact hQ _ hp
set_option maxRecDepth 100000 in
theorem qm_Te_empty (t_length : Int32) {Q : Int32 → Prop} (tgt : Int32) (f0 : s_Te_empty t_length = tgt) (hp : WP_Te_empty t_length Q) : Q tgt := by
  unfold WP_Te_empty at hp
  unfold s_Te_empty at f0
  subst f0; exact hp
theorem e_Te_empty (t_length : Int32) {Q : Int32 → Prop} (hp : WP_Te_empty t_length Q) : Q (s_Te_empty t_length) := qm_Te_empty t_length _ rfl hp
set_option maxRecDepth 100000 in
theorem pm_Te_mayHold_L3 {Q Q2 : Int32 → Unit → Prop} (hQ : ∀ r u, Q r u → Q2 r u) : ∀ (n : Nat) (y1 : Int64) (y3 : Int32), WP_Te_mayHold_L3 n y1 y3 Q → WP_Te_mayHold_L3 n y1 y3 Q2 := by
  intro n
  induction n with
  | zero => intros; contradiction
  | succ n ih =>
    intro y1 y3 hp
    unfold WP_Te_mayHold_L3 at hp ⊢
    refine ⟨fun c1 => ?_, fun c1 => ?_⟩
    · have g1 := hp.1 c1
      exact hQ _ _ g1
    · have g1 := hp.2 c1
      intro r3 e5
      have g2 := g1 r3 e5
      refine ⟨fun c7 => ?_, fun c7 => ?_⟩
      · have g3 := g2.1 c7
        exact ih _ _ g3
      · have g3 := g2.2 c7
        refine ⟨fun c9 => ?_, fun c9 => ?_⟩
        · have g4 := g3.1 c9
          exact hQ _ _ g4
        · have g4 := g3.2 c9
          refine ⟨fun c11 => ?_, fun c11 => ?_⟩
          · have g5 := g4.1 c11
            exact ih _ _ g5
          · have g5 := g4.2 c11
            exact hQ _ _ g5
set_option maxRecDepth 100000 in
theorem qm_Te_mayHold_L3 {Q : Int32 → Unit → Prop} : ∀ (n : Nat) (y1 : Int64) (y3 : Int32) (tgt : Int32), s_Te_mayHold_L3 n y1 y3 = tgt → WP_Te_mayHold_L3 n y1 y3 Q → Q tgt () := by
  intro n
  induction n with
  | zero => intros; contradiction
  | succ n ih =>
    intro y1 y3 tgt f0 hp
    unfold WP_Te_mayHold_L3 at hp
    unfold s_Te_mayHold_L3 at f0
    by_cases c1 : y3 < 0
    · have f1 := Eq.trans (Eq.symm (if_pos c1)) f0
      have g1 := hp.1 c1
      subst f1; exact g1
    · have f1 := Eq.trans (Eq.symm (if_neg c1)) f0
      have g1 := hp.2 c1
      obtain ⟨r3, e5⟩ := zex1 (s_Te_byteAt y1 y3)
      have g2 := g1 r3 e5
      have f2 := Eq.trans (Eq.symm (zl1_eq e5)) f1
      by_cases c7 : r3 = 0
      · have f3 := Eq.trans (Eq.symm (if_pos c7)) f2
        have g3 := g2.1 c7
        exact ih _ _ _ f3 g3
      · have f3 := Eq.trans (Eq.symm (if_neg c7)) f2
        have g3 := g2.2 c7
        by_cases c9 : r3 < (33 : Int32)
        · have f4 := Eq.trans (Eq.symm (if_pos c9)) f3
          have g4 := g3.1 c9
          subst f4; exact g4
        · have f4 := Eq.trans (Eq.symm (if_neg c9)) f3
          have g4 := g3.2 c9
          by_cases c11 : r3 ≤ (126 : Int32)
          · have f5 := Eq.trans (Eq.symm (if_pos c11)) f4
            have g5 := g4.1 c11
            exact ih _ _ _ f5 g5
          · have f5 := Eq.trans (Eq.symm (if_neg c11)) f4
            have g5 := g4.2 c11
            subst f5; exact g5
set_option maxRecDepth 100000 in
theorem pm_Te_mayHold (x1 : Int64) {Q Q2 : Int32 → Unit → Prop} (hQ : ∀ r u, Q r u → Q2 r u) (hp : WP_Te_mayHold x1 Q) : WP_Te_mayHold x1 Q2 := by
  unfold WP_Te_mayHold at hp ⊢
  exact pm_Te_mayHold_L3 hQ _ _ _ hp
set_option maxRecDepth 100000 in
theorem qm_Te_mayHold (x1 : Int64) {Q : Int32 → Unit → Prop} (tgt : Int32) (f0 : s_Te_mayHold x1 = tgt) (hp : WP_Te_mayHold x1 Q) : Q tgt () := by
  unfold WP_Te_mayHold at hp
  unfold s_Te_mayHold at f0
  exact qm_Te_mayHold_L3 _ _ _ _ f0 hp
theorem e_Te_mayHold (x1 : Int64) {Q : Int32 → Unit → Prop} (hp : WP_Te_mayHold x1 Q) : p_Te_mayHold x1 ∧ Q (s_Te_mayHold x1) () := ⟨pm_Te_mayHold x1 (fun _ _ _ => trivial) hp, qm_Te_mayHold x1 _ rfl hp⟩
set_option maxRecDepth 100000 in
theorem pm_Te_hasRoomFor_L6 {Q Q2 : Int32 → Unit → Prop} (hQ : ∀ r u, Q r u → Q2 r u) : ∀ (n : Nat) (y1 : Int64) (y3 : Int32) (y4 : Int32) (t_length : Int32), WP_Te_hasRoomFor_L6 n y1 y3 y4 t_length Q → WP_Te_hasRoomFor_L6 n y1 y3 y4 t_length Q2 := by
  intro n
  induction n with
  | zero => intros; contradiction
  | succ n ih =>
    intro y1 y3 y4 t_length hp
    unfold WP_Te_hasRoomFor_L6 at hp ⊢
    refine ⟨fun c1 => ?_, fun c1 => ?_⟩
    · have g1 := hp.1 c1
      refine ⟨fun c3 => ?_, fun c3 => ?_⟩
      · have g2 := g1.1 c3
        exact hQ _ _ g2
      · have g2 := g1.2 c3
        exact hQ _ _ g2
    · have g1 := hp.2 c1
      intro r5 e7
      have g3 := g1 r5 e7
      refine ⟨fun c9 => ?_, fun c9 => ?_⟩
      · have g4 := g3.1 c9
        exact ih _ _ _ _ g4
      · have g4 := g3.2 c9
        exact ih _ _ _ _ g4
set_option maxRecDepth 100000 in
theorem qm_Te_hasRoomFor_L6 {Q : Int32 → Unit → Prop} : ∀ (n : Nat) (y1 : Int64) (y3 : Int32) (y4 : Int32) (t_length : Int32) (tgt : Int32), s_Te_hasRoomFor_L6 n y1 y3 y4 t_length = tgt → WP_Te_hasRoomFor_L6 n y1 y3 y4 t_length Q → Q tgt () := by
  intro n
  induction n with
  | zero => intros; contradiction
  | succ n ih =>
    intro y1 y3 y4 t_length tgt f0 hp
    unfold WP_Te_hasRoomFor_L6 at hp
    unfold s_Te_hasRoomFor_L6 at f0
    by_cases c1 : y4 < 0
    · have f1 := Eq.trans (Eq.symm (if_pos c1)) f0
      have g1 := hp.1 c1
      by_cases c3 : (48 : Int32) < (t_length + y3)
      · have f2 := Eq.trans (Eq.symm (if_pos c3)) f1
        have g2 := g1.1 c3
        subst f2; exact g2
      · have f2 := Eq.trans (Eq.symm (if_neg c3)) f1
        have g2 := g1.2 c3
        subst f2; exact g2
    · have f1 := Eq.trans (Eq.symm (if_neg c1)) f0
      have g1 := hp.2 c1
      obtain ⟨r5, e7⟩ := zex1 (s_Te_byteAt y1 y4)
      have g3 := g1 r5 e7
      have f3 := Eq.trans (Eq.symm (zl1_eq e7)) f1
      by_cases c9 : r5 = 0
      · have f4 := Eq.trans (Eq.symm (if_pos c9)) f3
        have g4 := g3.1 c9
        exact ih _ _ _ _ _ f4 g4
      · have f4 := Eq.trans (Eq.symm (if_neg c9)) f3
        have g4 := g3.2 c9
        exact ih _ _ _ _ _ f4 g4
set_option maxRecDepth 100000 in
theorem pm_Te_hasRoomFor (t_length : Int32) (x1 : Int64) {Q Q2 : Int32 → Unit → Prop} (hQ : ∀ r u, Q r u → Q2 r u) (hp : WP_Te_hasRoomFor t_length x1 Q) : WP_Te_hasRoomFor t_length x1 Q2 := by
  unfold WP_Te_hasRoomFor at hp ⊢
  exact pm_Te_hasRoomFor_L6 hQ _ _ _ _ _ hp
set_option maxRecDepth 100000 in
theorem qm_Te_hasRoomFor (t_length : Int32) (x1 : Int64) {Q : Int32 → Unit → Prop} (tgt : Int32) (f0 : s_Te_hasRoomFor t_length x1 = tgt) (hp : WP_Te_hasRoomFor t_length x1 Q) : Q tgt () := by
  unfold WP_Te_hasRoomFor at hp
  unfold s_Te_hasRoomFor at f0
  exact qm_Te_hasRoomFor_L6 _ _ _ _ _ _ f0 hp
theorem e_Te_hasRoomFor (t_length : Int32) (x1 : Int64) {Q : Int32 → Unit → Prop} (hp : WP_Te_hasRoomFor t_length x1 Q) : p_Te_hasRoomFor t_length x1 ∧ Q (s_Te_hasRoomFor t_length x1) () := ⟨pm_Te_hasRoomFor t_length x1 (fun _ _ _ => trivial) hp, qm_Te_hasRoomFor t_length x1 _ rfl hp⟩
set_option maxRecDepth 100000 in
theorem pm_Te_add_L3 {Q Q2 : (Int32 × (Nat → Int32)) → Prop} (hQ : ∀ u, Q u → Q2 u) : ∀ (n : Nat) (y1 : Int64) (y3 : Int32) (t_length : Int32) (t_characters : Nat → Int32), WP_Te_add_L3 n y1 y3 t_length t_characters Q → WP_Te_add_L3 n y1 y3 t_length t_characters Q2 := by
  intro n
  induction n with
  | zero => intros; contradiction
  | succ n ih =>
    intro y1 y3 t_length t_characters hp
    unfold WP_Te_add_L3 at hp ⊢
    refine ⟨fun c1 => ?_, fun c1 => ?_⟩
    · have g1 := hp.1 c1
      exact hQ _ g1
    · have g1 := hp.2 c1
      intro r3 e5
      have g2 := g1 r3 e5
      refine ⟨fun c7 => ?_, fun c7 => ?_⟩
      · have g3 := g2.1 c7
        exact ih _ _ _ _ g3
      · have g3 := g2.2 c7
        refine ⟨fun c9 => ?_, fun c9 => ?_⟩
        · have g4 := g3.1 c9
          exact ih _ _ _ _ g4
        · have g4 := g3.2 c9
          refine ⟨g4.1, ?_⟩
          have g5 := g4.2
          exact ih _ _ _ _ g5
set_option maxRecDepth 100000 in
theorem qm_Te_add_L3 {Q : (Int32 × (Nat → Int32)) → Prop} : ∀ (n : Nat) (y1 : Int64) (y3 : Int32) (t_length : Int32) (t_characters : Nat → Int32) (tgt : Int32 × (Nat → Int32)), s_Te_add_L3 n y1 y3 t_length t_characters = tgt → WP_Te_add_L3 n y1 y3 t_length t_characters Q → Q tgt := by
  intro n
  induction n with
  | zero => intros; contradiction
  | succ n ih =>
    intro y1 y3 t_length t_characters tgt f0 hp
    unfold WP_Te_add_L3 at hp
    unfold s_Te_add_L3 at f0
    by_cases c1 : y3 < 0
    · have f1 := Eq.trans (Eq.symm (if_pos c1)) f0
      have g1 := hp.1 c1
      subst f1; exact g1
    · have f1 := Eq.trans (Eq.symm (if_neg c1)) f0
      have g1 := hp.2 c1
      obtain ⟨r3, e5⟩ := zex1 (s_Te_byteAt y1 y3)
      have g2 := g1 r3 e5
      have f2 := Eq.trans (Eq.symm (zl1_eq e5)) f1
      by_cases c7 : r3 = 0
      · have f3 := Eq.trans (Eq.symm (if_pos c7)) f2
        have g3 := g2.1 c7
        exact ih _ _ _ _ _ f3 g3
      · have f3 := Eq.trans (Eq.symm (if_neg c7)) f2
        have g3 := g2.2 c7
        by_cases c9 : (48 : Int32) ≤ t_length
        · have f4 := Eq.trans (Eq.symm (if_pos c9)) f3
          have g4 := g3.1 c9
          exact ih _ _ _ _ _ f4 g4
        · have f4 := Eq.trans (Eq.symm (if_neg c9)) f3
          have g4 := g3.2 c9
          have g5 := g4.2
          exact ih _ _ _ _ _ f4 g5
set_option maxRecDepth 100000 in
theorem pm_Te_add (t_length : Int32) (t_characters : Nat → Int32) (x1 : Int64) {Q Q2 : (Int32 × (Nat → Int32)) → Prop} (hQ : ∀ u, Q u → Q2 u) (hp : WP_Te_add t_length t_characters x1 Q) : WP_Te_add t_length t_characters x1 Q2 := by
  unfold WP_Te_add at hp ⊢
  exact pm_Te_add_L3 hQ _ _ _ _ _ hp
set_option maxRecDepth 100000 in
theorem qm_Te_add (t_length : Int32) (t_characters : Nat → Int32) (x1 : Int64) {Q : (Int32 × (Nat → Int32)) → Prop} (tgt : Int32 × (Nat → Int32)) (f0 : s_Te_add t_length t_characters x1 = tgt) (hp : WP_Te_add t_length t_characters x1 Q) : Q tgt := by
  unfold WP_Te_add at hp
  unfold s_Te_add at f0
  exact qm_Te_add_L3 _ _ _ _ _ _ f0 hp
theorem e_Te_add (t_length : Int32) (t_characters : Nat → Int32) (x1 : Int64) {Q : (Int32 × (Nat → Int32)) → Prop} (hp : WP_Te_add t_length t_characters x1 Q) : p_Te_add t_length t_characters x1 ∧ Q (s_Te_add t_length t_characters x1) := ⟨pm_Te_add t_length t_characters x1 (fun _ _ => trivial) hp, qm_Te_add t_length t_characters x1 _ rfl hp⟩
set_option maxRecDepth 100000 in
theorem pm_Te_readNumber_L4 {Q Q2 : (Int32 × Int32 × (Nat → Int32)) → Prop} (hQ : ∀ u, Q u → Q2 u) : ∀ (n : Nat) (y1 : Int32) (y2 : Int32) (t_length : Int32) (t_at : Int32) (t_characters : Nat → Int32) (t_draft_length : Int32) (t_draft_steps : Nat → Int32), WP_Te_readNumber_L4 n y1 y2 t_length t_at t_characters t_draft_length t_draft_steps Q → WP_Te_readNumber_L4 n y1 y2 t_length t_at t_characters t_draft_length t_draft_steps Q2 := by
  intro n
  induction n with
  | zero => intros; contradiction
  | succ n ih =>
    intro y1 y2 t_length t_at t_characters t_draft_length t_draft_steps hp
    unfold WP_Te_readNumber_L4 at hp ⊢
    refine ⟨fun c1 => ?_, fun c1 => ?_⟩
    · have g1 := hp.1 c1
      refine ⟨g1.1, ?_⟩
      intro m6 m7 e5
      have g2 := g1.2 m6 m7 e5
      exact hQ _ g2
    · have g1 := hp.2 c1
      refine ⟨g1.1, ?_⟩
      intro r9 e11
      have g3 := g1.2 r9 e11
      intro r13 e15
      have g4 := g3 r13 e15
      refine ⟨fun c17 => ?_, fun c17 => ?_⟩
      · have g5 := g4.1 c17
        refine ⟨g5.1, ?_⟩
        intro m22 m23 e21
        have g6 := g5.2 m22 m23 e21
        exact hQ _ g6
      · have g5 := g4.2 c17
        refine ⟨g5.1, ?_⟩
        intro r25 e27
        have g7 := g5.2 r25 e27
        exact ih _ _ _ _ _ _ _ g7
set_option maxRecDepth 100000 in
theorem qm_Te_readNumber_L4 {Q : (Int32 × Int32 × (Nat → Int32)) → Prop} : ∀ (n : Nat) (y1 : Int32) (y2 : Int32) (t_length : Int32) (t_at : Int32) (t_characters : Nat → Int32) (t_draft_length : Int32) (t_draft_steps : Nat → Int32) (tgt : Int32 × Int32 × (Nat → Int32)), s_Te_readNumber_L4 n y1 y2 t_length t_at t_characters t_draft_length t_draft_steps = tgt → WP_Te_readNumber_L4 n y1 y2 t_length t_at t_characters t_draft_length t_draft_steps Q → Q tgt := by
  intro n
  induction n with
  | zero => intros; contradiction
  | succ n ih =>
    intro y1 y2 t_length t_at t_characters t_draft_length t_draft_steps tgt f0 hp
    unfold WP_Te_readNumber_L4 at hp
    unfold s_Te_readNumber_L4 at f0
    by_cases c1 : (3 : Int32) ≤ y2
    · have f1 := Eq.trans (Eq.symm (if_pos c1)) f0
      have g1 := hp.1 c1
      obtain ⟨m6, m7, e5⟩ := zex2 (s_Ru_add t_draft_length t_draft_steps ((256 : Int32) + y1))
      have g2 := g1.2 m6 m7 e5
      have f2 := Eq.trans (Eq.symm (zl2_eq e5)) f1
      subst f2; exact g2
    · have f1 := Eq.trans (Eq.symm (if_neg c1)) f0
      have g1 := hp.2 c1
      obtain ⟨r9, e11⟩ := zex1 (s_Te_next t_length t_at t_characters)
      have g3 := g1.2 r9 e11
      have f3 := Eq.trans (Eq.symm (zl1_eq e11)) f1
      obtain ⟨r13, e15⟩ := zex1 (s_Te_isDigit r9)
      have g4 := g3 r13 e15
      have f4 := Eq.trans (Eq.symm (zl1_eq e15)) f3
      by_cases c17 : r13 = 0
      · have f5 := Eq.trans (Eq.symm (if_pos c17)) f4
        have g5 := g4.1 c17
        obtain ⟨m22, m23, e21⟩ := zex2 (s_Ru_add t_draft_length t_draft_steps ((256 : Int32) + y1))
        have g6 := g5.2 m22 m23 e21
        have f6 := Eq.trans (Eq.symm (zl2_eq e21)) f5
        subst f6; exact g6
      · have f5 := Eq.trans (Eq.symm (if_neg c17)) f4
        have g5 := g4.2 c17
        obtain ⟨r25, e27⟩ := zex1 (s_Te_next t_length t_at t_characters)
        have g7 := g5.2 r25 e27
        have f7 := Eq.trans (Eq.symm (zl1_eq e27)) f5
        exact ih _ _ _ _ _ _ _ _ f7 g7
set_option maxRecDepth 100000 in
theorem pm_Te_readNumber (t_length : Int32) (t_at : Int32) (t_characters : Nat → Int32) (t_draft_length : Int32) (t_draft_steps : Nat → Int32) {Q Q2 : (Int32 × Int32 × (Nat → Int32)) → Prop} (hQ : ∀ u, Q u → Q2 u) (hp : WP_Te_readNumber t_length t_at t_characters t_draft_length t_draft_steps Q) : WP_Te_readNumber t_length t_at t_characters t_draft_length t_draft_steps Q2 := by
  unfold WP_Te_readNumber at hp ⊢
  exact pm_Te_readNumber_L4 hQ _ _ _ _ _ _ _ _ hp
set_option maxRecDepth 100000 in
theorem qm_Te_readNumber (t_length : Int32) (t_at : Int32) (t_characters : Nat → Int32) (t_draft_length : Int32) (t_draft_steps : Nat → Int32) {Q : (Int32 × Int32 × (Nat → Int32)) → Prop} (tgt : Int32 × Int32 × (Nat → Int32)) (f0 : s_Te_readNumber t_length t_at t_characters t_draft_length t_draft_steps = tgt) (hp : WP_Te_readNumber t_length t_at t_characters t_draft_length t_draft_steps Q) : Q tgt := by
  unfold WP_Te_readNumber at hp
  unfold s_Te_readNumber at f0
  exact qm_Te_readNumber_L4 _ _ _ _ _ _ _ _ _ f0 hp
theorem e_Te_readNumber (t_length : Int32) (t_at : Int32) (t_characters : Nat → Int32) (t_draft_length : Int32) (t_draft_steps : Nat → Int32) {Q : (Int32 × Int32 × (Nat → Int32)) → Prop} (hp : WP_Te_readNumber t_length t_at t_characters t_draft_length t_draft_steps Q) : p_Te_readNumber t_length t_at t_characters t_draft_length t_draft_steps ∧ Q (s_Te_readNumber t_length t_at t_characters t_draft_length t_draft_steps) := ⟨pm_Te_readNumber t_length t_at t_characters t_draft_length t_draft_steps (fun _ _ => trivial) hp, qm_Te_readNumber t_length t_at t_characters t_draft_length t_draft_steps _ rfl hp⟩
set_option maxRecDepth 100000 in
theorem pm_Rn_slotOf (x0 : Int32) (x1 : Int32) {Q Q2 : Int32 → Unit → Prop} (hQ : ∀ r u, Q r u → Q2 r u) (hp : WP_Rn_slotOf x0 x1 Q) : WP_Rn_slotOf x0 x1 Q2 := by
  unfold WP_Rn_slotOf at hp ⊢
  refine ⟨fun c1 => ?_, fun c1 => ?_⟩
  · have g1 := hp.1 c1
    exact hQ _ _ g1
  · have g1 := hp.2 c1
    exact hQ _ _ g1
set_option maxRecDepth 100000 in
theorem qm_Rn_slotOf (x0 : Int32) (x1 : Int32) {Q : Int32 → Unit → Prop} (tgt : Int32) (f0 : s_Rn_slotOf x0 x1 = tgt) (hp : WP_Rn_slotOf x0 x1 Q) : Q tgt () := by
  unfold WP_Rn_slotOf at hp
  unfold s_Rn_slotOf at f0
  by_cases c1 : (3 : Int32) ≤ x0
  · have f1 := Eq.trans (Eq.symm (if_pos c1)) f0
    have g1 := hp.1 c1
    subst f1; exact g1
  · have f1 := Eq.trans (Eq.symm (if_neg c1)) f0
    have g1 := hp.2 c1
    subst f1; exact g1
theorem e_Rn_slotOf (x0 : Int32) (x1 : Int32) {Q : Int32 → Unit → Prop} (hp : WP_Rn_slotOf x0 x1 Q) : Q (s_Rn_slotOf x0 x1) () := qm_Rn_slotOf x0 x1 _ rfl hp
set_option maxRecDepth 100000 in
theorem pm_Rn_isOutOfBounds (x0 : UInt64) {Q Q2 : Int32 → Unit → Prop} (hQ : ∀ r u, Q r u → Q2 r u) (hp : WP_Rn_isOutOfBounds x0 Q) : WP_Rn_isOutOfBounds x0 Q2 := by
  unfold WP_Rn_isOutOfBounds at hp ⊢
  refine ⟨fun c1 => ?_, fun c1 => ?_⟩
  · have g1 := hp.1 c1
    exact hQ _ _ g1
  · have g1 := hp.2 c1
    refine ⟨fun c3 => ?_, fun c3 => ?_⟩
    · have g2 := g1.1 c3
      exact hQ _ _ g2
    · have g2 := g1.2 c3
      exact hQ _ _ g2
set_option maxRecDepth 100000 in
theorem qm_Rn_isOutOfBounds (x0 : UInt64) {Q : Int32 → Unit → Prop} (tgt : Int32) (f0 : s_Rn_isOutOfBounds x0 = tgt) (hp : WP_Rn_isOutOfBounds x0 Q) : Q tgt () := by
  unfold WP_Rn_isOutOfBounds at hp
  unfold s_Rn_isOutOfBounds at f0
  by_cases c1 : 0 < (Op.cmpValue (FP.dcmp x0 (4741671816366391296 : UInt64)) .l)
  · have f1 := Eq.trans (Eq.symm (if_pos c1)) f0
    have g1 := hp.1 c1
    subst f1; exact g1
  · have f1 := Eq.trans (Eq.symm (if_neg c1)) f0
    have g1 := hp.2 c1
    by_cases c3 : 0 ≤ (Op.cmpValue (FP.dcmp x0 (13965043853221167104 : UInt64)) .g)
    · have f2 := Eq.trans (Eq.symm (if_pos c3)) f1
      have g2 := g1.1 c3
      subst f2; exact g2
    · have f2 := Eq.trans (Eq.symm (if_neg c3)) f1
      have g2 := g1.2 c3
      subst f2; exact g2
theorem e_Rn_isOutOfBounds (x0 : UInt64) {Q : Int32 → Unit → Prop} (hp : WP_Rn_isOutOfBounds x0 Q) : Q (s_Rn_isOutOfBounds x0) () := qm_Rn_isOutOfBounds x0 _ rfl hp
set_option maxRecDepth 100000 in
theorem pm_Rn_fail (t_over : Int32) (t_failed : Int32) {Q Q2 : (Int32 × Int32) → Prop} (hQ : ∀ u, Q u → Q2 u) (hp : WP_Rn_fail t_over t_failed Q) : WP_Rn_fail t_over t_failed Q2 := by
  unfold WP_Rn_fail at hp ⊢
  exact hQ _ hp
set_option maxRecDepth 100000 in
theorem qm_Rn_fail (t_over : Int32) (t_failed : Int32) {Q : (Int32 × Int32) → Prop} (tgt : Int32 × Int32) (f0 : s_Rn_fail t_over t_failed = tgt) (hp : WP_Rn_fail t_over t_failed Q) : Q tgt := by
  unfold WP_Rn_fail at hp
  unfold s_Rn_fail at f0
  subst f0; exact hp
theorem e_Rn_fail (t_over : Int32) (t_failed : Int32) {Q : (Int32 × Int32) → Prop} (hp : WP_Rn_fail t_over t_failed Q) : Q (s_Rn_fail t_over t_failed) := qm_Rn_fail t_over t_failed _ rfl hp
set_option maxRecDepth 100000 in
theorem pm_Rn_push (t_top : Int32) (t_stack : Nat → UInt64) (x1 : UInt64) {Q Q2 : (Int32 × (Nat → UInt64)) → Prop} (hQ : ∀ u, Q u → Q2 u) (hp : WP_Rn_push t_top t_stack x1 Q) : WP_Rn_push t_top t_stack x1 Q2 := by
  unfold WP_Rn_push at hp ⊢
  refine ⟨fun c1 => ?_, fun c1 => ?_⟩
  · have g1 := hp.1 c1
    exact hQ _ g1
  · have g1 := hp.2 c1
    refine ⟨g1.1, ?_⟩
    have g2 := g1.2
    exact hQ _ g2
set_option maxRecDepth 100000 in
theorem qm_Rn_push (t_top : Int32) (t_stack : Nat → UInt64) (x1 : UInt64) {Q : (Int32 × (Nat → UInt64)) → Prop} (tgt : Int32 × (Nat → UInt64)) (f0 : s_Rn_push t_top t_stack x1 = tgt) (hp : WP_Rn_push t_top t_stack x1 Q) : Q tgt := by
  unfold WP_Rn_push at hp
  unfold s_Rn_push at f0
  by_cases c1 : (48 : Int32) ≤ t_top
  · have f1 := Eq.trans (Eq.symm (if_pos c1)) f0
    have g1 := hp.1 c1
    subst f1; exact g1
  · have f1 := Eq.trans (Eq.symm (if_neg c1)) f0
    have g1 := hp.2 c1
    have g2 := g1.2
    subst f1; exact g2
theorem e_Rn_push (t_top : Int32) (t_stack : Nat → UInt64) (x1 : UInt64) {Q : (Int32 × (Nat → UInt64)) → Prop} (hp : WP_Rn_push t_top t_stack x1 Q) : p_Rn_push t_top t_stack x1 ∧ Q (s_Rn_push t_top t_stack x1) := ⟨pm_Rn_push t_top t_stack x1 (fun _ _ => trivial) hp, qm_Rn_push t_top t_stack x1 _ rfl hp⟩
set_option maxRecDepth 100000 in
theorem pm_Rn_pop (t_top : Int32) (t_stack : Nat → UInt64) {Q Q2 : UInt64 → Int32 → Prop} (hQ : ∀ r u, Q r u → Q2 r u) (hp : WP_Rn_pop t_top t_stack Q) : WP_Rn_pop t_top t_stack Q2 := by
  unfold WP_Rn_pop at hp ⊢
  refine ⟨fun c1 => ?_, fun c1 => ?_⟩
  · have g1 := hp.1 c1
    refine ⟨g1.1, ?_⟩
    have g2 := g1.2
    exact hQ _ _ g2
  · have g1 := hp.2 c1
    exact hQ _ _ g1
set_option maxRecDepth 100000 in
theorem qm_Rn_pop (t_top : Int32) (t_stack : Nat → UInt64) {Q : UInt64 → Int32 → Prop} (tgt : UInt64 × Int32) (f0 : s_Rn_pop t_top t_stack = tgt) (hp : WP_Rn_pop t_top t_stack Q) : Q tgt.1 tgt.2 := by
  unfold WP_Rn_pop at hp
  unfold s_Rn_pop at f0
  by_cases c1 : 0 < t_top
  · have f1 := Eq.trans (Eq.symm (if_pos c1)) f0
    have g1 := hp.1 c1
    have g2 := g1.2
    subst f1; exact g2
  · have f1 := Eq.trans (Eq.symm (if_neg c1)) f0
    have g1 := hp.2 c1
    subst f1; exact g1
theorem e_Rn_pop (t_top : Int32) (t_stack : Nat → UInt64) {Q : UInt64 → Int32 → Prop} (hp : WP_Rn_pop t_top t_stack Q) : p_Rn_pop t_top t_stack ∧ Q (s_Rn_pop t_top t_stack).1 (s_Rn_pop t_top t_stack).2 := ⟨pm_Rn_pop t_top t_stack (fun _ _ _ => trivial) hp, qm_Rn_pop t_top t_stack _ rfl hp⟩
set_option maxRecDepth 100000 in
theorem pm_Rn_hand (t_thread : Int32) (t_handedA : UInt64) (t_handedB : UInt64) (t_handedC : UInt64) (x1 : Int32) (x2 : UInt64) (x4 : UInt64) (x6 : UInt64) {Q Q2 : (Int32 × UInt64 × UInt64 × UInt64) → Prop} (hQ : ∀ u, Q u → Q2 u) (hp : WP_Rn_hand t_thread t_handedA t_handedB t_handedC x1 x2 x4 x6 Q) : WP_Rn_hand t_thread t_handedA t_handedB t_handedC x1 x2 x4 x6 Q2 := by
  unfold WP_Rn_hand at hp ⊢
  exact hQ _ hp
set_option maxRecDepth 100000 in
theorem qm_Rn_hand (t_thread : Int32) (t_handedA : UInt64) (t_handedB : UInt64) (t_handedC : UInt64) (x1 : Int32) (x2 : UInt64) (x4 : UInt64) (x6 : UInt64) {Q : (Int32 × UInt64 × UInt64 × UInt64) → Prop} (tgt : Int32 × UInt64 × UInt64 × UInt64) (f0 : s_Rn_hand t_thread t_handedA t_handedB t_handedC x1 x2 x4 x6 = tgt) (hp : WP_Rn_hand t_thread t_handedA t_handedB t_handedC x1 x2 x4 x6 Q) : Q tgt := by
  unfold WP_Rn_hand at hp
  unfold s_Rn_hand at f0
  subst f0; exact hp
theorem e_Rn_hand (t_thread : Int32) (t_handedA : UInt64) (t_handedB : UInt64) (t_handedC : UInt64) (x1 : Int32) (x2 : UInt64) (x4 : UInt64) (x6 : UInt64) {Q : (Int32 × UInt64 × UInt64 × UInt64) → Prop} (hp : WP_Rn_hand t_thread t_handedA t_handedB t_handedC x1 x2 x4 x6 Q) : Q (s_Rn_hand t_thread t_handedA t_handedB t_handedC x1 x2 x4 x6) := qm_Rn_hand t_thread t_handedA t_handedB t_handedC x1 x2 x4 x6 _ rfl hp
set_option maxRecDepth 100000 in
theorem pm_Rn_get (t_variables : Nat → UInt64) (x1 : Int32) (x2 : Int32) {Q Q2 : UInt64 → Unit → Prop} (hQ : ∀ r u, Q r u → Q2 r u) (hp : WP_Rn_get t_variables x1 x2 Q) : WP_Rn_get t_variables x1 x2 Q2 := by
  unfold WP_Rn_get at hp ⊢
  intro r1 e3
  have g1 := hp r1 e3
  intro r5 e7
  have g2 := g1 r5 e7
  refine ⟨fun c9 => ?_, fun c9 => ?_⟩
  · have g3 := g2.1 c9
    exact hQ _ _ g3
  · have g3 := g2.2 c9
    refine ⟨g3.1, ?_⟩
    have g4 := g3.2
    exact hQ _ _ g4
set_option maxRecDepth 100000 in
theorem qm_Rn_get (t_variables : Nat → UInt64) (x1 : Int32) (x2 : Int32) {Q : UInt64 → Unit → Prop} (tgt : UInt64) (f0 : s_Rn_get t_variables x1 x2 = tgt) (hp : WP_Rn_get t_variables x1 x2 Q) : Q tgt () := by
  unfold WP_Rn_get at hp
  unfold s_Rn_get at f0
  obtain ⟨r1, e3⟩ := zex1 (s_Rn_slotOf x1 x2)
  have g1 := hp r1 e3
  have f1 := Eq.trans (Eq.symm (zl1_eq e3)) f0
  obtain ⟨r5, e7⟩ := zex1 (s_Tr_isWithin r1 (15 : Int32))
  have g2 := g1 r5 e7
  have f2 := Eq.trans (Eq.symm (zl1_eq e7)) f1
  by_cases c9 : r5 = 0
  · have f3 := Eq.trans (Eq.symm (if_pos c9)) f2
    have g3 := g2.1 c9
    subst f3; exact g3
  · have f3 := Eq.trans (Eq.symm (if_neg c9)) f2
    have g3 := g2.2 c9
    have g4 := g3.2
    subst f3; exact g4
theorem e_Rn_get (t_variables : Nat → UInt64) (x1 : Int32) (x2 : Int32) {Q : UInt64 → Unit → Prop} (hp : WP_Rn_get t_variables x1 x2 Q) : p_Rn_get t_variables x1 x2 ∧ Q (s_Rn_get t_variables x1 x2) () := ⟨pm_Rn_get t_variables x1 x2 (fun _ _ _ => trivial) hp, qm_Rn_get t_variables x1 x2 _ rfl hp⟩
set_option maxRecDepth 100000 in
theorem pm_Rn_set (t_thread : Int32) (t_variables : Nat → UInt64) (x1 : Int32) (x2 : UInt64) {Q Q2 : (Nat → UInt64) → Prop} (hQ : ∀ u, Q u → Q2 u) (hp : WP_Rn_set t_thread t_variables x1 x2 Q) : WP_Rn_set t_thread t_variables x1 x2 Q2 := by
  unfold WP_Rn_set at hp ⊢
  intro r1 e3
  have g1 := hp r1 e3
  intro r5 e7
  have g2 := g1 r5 e7
  refine ⟨fun c9 => ?_, fun c9 => ?_⟩
  · have g3 := g2.1 c9
    exact hQ _ g3
  · have g3 := g2.2 c9
    refine ⟨g3.1, ?_⟩
    have g4 := g3.2
    exact hQ _ g4
set_option maxRecDepth 100000 in
theorem qm_Rn_set (t_thread : Int32) (t_variables : Nat → UInt64) (x1 : Int32) (x2 : UInt64) {Q : (Nat → UInt64) → Prop} (tgt : (Nat → UInt64)) (f0 : s_Rn_set t_thread t_variables x1 x2 = tgt) (hp : WP_Rn_set t_thread t_variables x1 x2 Q) : Q tgt := by
  unfold WP_Rn_set at hp
  unfold s_Rn_set at f0
  obtain ⟨r1, e3⟩ := zex1 (s_Rn_slotOf x1 t_thread)
  have g1 := hp r1 e3
  have f1 := Eq.trans (Eq.symm (zl1_eq e3)) f0
  obtain ⟨r5, e7⟩ := zex1 (s_Tr_isWithin r1 (15 : Int32))
  have g2 := g1 r5 e7
  have f2 := Eq.trans (Eq.symm (zl1_eq e7)) f1
  by_cases c9 : r5 = 0
  · have f3 := Eq.trans (Eq.symm (if_pos c9)) f2
    have g3 := g2.1 c9
    subst f3; exact g3
  · have f3 := Eq.trans (Eq.symm (if_neg c9)) f2
    have g3 := g2.2 c9
    have g4 := g3.2
    subst f3; exact g4
theorem e_Rn_set (t_thread : Int32) (t_variables : Nat → UInt64) (x1 : Int32) (x2 : UInt64) {Q : (Nat → UInt64) → Prop} (hp : WP_Rn_set t_thread t_variables x1 x2 Q) : p_Rn_set t_thread t_variables x1 x2 ∧ Q (s_Rn_set t_thread t_variables x1 x2) := ⟨pm_Rn_set t_thread t_variables x1 x2 (fun _ _ => trivial) hp, qm_Rn_set t_thread t_variables x1 x2 _ rfl hp⟩
set_option maxRecDepth 100000 in
theorem pm_Rn_pushOutcome (t_top : Int32) (t_over : Int32) (t_failed : Int32) (t_stack : Nat → UInt64) (x1 : UInt64) {Q Q2 : (Int32 × Int32 × Int32 × (Nat → UInt64)) → Prop} (hQ : ∀ u, Q u → Q2 u) (hp : WP_Rn_pushOutcome t_top t_over t_failed t_stack x1 Q) : WP_Rn_pushOutcome t_top t_over t_failed t_stack x1 Q2 := by
  unfold WP_Rn_pushOutcome at hp ⊢
  intro r1 e3
  have g1 := hp r1 e3
  refine ⟨fun c5 => ?_, fun c5 => ?_⟩
  · have g2 := g1.1 c5
    refine ⟨g2.1, ?_⟩
    intro m10 m11 e9
    have g3 := g2.2 m10 m11 e9
    exact hQ _ g3
  · have g2 := g1.2 c5
    intro m16 m17 e15
    have g4 := g2 m16 m17 e15
    exact hQ _ g4
set_option maxRecDepth 100000 in
theorem qm_Rn_pushOutcome (t_top : Int32) (t_over : Int32) (t_failed : Int32) (t_stack : Nat → UInt64) (x1 : UInt64) {Q : (Int32 × Int32 × Int32 × (Nat → UInt64)) → Prop} (tgt : Int32 × Int32 × Int32 × (Nat → UInt64)) (f0 : s_Rn_pushOutcome t_top t_over t_failed t_stack x1 = tgt) (hp : WP_Rn_pushOutcome t_top t_over t_failed t_stack x1 Q) : Q tgt := by
  unfold WP_Rn_pushOutcome at hp
  unfold s_Rn_pushOutcome at f0
  obtain ⟨r1, e3⟩ := zex1 (s_Rn_isOutOfBounds x1)
  have g1 := hp r1 e3
  have f1 := Eq.trans (Eq.symm (zl1_eq e3)) f0
  by_cases c5 : r1 = 0
  · have f2 := Eq.trans (Eq.symm (if_pos c5)) f1
    have g2 := g1.1 c5
    obtain ⟨m10, m11, e9⟩ := zex2 (s_Rn_push t_top t_stack x1)
    have g3 := g2.2 m10 m11 e9
    have f3 := Eq.trans (Eq.symm (zl2_eq e9)) f2
    subst f3; exact g3
  · have f2 := Eq.trans (Eq.symm (if_neg c5)) f1
    have g2 := g1.2 c5
    obtain ⟨m16, m17, e15⟩ := zex2 (s_Rn_fail t_over t_failed)
    have g4 := g2 m16 m17 e15
    have f4 := Eq.trans (Eq.symm (zl2_eq e15)) f2
    subst f4; exact g4
theorem e_Rn_pushOutcome (t_top : Int32) (t_over : Int32) (t_failed : Int32) (t_stack : Nat → UInt64) (x1 : UInt64) {Q : (Int32 × Int32 × Int32 × (Nat → UInt64)) → Prop} (hp : WP_Rn_pushOutcome t_top t_over t_failed t_stack x1 Q) : p_Rn_pushOutcome t_top t_over t_failed t_stack x1 ∧ Q (s_Rn_pushOutcome t_top t_over t_failed t_stack x1) := ⟨pm_Rn_pushOutcome t_top t_over t_failed t_stack x1 (fun _ _ => trivial) hp, qm_Rn_pushOutcome t_top t_over t_failed t_stack x1 _ rfl hp⟩
set_option maxRecDepth 100000 in
theorem pm_Rn_operate (t_top : Int32) (t_over : Int32) (t_failed : Int32) (t_stack : Nat → UInt64) (x1 : Int32) {Q Q2 : (Int32 × Int32 × Int32 × (Nat → UInt64)) → Prop} (hQ : ∀ u, Q u → Q2 u) (hp : WP_Rn_operate t_top t_over t_failed t_stack x1 Q) : WP_Rn_operate t_top t_over t_failed t_stack x1 Q2 := by
  unfold WP_Rn_operate at hp ⊢
  refine ⟨hp.1, ?_⟩
  intro r1 u2 e3
  have g1 := hp.2 r1 u2 e3
  refine ⟨g1.1, ?_⟩
  intro r5 u6 e7
  have g2 := g1.2 r5 u6 e7
  refine ⟨fun c9_0 => ?_, fun c9_0 => ?_⟩
  · have g3 := g2.1 c9_0
    refine ⟨g3.1, ?_⟩
    have g4 := g3.2
    refine ⟨g4.1, ?_⟩
    intro m15 m16 m17 m18 e14
    have g5 := g4.2 m15 m16 m17 m18 e14
    exact hQ _ g5
  · have g3 := g2.2 c9_0
    refine ⟨fun c9_1 => ?_, fun c9_1 => ?_⟩
    · have g6 := g3.1 c9_1
      refine ⟨g6.1, ?_⟩
      have g7 := g6.2
      refine ⟨g7.1, ?_⟩
      intro m26 m27 m28 m29 e25
      have g8 := g7.2 m26 m27 m28 m29 e25
      exact hQ _ g8
    · have g6 := g3.2 c9_1
      refine ⟨fun c9_2 => ?_, fun c9_2 => ?_⟩
      · have g9 := g6.1 c9_2
        refine ⟨g9.1, ?_⟩
        have g10 := g9.2
        refine ⟨g10.1, ?_⟩
        intro m37 m38 m39 m40 e36
        have g11 := g10.2 m37 m38 m39 m40 e36
        exact hQ _ g11
      · have g9 := g6.2 c9_2
        refine ⟨fun c9_3 => ?_, fun c9_3 => ?_⟩
        · have g12 := g9.1 c9_3
          refine ⟨fun c44 => ?_, fun c44 => ?_⟩
          · have g13 := g12.1 c44
            refine ⟨g13.1, ?_⟩
            intro m49 m50 e48
            have g14 := g13.2 m49 m50 e48
            exact hQ _ g14
          · have g13 := g12.2 c44
            refine ⟨g13.1, ?_⟩
            intro m55 m56 e54
            have g15 := g13.2 m55 m56 e54
            exact hQ _ g15
        · have g12 := g9.2 c9_3
          refine ⟨fun c9_4 => ?_, fun c9_4 => ?_⟩
          · have g16 := g12.1 c9_4
            refine ⟨fun c60 => ?_, fun c60 => ?_⟩
            · have g17 := g16.1 c60
              refine ⟨g17.1, ?_⟩
              intro m65 m66 e64
              have g18 := g17.2 m65 m66 e64
              exact hQ _ g18
            · have g17 := g16.2 c60
              refine ⟨g17.1, ?_⟩
              intro m71 m72 e70
              have g19 := g17.2 m71 m72 e70
              exact hQ _ g19
          · have g16 := g12.2 c9_4
            refine ⟨fun c9_5 => ?_, fun c9_5 => ?_⟩
            · have g20 := g16.1 c9_5
              refine ⟨fun c76 => ?_, fun c76 => ?_⟩
              · have g21 := g20.1 c76
                refine ⟨g21.1, ?_⟩
                intro m81 m82 e80
                have g22 := g21.2 m81 m82 e80
                exact hQ _ g22
              · have g21 := g20.2 c76
                refine ⟨g21.1, ?_⟩
                intro m87 m88 e86
                have g23 := g21.2 m87 m88 e86
                exact hQ _ g23
            · have g20 := g16.2 c9_5
              refine ⟨fun c91 => ?_, fun c91 => ?_⟩
              · have g24 := g20.1 c91
                refine ⟨g24.1, ?_⟩
                have g25 := g24.2
                refine ⟨g25.1, ?_⟩
                intro m97 m98 m99 m100 e96
                have g26 := g25.2 m97 m98 m99 m100 e96
                exact hQ _ g26
              · have g24 := g20.2 c91
                intro m105 m106 e104
                have g27 := g24 m105 m106 e104
                exact hQ _ g27
set_option maxRecDepth 100000 in
theorem qm_Rn_operate (t_top : Int32) (t_over : Int32) (t_failed : Int32) (t_stack : Nat → UInt64) (x1 : Int32) {Q : (Int32 × Int32 × Int32 × (Nat → UInt64)) → Prop} (tgt : Int32 × Int32 × Int32 × (Nat → UInt64)) (f0 : s_Rn_operate t_top t_over t_failed t_stack x1 = tgt) (hp : WP_Rn_operate t_top t_over t_failed t_stack x1 Q) : Q tgt := by
  unfold WP_Rn_operate at hp
  unfold s_Rn_operate at f0
  obtain ⟨r1, u2, e3⟩ := zex2 (s_Rn_pop t_top t_stack)
  have g1 := hp.2 r1 u2 e3
  have f1 := Eq.trans (Eq.symm (zl2_eq e3)) f0
  obtain ⟨r5, u6, e7⟩ := zex2 (s_Rn_pop u2 t_stack)
  have g2 := g1.2 r5 u6 e7
  have f2 := Eq.trans (Eq.symm (zl2_eq e7)) f1
  by_cases c9_0 : x1 = (42 : Int32)
  · have f3 := Eq.trans (Eq.symm (if_pos c9_0)) f2
    have g3 := g2.1 c9_0
    have g4 := g3.2
    obtain ⟨m15, m16, m17, m18, e14⟩ := zex4 (s_Rn_pushOutcome u6 t_over t_failed t_stack (FP.dmul r5 r1))
    have g5 := g4.2 m15 m16 m17 m18 e14
    have f5 := Eq.trans (Eq.symm (zl2_eq e14)) f3
    have f5 := Eq.trans (Eq.symm (zl2_eq (Eq.refl (m16, m17, m18)))) f5
    have f5 := Eq.trans (Eq.symm (zl2_eq (Eq.refl (m17, m18)))) f5
    subst f5; exact g5
  · have f3 := Eq.trans (Eq.symm (if_neg c9_0)) f2
    have g3 := g2.2 c9_0
    by_cases c9_1 : x1 = (43 : Int32)
    · have f6 := Eq.trans (Eq.symm (if_pos c9_1)) f3
      have g6 := g3.1 c9_1
      have g7 := g6.2
      obtain ⟨m26, m27, m28, m29, e25⟩ := zex4 (s_Rn_pushOutcome u6 t_over t_failed t_stack (FP.dadd r5 r1))
      have g8 := g7.2 m26 m27 m28 m29 e25
      have f8 := Eq.trans (Eq.symm (zl2_eq e25)) f6
      have f8 := Eq.trans (Eq.symm (zl2_eq (Eq.refl (m27, m28, m29)))) f8
      have f8 := Eq.trans (Eq.symm (zl2_eq (Eq.refl (m28, m29)))) f8
      subst f8; exact g8
    · have f6 := Eq.trans (Eq.symm (if_neg c9_1)) f3
      have g6 := g3.2 c9_1
      by_cases c9_2 : x1 = (45 : Int32)
      · have f9 := Eq.trans (Eq.symm (if_pos c9_2)) f6
        have g9 := g6.1 c9_2
        have g10 := g9.2
        obtain ⟨m37, m38, m39, m40, e36⟩ := zex4 (s_Rn_pushOutcome u6 t_over t_failed t_stack (FP.dsub r5 r1))
        have g11 := g10.2 m37 m38 m39 m40 e36
        have f11 := Eq.trans (Eq.symm (zl2_eq e36)) f9
        have f11 := Eq.trans (Eq.symm (zl2_eq (Eq.refl (m38, m39, m40)))) f11
        have f11 := Eq.trans (Eq.symm (zl2_eq (Eq.refl (m39, m40)))) f11
        subst f11; exact g11
      · have f9 := Eq.trans (Eq.symm (if_neg c9_2)) f6
        have g9 := g6.2 c9_2
        by_cases c9_3 : x1 = (60 : Int32)
        · have f12 := Eq.trans (Eq.symm (if_pos c9_3)) f9
          have g12 := g9.1 c9_3
          by_cases c44 : 0 ≤ (Op.cmpValue (FP.dcmp r5 r1) .g)
          · have f13 := Eq.trans (Eq.symm (if_pos c44)) f12
            have g13 := g12.1 c44
            obtain ⟨m49, m50, e48⟩ := zex2 (s_Rn_push u6 t_stack FP.dconst0)
            have g14 := g13.2 m49 m50 e48
            have f14 := Eq.trans (Eq.symm (zl2_eq e48)) f13
            subst f14; exact g14
          · have f13 := Eq.trans (Eq.symm (if_neg c44)) f12
            have g13 := g12.2 c44
            obtain ⟨m55, m56, e54⟩ := zex2 (s_Rn_push u6 t_stack FP.dconst1)
            have g15 := g13.2 m55 m56 e54
            have f15 := Eq.trans (Eq.symm (zl2_eq e54)) f13
            subst f15; exact g15
        · have f12 := Eq.trans (Eq.symm (if_neg c9_3)) f9
          have g12 := g9.2 c9_3
          by_cases c9_4 : x1 = (61 : Int32)
          · have f16 := Eq.trans (Eq.symm (if_pos c9_4)) f12
            have g16 := g12.1 c9_4
            by_cases c60 : (Op.cmpValue (FP.dcmp r5 r1) .l) = 0
            · have f17 := Eq.trans (Eq.symm (if_pos c60)) f16
              have g17 := g16.2 c60
              obtain ⟨m71, m72, e70⟩ := zex2 (s_Rn_push u6 t_stack FP.dconst1)
              have g18 := g17.2 m71 m72 e70
              have f18 := Eq.trans (Eq.symm (zl2_eq e70)) f17
              subst f18; exact g18
            · have f17 := Eq.trans (Eq.symm (if_neg c60)) f16
              have g17 := g16.1 c60
              obtain ⟨m65, m66, e64⟩ := zex2 (s_Rn_push u6 t_stack FP.dconst0)
              have g19 := g17.2 m65 m66 e64
              have f19 := Eq.trans (Eq.symm (zl2_eq e64)) f17
              subst f19; exact g19
          · have f16 := Eq.trans (Eq.symm (if_neg c9_4)) f12
            have g16 := g12.2 c9_4
            by_cases c9_5 : x1 = (62 : Int32)
            · have f20 := Eq.trans (Eq.symm (if_pos c9_5)) f16
              have g20 := g16.1 c9_5
              by_cases c76 : (Op.cmpValue (FP.dcmp r5 r1) .l) ≤ 0
              · have f21 := Eq.trans (Eq.symm (if_pos c76)) f20
                have g21 := g20.1 c76
                obtain ⟨m81, m82, e80⟩ := zex2 (s_Rn_push u6 t_stack FP.dconst0)
                have g22 := g21.2 m81 m82 e80
                have f22 := Eq.trans (Eq.symm (zl2_eq e80)) f21
                subst f22; exact g22
              · have f21 := Eq.trans (Eq.symm (if_neg c76)) f20
                have g21 := g20.2 c76
                obtain ⟨m87, m88, e86⟩ := zex2 (s_Rn_push u6 t_stack FP.dconst1)
                have g23 := g21.2 m87 m88 e86
                have f23 := Eq.trans (Eq.symm (zl2_eq e86)) f21
                subst f23; exact g23
            · have f20 := Eq.trans (Eq.symm (if_neg c9_5)) f16
              have g20 := g16.2 c9_5
              by_cases c91 : (Op.cmpValue (FP.dcmp r1 FP.dconst0) .l) = 0
              · have f24 := Eq.trans (Eq.symm (if_pos c91)) f20
                have g24 := g20.2 c91
                obtain ⟨m105, m106, e104⟩ := zex2 (s_Rn_fail t_over t_failed)
                have g25 := g24 m105 m106 e104
                have f25 := Eq.trans (Eq.symm (zl2_eq e104)) f24
                subst f25; exact g25
              · have f24 := Eq.trans (Eq.symm (if_neg c91)) f20
                have g24 := g20.1 c91
                have g26 := g24.2
                obtain ⟨m97, m98, m99, m100, e96⟩ := zex4 (s_Rn_pushOutcome u6 t_over t_failed t_stack (FP.ddiv r5 r1))
                have g27 := g26.2 m97 m98 m99 m100 e96
                have f27 := Eq.trans (Eq.symm (zl2_eq e96)) f24
                have f27 := Eq.trans (Eq.symm (zl2_eq (Eq.refl (m98, m99, m100)))) f27
                have f27 := Eq.trans (Eq.symm (zl2_eq (Eq.refl (m99, m100)))) f27
                subst f27; exact g27
theorem e_Rn_operate (t_top : Int32) (t_over : Int32) (t_failed : Int32) (t_stack : Nat → UInt64) (x1 : Int32) {Q : (Int32 × Int32 × Int32 × (Nat → UInt64)) → Prop} (hp : WP_Rn_operate t_top t_over t_failed t_stack x1 Q) : p_Rn_operate t_top t_over t_failed t_stack x1 ∧ Q (s_Rn_operate t_top t_over t_failed t_stack x1) := ⟨pm_Rn_operate t_top t_over t_failed t_stack x1 (fun _ _ => trivial) hp, qm_Rn_operate t_top t_over t_failed t_stack x1 _ rfl hp⟩
