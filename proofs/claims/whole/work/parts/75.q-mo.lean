set_option maxRecDepth 100000 in
theorem pm_Mo_thrown (t_thrown : Int32) {Q Q2 : Int32 → Unit → Prop} (hQ : ∀ r u, Q r u → Q2 r u) (hp : WP_Mo_thrown t_thrown Q) : WP_Mo_thrown t_thrown Q2 := by
  unfold WP_Mo_thrown at hp ⊢
  exact hQ _ _ hp
set_option maxRecDepth 100000 in
theorem qm_Mo_thrown (t_thrown : Int32) {Q : Int32 → Unit → Prop} (tgt : Int32) (f0 : s_Mo_thrown t_thrown = tgt) (hp : WP_Mo_thrown t_thrown Q) : Q tgt () := by
  unfold WP_Mo_thrown at hp
  unfold s_Mo_thrown at f0
  subst f0; exact hp
theorem e_Mo_thrown (t_thrown : Int32) {Q : Int32 → Unit → Prop} (hp : WP_Mo_thrown t_thrown Q) : Q (s_Mo_thrown t_thrown) () := qm_Mo_thrown t_thrown _ rfl hp
set_option maxRecDepth 100000 in
theorem pm_Mo_in (x0 : Int32) (x1 : Int32) (x2 : Int32) {Q Q2 : Int32 → Unit → Prop} (hQ : ∀ r u, Q r u → Q2 r u) (hp : WP_Mo_in x0 x1 x2 Q) : WP_Mo_in x0 x1 x2 Q2 := by
  unfold WP_Mo_in at hp ⊢
  refine ⟨fun c1 => ?_, fun c1 => ?_⟩
  · have g1 := hp.1 c1
    exact hQ _ _ g1
  · have g1 := hp.2 c1
    refine ⟨fun c3 => ?_, fun c3 => ?_⟩
    · have g2 := g1.1 c3
      exact hQ _ _ g2
    · have g2 := g1.2 c3
      exact hQ _ _ g2
set_option maxRecDepth 100000 in
theorem qm_Mo_in (x0 : Int32) (x1 : Int32) (x2 : Int32) {Q : Int32 → Unit → Prop} (tgt : Int32) (f0 : s_Mo_in x0 x1 x2 = tgt) (hp : WP_Mo_in x0 x1 x2 Q) : Q tgt () := by
  unfold WP_Mo_in at hp
  unfold s_Mo_in at f0
  by_cases c1 : x0 < x1
  · have f1 := Eq.trans (Eq.symm (if_pos c1)) f0
    have g1 := hp.1 c1
    subst f1; exact g1
  · have f1 := Eq.trans (Eq.symm (if_neg c1)) f0
    have g1 := hp.2 c1
    by_cases c3 : x2 < x0
    · have f2 := Eq.trans (Eq.symm (if_pos c3)) f1
      have g2 := g1.1 c3
      subst f2; exact g2
    · have f2 := Eq.trans (Eq.symm (if_neg c3)) f1
      have g2 := g1.2 c3
      subst f2; exact g2
theorem e_Mo_in (x0 : Int32) (x1 : Int32) (x2 : Int32) {Q : Int32 → Unit → Prop} (hp : WP_Mo_in x0 x1 x2 Q) : Q (s_Mo_in x0 x1 x2) () := qm_Mo_in x0 x1 x2 _ rfl hp
set_option maxRecDepth 100000 in
theorem pm_Mo_bad (t_thrown : Int32) (x1 : Int32) {Q Q2 : Int32 → Int32 → Prop} (hQ : ∀ r u, Q r u → Q2 r u) (hp : WP_Mo_bad t_thrown x1 Q) : WP_Mo_bad t_thrown x1 Q2 := by
  unfold WP_Mo_bad at hp ⊢
  refine ⟨fun c1 => ?_, fun c1 => ?_⟩
  · have g1 := hp.1 c1
    exact hQ _ _ g1
  · have g1 := hp.2 c1
    exact hQ _ _ g1
set_option maxRecDepth 100000 in
theorem qm_Mo_bad (t_thrown : Int32) (x1 : Int32) {Q : Int32 → Int32 → Prop} (tgt : Int32 × Int32) (f0 : s_Mo_bad t_thrown x1 = tgt) (hp : WP_Mo_bad t_thrown x1 Q) : Q tgt.1 tgt.2 := by
  unfold WP_Mo_bad at hp
  unfold s_Mo_bad at f0
  by_cases c1 : x1 = 0
  · have f1 := Eq.trans (Eq.symm (if_pos c1)) f0
    have g1 := hp.1 c1
    subst f1; exact g1
  · have f1 := Eq.trans (Eq.symm (if_neg c1)) f0
    have g1 := hp.2 c1
    subst f1; exact g1
theorem e_Mo_bad (t_thrown : Int32) (x1 : Int32) {Q : Int32 → Int32 → Prop} (hp : WP_Mo_bad t_thrown x1 Q) : Q (s_Mo_bad t_thrown x1).1 (s_Mo_bad t_thrown x1).2 := qm_Mo_bad t_thrown x1 _ rfl hp
set_option maxRecDepth 100000 in
theorem pm_Mo_fail (t_thrown : Int32) (x1 : Int32) {Q Q2 : UInt64 → Int32 → Prop} (hQ : ∀ r u, Q r u → Q2 r u) (hp : WP_Mo_fail t_thrown x1 Q) : WP_Mo_fail t_thrown x1 Q2 := by
  unfold WP_Mo_fail at hp ⊢
  exact hQ _ _ hp
set_option maxRecDepth 100000 in
theorem qm_Mo_fail (t_thrown : Int32) (x1 : Int32) {Q : UInt64 → Int32 → Prop} (tgt : UInt64 × Int32) (f0 : s_Mo_fail t_thrown x1 = tgt) (hp : WP_Mo_fail t_thrown x1 Q) : Q tgt.1 tgt.2 := by
  unfold WP_Mo_fail at hp
  unfold s_Mo_fail at f0
  subst f0; exact hp
theorem e_Mo_fail (t_thrown : Int32) (x1 : Int32) {Q : UInt64 → Int32 → Prop} (hp : WP_Mo_fail t_thrown x1 Q) : Q (s_Mo_fail t_thrown x1).1 (s_Mo_fail t_thrown x1).2 := qm_Mo_fail t_thrown x1 _ rfl hp
set_option maxRecDepth 100000 in
theorem pm_Mo_type_L92 {Q Q2 : Int32 → (Int32 × Int32 × (Nat → Int32)) → Prop} (hQ : ∀ r u, Q r u → Q2 r u) : ∀ (n : Nat) (y1 : Int64) (y3 : Int32) (y4 : Int32) (y5 : Int32) (t_size : Int32) (t_thrown : Int32) (t_text : Nat → Int32), WP_Mo_type_L92 n y1 y3 y4 y5 t_size t_thrown t_text Q → WP_Mo_type_L92 n y1 y3 y4 y5 t_size t_thrown t_text Q2 := by
  intro n
  induction n with
  | zero => intros; contradiction
  | succ n ih =>
    intro y1 y3 y4 y5 t_size t_thrown t_text hp
    unfold WP_Mo_type_L92 at hp ⊢
    refine ⟨fun c21 => ?_, fun c21 => ?_⟩
    · have g1 := hp.1 c21
      exact hQ _ _ g1
    · have g1 := hp.2 c21
      refine ⟨fun c23 => ?_, fun c23 => ?_⟩
      · have g2 := g1.1 c23
        refine ⟨g2.1, ?_⟩
        have g3 := g2.2
        exact ih _ _ _ _ _ _ _ g3
      · have g2 := g1.2 c23
        exact ih _ _ _ _ _ _ _ g2
set_option maxRecDepth 100000 in
theorem qm_Mo_type_L92 {Q : Int32 → (Int32 × Int32 × (Nat → Int32)) → Prop} : ∀ (n : Nat) (y1 : Int64) (y3 : Int32) (y4 : Int32) (y5 : Int32) (t_size : Int32) (t_thrown : Int32) (t_text : Nat → Int32) (tgt : Int32 × Int32 × Int32 × (Nat → Int32)), s_Mo_type_L92 n y1 y3 y4 y5 t_size t_thrown t_text = tgt → WP_Mo_type_L92 n y1 y3 y4 y5 t_size t_thrown t_text Q → Q tgt.1 tgt.2 := by
  intro n
  induction n with
  | zero => intros; contradiction
  | succ n ih =>
    intro y1 y3 y4 y5 t_size t_thrown t_text tgt f0 hp
    unfold WP_Mo_type_L92 at hp
    unfold s_Mo_type_L92 at f0
    by_cases c21 : y5 < 0
    · have f1 := Eq.trans (Eq.symm (if_pos c21)) f0
      have g1 := hp.1 c21
      subst f1; exact g1
    · have f1 := Eq.trans (Eq.symm (if_neg c21)) f0
      have g1 := hp.2 c21
      by_cases c23 : ((((y1.toUInt64 >>> (y5.toInt64.toUInt64 &&& Int64.toUInt64 63)).toInt64).toInt32) &&& (255 : Int32)) = 0
      · have f2 := Eq.trans (Eq.symm (if_pos c23)) f1
        have g2 := g1.2 c23
        exact ih _ _ _ _ _ _ _ _ f2 g2
      · have f2 := Eq.trans (Eq.symm (if_neg c23)) f1
        have g2 := g1.1 c23
        have g3 := g2.2
        exact ih _ _ _ _ _ _ _ _ f2 g3
set_option maxRecDepth 100000 in
theorem pm_Mo_type_L9 {Q Q2 : Int32 → (Int32 × Int32 × (Nat → Int32)) → Prop} (hQ : ∀ r u, Q r u → Q2 r u) : ∀ (n : Nat) (y1 : Int64) (y3 : Int32) (y4 : Int32) (y5 : Int32) (t_size : Int32) (t_thrown : Int32) (t_text : Nat → Int32), WP_Mo_type_L9 n y1 y3 y4 y5 t_size t_thrown t_text Q → WP_Mo_type_L9 n y1 y3 y4 y5 t_size t_thrown t_text Q2 := by
  intro n
  induction n with
  | zero => intros; contradiction
  | succ n ih =>
    intro y1 y3 y4 y5 t_size t_thrown t_text hp
    unfold WP_Mo_type_L9 at hp ⊢
    refine ⟨fun c1 => ?_, fun c1 => ?_⟩
    · have g1 := hp.1 c1
      intro r3 u4 e5
      have g2 := g1 r3 u4 e5
      refine ⟨fun c7 => ?_, fun c7 => ?_⟩
      · have g3 := g2.1 c7
        refine ⟨fun c9 => ?_, fun c9 => ?_⟩
        · have g4 := g3.1 c9
          exact pm_Mo_type_L92 hQ _ _ _ _ _ _ _ _ g4
        · have g4 := g3.2 c9
          exact hQ _ _ g4
      · have g3 := g2.2 c7
        exact hQ _ _ g3
    · have g1 := hp.2 c1
      refine ⟨fun c11 => ?_, fun c11 => ?_⟩
      · have g5 := g1.1 c11
        exact ih _ _ _ _ _ _ _ g5
      · have g5 := g1.2 c11
        intro r15 e17
        have g6 := g5 r15 e17
        refine ⟨fun c19 => ?_, fun c19 => ?_⟩
        · have g7 := g6.1 c19
          exact ih _ _ _ _ _ _ _ g7
        · have g7 := g6.2 c19
          exact ih _ _ _ _ _ _ _ g7
set_option maxRecDepth 100000 in
theorem qm_Mo_type_L9 {Q : Int32 → (Int32 × Int32 × (Nat → Int32)) → Prop} : ∀ (n : Nat) (y1 : Int64) (y3 : Int32) (y4 : Int32) (y5 : Int32) (t_size : Int32) (t_thrown : Int32) (t_text : Nat → Int32) (tgt : Int32 × Int32 × Int32 × (Nat → Int32)), s_Mo_type_L9 n y1 y3 y4 y5 t_size t_thrown t_text = tgt → WP_Mo_type_L9 n y1 y3 y4 y5 t_size t_thrown t_text Q → Q tgt.1 tgt.2 := by
  intro n
  induction n with
  | zero => intros; contradiction
  | succ n ih =>
    intro y1 y3 y4 y5 t_size t_thrown t_text tgt f0 hp
    unfold WP_Mo_type_L9 at hp
    unfold s_Mo_type_L9 at f0
    by_cases c1 : y5 < 0
    · have f1 := Eq.trans (Eq.symm (if_pos c1)) f0
      have g1 := hp.1 c1
      obtain ⟨r3, u4, e5⟩ := zex2 (s_Mo_bad t_thrown y4)
      have g2 := g1 r3 u4 e5
      have f2 := Eq.trans (Eq.symm (zl2_eq e5)) f1
      by_cases c7 : r3 = 0
      · have f3 := Eq.trans (Eq.symm (if_pos c7)) f2
        have g3 := g2.1 c7
        by_cases c9 : (t_size + y3) ≤ (48 : Int32)
        · have f4 := Eq.trans (Eq.symm (if_pos c9)) f3
          have g4 := g3.1 c9
          exact qm_Mo_type_L92 _ _ _ _ _ _ _ _ _ f4 g4
        · have f4 := Eq.trans (Eq.symm (if_neg c9)) f3
          have g4 := g3.2 c9
          subst f4; exact g4
      · have f3 := Eq.trans (Eq.symm (if_neg c7)) f2
        have g3 := g2.2 c7
        subst f3; exact g3
    · have f1 := Eq.trans (Eq.symm (if_neg c1)) f0
      have g1 := hp.2 c1
      by_cases c11 : ((((y1.toUInt64 >>> (y5.toInt64.toUInt64 &&& Int64.toUInt64 63)).toInt64).toInt32) &&& (255 : Int32)) = 0
      · have f5 := Eq.trans (Eq.symm (if_pos c11)) f1
        have g5 := g1.1 c11
        exact ih _ _ _ _ _ _ _ _ f5 g5
      · have f5 := Eq.trans (Eq.symm (if_neg c11)) f1
        have g5 := g1.2 c11
        obtain ⟨r15, e17⟩ := zex1 (s_Mo_in ((((y1.toUInt64 >>> (y5.toInt64.toUInt64 &&& Int64.toUInt64 63)).toInt64).toInt32) &&& (255 : Int32)) (33 : Int32) (126 : Int32))
        have g6 := g5 r15 e17
        have f6 := Eq.trans (Eq.symm (zl1_eq e17)) f5
        by_cases c19 : r15 = 0
        · have f7 := Eq.trans (Eq.symm (if_pos c19)) f6
          have g7 := g6.2 c19
          exact ih _ _ _ _ _ _ _ _ f7 g7
        · have f7 := Eq.trans (Eq.symm (if_neg c19)) f6
          have g7 := g6.1 c19
          exact ih _ _ _ _ _ _ _ _ f7 g7
set_option maxRecDepth 100000 in
theorem pm_Mo_type (t_size : Int32) (t_thrown : Int32) (t_text : Nat → Int32) (x1 : Int64) {Q Q2 : Int32 → (Int32 × Int32 × (Nat → Int32)) → Prop} (hQ : ∀ r u, Q r u → Q2 r u) (hp : WP_Mo_type t_size t_thrown t_text x1 Q) : WP_Mo_type t_size t_thrown t_text x1 Q2 := by
  unfold WP_Mo_type at hp ⊢
  exact pm_Mo_type_L9 hQ _ _ _ _ _ _ _ _ hp
set_option maxRecDepth 100000 in
theorem qm_Mo_type (t_size : Int32) (t_thrown : Int32) (t_text : Nat → Int32) (x1 : Int64) {Q : Int32 → (Int32 × Int32 × (Nat → Int32)) → Prop} (tgt : Int32 × Int32 × Int32 × (Nat → Int32)) (f0 : s_Mo_type t_size t_thrown t_text x1 = tgt) (hp : WP_Mo_type t_size t_thrown t_text x1 Q) : Q tgt.1 tgt.2 := by
  unfold WP_Mo_type at hp
  unfold s_Mo_type at f0
  exact qm_Mo_type_L9 _ _ _ _ _ _ _ _ _ f0 hp
theorem e_Mo_type (t_size : Int32) (t_thrown : Int32) (t_text : Nat → Int32) (x1 : Int64) {Q : Int32 → (Int32 × Int32 × (Nat → Int32)) → Prop} (hp : WP_Mo_type t_size t_thrown t_text x1 Q) : p_Mo_type t_size t_thrown t_text x1 ∧ Q (s_Mo_type t_size t_thrown t_text x1).1 (s_Mo_type t_size t_thrown t_text x1).2 := ⟨pm_Mo_type t_size t_thrown t_text x1 (fun _ _ _ => trivial) hp, qm_Mo_type t_size t_thrown t_text x1 _ rfl hp⟩
set_option maxRecDepth 100000 in
theorem pm_Mo_look (t_size : Int32) (t_pos : Int32) (t_text : Nat → Int32) {Q Q2 : Int32 → Unit → Prop} (hQ : ∀ r u, Q r u → Q2 r u) (hp : WP_Mo_look t_size t_pos t_text Q) : WP_Mo_look t_size t_pos t_text Q2 := by
  unfold WP_Mo_look at hp ⊢
  refine ⟨fun c1 => ?_, fun c1 => ?_⟩
  · have g1 := hp.1 c1
    exact hQ _ _ g1
  · have g1 := hp.2 c1
    refine ⟨g1.1, ?_⟩
    have g2 := g1.2
    exact hQ _ _ g2
set_option maxRecDepth 100000 in
theorem qm_Mo_look (t_size : Int32) (t_pos : Int32) (t_text : Nat → Int32) {Q : Int32 → Unit → Prop} (tgt : Int32) (f0 : s_Mo_look t_size t_pos t_text = tgt) (hp : WP_Mo_look t_size t_pos t_text Q) : Q tgt () := by
  unfold WP_Mo_look at hp
  unfold s_Mo_look at f0
  by_cases c1 : t_size ≤ t_pos
  · have f1 := Eq.trans (Eq.symm (if_pos c1)) f0
    have g1 := hp.1 c1
    subst f1; exact g1
  · have f1 := Eq.trans (Eq.symm (if_neg c1)) f0
    have g1 := hp.2 c1
    have g2 := g1.2
    subst f1; exact g2
theorem e_Mo_look (t_size : Int32) (t_pos : Int32) (t_text : Nat → Int32) {Q : Int32 → Unit → Prop} (hp : WP_Mo_look t_size t_pos t_text Q) : p_Mo_look t_size t_pos t_text ∧ Q (s_Mo_look t_size t_pos t_text) () := ⟨pm_Mo_look t_size t_pos t_text (fun _ _ _ => trivial) hp, qm_Mo_look t_size t_pos t_text _ rfl hp⟩
set_option maxRecDepth 100000 in
theorem pm_Mo_passes (t_size : Int32) (t_pos : Int32) (t_text : Nat → Int32) (x1 : Int32) {Q Q2 : Int32 → Int32 → Prop} (hQ : ∀ r u, Q r u → Q2 r u) (hp : WP_Mo_passes t_size t_pos t_text x1 Q) : WP_Mo_passes t_size t_pos t_text x1 Q2 := by
  unfold WP_Mo_passes at hp ⊢
  refine ⟨hp.1, ?_⟩
  intro r1 e3
  have g1 := hp.2 r1 e3
  refine ⟨fun c5 => ?_, fun c5 => ?_⟩
  · have g2 := g1.1 c5
    exact hQ _ _ g2
  · have g2 := g1.2 c5
    exact hQ _ _ g2
set_option maxRecDepth 100000 in
theorem qm_Mo_passes (t_size : Int32) (t_pos : Int32) (t_text : Nat → Int32) (x1 : Int32) {Q : Int32 → Int32 → Prop} (tgt : Int32 × Int32) (f0 : s_Mo_passes t_size t_pos t_text x1 = tgt) (hp : WP_Mo_passes t_size t_pos t_text x1 Q) : Q tgt.1 tgt.2 := by
  unfold WP_Mo_passes at hp
  unfold s_Mo_passes at f0
  obtain ⟨r1, e3⟩ := zex1 (s_Mo_look t_size t_pos t_text)
  have g1 := hp.2 r1 e3
  have f1 := Eq.trans (Eq.symm (zl1_eq e3)) f0
  by_cases c5 : r1 = x1
  · have f2 := Eq.trans (Eq.symm (if_pos c5)) f1
    have g2 := g1.1 c5
    subst f2; exact g2
  · have f2 := Eq.trans (Eq.symm (if_neg c5)) f1
    have g2 := g1.2 c5
    subst f2; exact g2
theorem e_Mo_passes (t_size : Int32) (t_pos : Int32) (t_text : Nat → Int32) (x1 : Int32) {Q : Int32 → Int32 → Prop} (hp : WP_Mo_passes t_size t_pos t_text x1 Q) : p_Mo_passes t_size t_pos t_text x1 ∧ Q (s_Mo_passes t_size t_pos t_text x1).1 (s_Mo_passes t_size t_pos t_text x1).2 := ⟨pm_Mo_passes t_size t_pos t_text x1 (fun _ _ _ => trivial) hp, qm_Mo_passes t_size t_pos t_text x1 _ rfl hp⟩
set_option maxRecDepth 100000 in
theorem pm_Mo_emit (t_at : Int32) (t_code : Nat → Int32) (x1 : Int32) (x2 : Int32) {Q Q2 : (Int32 × (Nat → Int32)) → Prop} (hQ : ∀ u, Q u → Q2 u) (hp : WP_Mo_emit t_at t_code x1 x2 Q) : WP_Mo_emit t_at t_code x1 x2 Q2 := by
  unfold WP_Mo_emit at hp ⊢
  refine ⟨hp.1, ?_⟩
  have g1 := hp.2
  refine ⟨g1.1, ?_⟩
  have g2 := g1.2
  exact hQ _ g2
set_option maxRecDepth 100000 in
theorem qm_Mo_emit (t_at : Int32) (t_code : Nat → Int32) (x1 : Int32) (x2 : Int32) {Q : (Int32 × (Nat → Int32)) → Prop} (tgt : Int32 × (Nat → Int32)) (f0 : s_Mo_emit t_at t_code x1 x2 = tgt) (hp : WP_Mo_emit t_at t_code x1 x2 Q) : Q tgt := by
  unfold WP_Mo_emit at hp
  unfold s_Mo_emit at f0
  have g1 := hp.2
  have g2 := g1.2
  subst f0; exact g2
theorem e_Mo_emit (t_at : Int32) (t_code : Nat → Int32) (x1 : Int32) (x2 : Int32) {Q : (Int32 × (Nat → Int32)) → Prop} (hp : WP_Mo_emit t_at t_code x1 x2 Q) : p_Mo_emit t_at t_code x1 x2 ∧ Q (s_Mo_emit t_at t_code x1 x2) := ⟨pm_Mo_emit t_at t_code x1 x2 (fun _ _ => trivial) hp, qm_Mo_emit t_at t_code x1 x2 _ rfl hp⟩
set_option maxRecDepth 100000 in
theorem pm_Mo_rank (x0 : Int32) {Q Q2 : Int32 → Unit → Prop} (hQ : ∀ r u, Q r u → Q2 r u) (hp : WP_Mo_rank x0 Q) : WP_Mo_rank x0 Q2 := by
  unfold WP_Mo_rank at hp ⊢
  refine ⟨fun c1 => ?_, fun c1 => ?_⟩
  · have g1 := hp.1 c1
    exact hQ _ _ g1
  · have g1 := hp.2 c1
    refine ⟨fun c3 => ?_, fun c3 => ?_⟩
    · have g2 := g1.1 c3
      exact hQ _ _ g2
    · have g2 := g1.2 c3
      refine ⟨fun c5 => ?_, fun c5 => ?_⟩
      · have g3 := g2.1 c5
        refine ⟨fun c7 => ?_, fun c7 => ?_⟩
        · have g4 := g3.1 c7
          exact hQ _ _ g4
        · have g4 := g3.2 c7
          refine ⟨fun c9 => ?_, fun c9 => ?_⟩
          · have g5 := g4.1 c9
            refine ⟨fun c11 => ?_, fun c11 => ?_⟩
            · have g6 := g5.1 c11
              exact hQ _ _ g6
            · have g6 := g5.2 c11
              refine ⟨fun c13 => ?_, fun c13 => ?_⟩
              · have g7 := g6.1 c13
                exact hQ _ _ g7
              · have g7 := g6.2 c13
                exact hQ _ _ g7
          · have g5 := g4.2 c9
            exact hQ _ _ g5
      · have g3 := g2.2 c5
        exact hQ _ _ g3
set_option maxRecDepth 100000 in
theorem qm_Mo_rank (x0 : Int32) {Q : Int32 → Unit → Prop} (tgt : Int32) (f0 : s_Mo_rank x0 = tgt) (hp : WP_Mo_rank x0 Q) : Q tgt () := by
  unfold WP_Mo_rank at hp
  unfold s_Mo_rank at f0
  by_cases c1 : x0 = (60 : Int32)
  · have f1 := Eq.trans (Eq.symm (if_pos c1)) f0
    have g1 := hp.1 c1
    subst f1; exact g1
  · have f1 := Eq.trans (Eq.symm (if_neg c1)) f0
    have g1 := hp.2 c1
    by_cases c3 : x0 = (62 : Int32)
    · have f2 := Eq.trans (Eq.symm (if_pos c3)) f1
      have g2 := g1.1 c3
      subst f2; exact g2
    · have f2 := Eq.trans (Eq.symm (if_neg c3)) f1
      have g2 := g1.2 c3
      by_cases c5 : x0 = (61 : Int32)
      · have f3 := Eq.trans (Eq.symm (if_pos c5)) f2
        have g3 := g2.2 c5
        subst f3; exact g3
      · have f3 := Eq.trans (Eq.symm (if_neg c5)) f2
        have g3 := g2.1 c5
        by_cases c7 : x0 = (43 : Int32)
        · have f4 := Eq.trans (Eq.symm (if_pos c7)) f3
          have g4 := g3.1 c7
          subst f4; exact g4
        · have f4 := Eq.trans (Eq.symm (if_neg c7)) f3
          have g4 := g3.2 c7
          by_cases c9 : x0 = (45 : Int32)
          · have f5 := Eq.trans (Eq.symm (if_pos c9)) f4
            have g5 := g4.2 c9
            subst f5; exact g5
          · have f5 := Eq.trans (Eq.symm (if_neg c9)) f4
            have g5 := g4.1 c9
            by_cases c11 : x0 = (42 : Int32)
            · have f6 := Eq.trans (Eq.symm (if_pos c11)) f5
              have g6 := g5.1 c11
              subst f6; exact g6
            · have f6 := Eq.trans (Eq.symm (if_neg c11)) f5
              have g6 := g5.2 c11
              by_cases c13 : x0 = (58 : Int32)
              · have f7 := Eq.trans (Eq.symm (if_pos c13)) f6
                have g7 := g6.2 c13
                subst f7; exact g7
              · have f7 := Eq.trans (Eq.symm (if_neg c13)) f6
                have g7 := g6.1 c13
                subst f7; exact g7
theorem e_Mo_rank (x0 : Int32) {Q : Int32 → Unit → Prop} (hp : WP_Mo_rank x0 Q) : Q (s_Mo_rank x0) () := qm_Mo_rank x0 _ rfl hp
set_option maxRecDepth 100000 in
theorem pm_Mo_write_L0 {Q Q2 : (Int32 × Int32 × (Nat → Int32)) → Prop} (hQ : ∀ u, Q u → Q2 u) : ∀ (n : Nat) (y1 : Int32) (y2 : Int32) (t_at : Int32) (t_operators : Int32) (t_operator : Nat → Int32) (t_code : Nat → Int32), WP_Mo_write_L0 n y1 y2 t_at t_operators t_operator t_code Q → WP_Mo_write_L0 n y1 y2 t_at t_operators t_operator t_code Q2 := by
  intro n
  induction n with
  | zero => intros; contradiction
  | succ n ih =>
    intro y1 y2 t_at t_operators t_operator t_code hp
    unfold WP_Mo_write_L0 at hp ⊢
    refine ⟨fun c1 => ?_, fun c1 => ?_⟩
    · have g1 := hp.1 c1
      exact hQ _ g1
    · have g1 := hp.2 c1
      refine ⟨g1.1, ?_⟩
      have g2 := g1.2
      refine ⟨fun c4 => ?_, fun c4 => ?_⟩
      · have g3 := g2.1 c4
        exact hQ _ g3
      · have g3 := g2.2 c4
        refine ⟨g3.1, ?_⟩
        have g4 := g3.2
        intro r7 e9
        have g5 := g4 r7 e9
        refine ⟨fun c11 => ?_, fun c11 => ?_⟩
        · have g6 := g5.1 c11
          exact hQ _ g6
        · have g6 := g5.2 c11
          refine ⟨g6.1, ?_⟩
          have g7 := g6.2
          refine ⟨g7.1, ?_⟩
          intro m17 m18 e16
          have g8 := g7.2 m17 m18 e16
          exact ih _ _ _ _ _ _ g8
set_option maxRecDepth 100000 in
theorem qm_Mo_write_L0 {Q : (Int32 × Int32 × (Nat → Int32)) → Prop} : ∀ (n : Nat) (y1 : Int32) (y2 : Int32) (t_at : Int32) (t_operators : Int32) (t_operator : Nat → Int32) (t_code : Nat → Int32) (tgt : Int32 × Int32 × (Nat → Int32)), s_Mo_write_L0 n y1 y2 t_at t_operators t_operator t_code = tgt → WP_Mo_write_L0 n y1 y2 t_at t_operators t_operator t_code Q → Q tgt := by
  intro n
  induction n with
  | zero => intros; contradiction
  | succ n ih =>
    intro y1 y2 t_at t_operators t_operator t_code tgt f0 hp
    unfold WP_Mo_write_L0 at hp
    unfold s_Mo_write_L0 at f0
    by_cases c1 : t_operators ≤ y1
    · have f1 := Eq.trans (Eq.symm (if_pos c1)) f0
      have g1 := hp.1 c1
      subst f1; exact g1
    · have f1 := Eq.trans (Eq.symm (if_neg c1)) f0
      have g1 := hp.2 c1
      have g2 := g1.2
      by_cases c4 : (t_operator (t_operators - (1 : Int32)).toNatClampNeg) ≤ 0
      · have f3 := Eq.trans (Eq.symm (if_pos c4)) f1
        have g3 := g2.1 c4
        subst f3; exact g3
      · have f3 := Eq.trans (Eq.symm (if_neg c4)) f1
        have g3 := g2.2 c4
        have g4 := g3.2
        obtain ⟨r7, e9⟩ := zex1 (s_Mo_rank (t_operator (t_operators - (1 : Int32)).toNatClampNeg))
        have g5 := g4 r7 e9
        have f5 := Eq.trans (Eq.symm (zl1_eq e9)) f3
        by_cases c11 : r7 < y2
        · have f6 := Eq.trans (Eq.symm (if_pos c11)) f5
          have g6 := g5.1 c11
          subst f6; exact g6
        · have f6 := Eq.trans (Eq.symm (if_neg c11)) f5
          have g6 := g5.2 c11
          have g7 := g6.2
          obtain ⟨m17, m18, e16⟩ := zex2 (s_Mo_emit t_at t_code (3 : Int32) (t_operator (t_operators - (1 : Int32)).toNatClampNeg))
          have g8 := g7.2 m17 m18 e16
          have f8 := Eq.trans (Eq.symm (zl2_eq e16)) f6
          exact ih _ _ _ _ _ _ _ f8 g8
set_option maxRecDepth 100000 in
theorem pm_Mo_write (t_at : Int32) (t_operators : Int32) (t_operator : Nat → Int32) (t_code : Nat → Int32) (x1 : Int32) (x2 : Int32) {Q Q2 : (Int32 × Int32 × (Nat → Int32)) → Prop} (hQ : ∀ u, Q u → Q2 u) (hp : WP_Mo_write t_at t_operators t_operator t_code x1 x2 Q) : WP_Mo_write t_at t_operators t_operator t_code x1 x2 Q2 := by
  unfold WP_Mo_write at hp ⊢
  exact pm_Mo_write_L0 hQ _ _ _ _ _ _ _ hp
set_option maxRecDepth 100000 in
theorem qm_Mo_write (t_at : Int32) (t_operators : Int32) (t_operator : Nat → Int32) (t_code : Nat → Int32) (x1 : Int32) (x2 : Int32) {Q : (Int32 × Int32 × (Nat → Int32)) → Prop} (tgt : Int32 × Int32 × (Nat → Int32)) (f0 : s_Mo_write t_at t_operators t_operator t_code x1 x2 = tgt) (hp : WP_Mo_write t_at t_operators t_operator t_code x1 x2 Q) : Q tgt := by
  unfold WP_Mo_write at hp
  unfold s_Mo_write at f0
  exact qm_Mo_write_L0 _ _ _ _ _ _ _ _ f0 hp
theorem e_Mo_write (t_at : Int32) (t_operators : Int32) (t_operator : Nat → Int32) (t_code : Nat → Int32) (x1 : Int32) (x2 : Int32) {Q : (Int32 × Int32 × (Nat → Int32)) → Prop} (hp : WP_Mo_write t_at t_operators t_operator t_code x1 x2 Q) : p_Mo_write t_at t_operators t_operator t_code x1 x2 ∧ Q (s_Mo_write t_at t_operators t_operator t_code x1 x2) := ⟨pm_Mo_write t_at t_operators t_operator t_code x1 x2 (fun _ _ => trivial) hp, qm_Mo_write t_at t_operators t_operator t_code x1 x2 _ rfl hp⟩
set_option maxRecDepth 100000 in
theorem pm_Mo_writeMinus_L2 {Q Q2 : Int32 → (Int32 × Int32 × (Nat → Int32)) → Prop} (hQ : ∀ r u, Q r u → Q2 r u) : ∀ (n : Nat) (y1 : Int32) (y2 : Int32) (t_at : Int32) (t_operators : Int32) (t_operator : Nat → Int32) (t_code : Nat → Int32), WP_Mo_writeMinus_L2 n y1 y2 t_at t_operators t_operator t_code Q → WP_Mo_writeMinus_L2 n y1 y2 t_at t_operators t_operator t_code Q2 := by
  intro n
  induction n with
  | zero => intros; contradiction
  | succ n ih =>
    intro y1 y2 t_at t_operators t_operator t_code hp
    unfold WP_Mo_writeMinus_L2 at hp ⊢
    refine ⟨fun c1 => ?_, fun c1 => ?_⟩
    · have g1 := hp.1 c1
      exact hQ _ _ g1
    · have g1 := hp.2 c1
      refine ⟨g1.1, ?_⟩
      have g2 := g1.2
      refine ⟨fun c4 => ?_, fun c4 => ?_⟩
      · have g3 := g2.1 c4
        exact hQ _ _ g3
      · have g3 := g2.2 c4
        refine ⟨g3.1, ?_⟩
        intro m9 m10 e8
        have g4 := g3.2 m9 m10 e8
        exact ih _ _ _ _ _ _ g4
set_option maxRecDepth 100000 in
theorem qm_Mo_writeMinus_L2 {Q : Int32 → (Int32 × Int32 × (Nat → Int32)) → Prop} : ∀ (n : Nat) (y1 : Int32) (y2 : Int32) (t_at : Int32) (t_operators : Int32) (t_operator : Nat → Int32) (t_code : Nat → Int32) (tgt : Int32 × Int32 × Int32 × (Nat → Int32)), s_Mo_writeMinus_L2 n y1 y2 t_at t_operators t_operator t_code = tgt → WP_Mo_writeMinus_L2 n y1 y2 t_at t_operators t_operator t_code Q → Q tgt.1 tgt.2 := by
  intro n
  induction n with
  | zero => intros; contradiction
  | succ n ih =>
    intro y1 y2 t_at t_operators t_operator t_code tgt f0 hp
    unfold WP_Mo_writeMinus_L2 at hp
    unfold s_Mo_writeMinus_L2 at f0
    by_cases c1 : t_operators ≤ y1
    · have f1 := Eq.trans (Eq.symm (if_pos c1)) f0
      have g1 := hp.1 c1
      subst f1; exact g1
    · have f1 := Eq.trans (Eq.symm (if_neg c1)) f0
      have g1 := hp.2 c1
      have g2 := g1.2
      by_cases c4 : (t_operator (t_operators - (1 : Int32)).toNatClampNeg) = 0
      · have f3 := Eq.trans (Eq.symm (if_pos c4)) f1
        have g3 := g2.2 c4
        obtain ⟨m9, m10, e8⟩ := zex2 (s_Mo_emit t_at t_code (4 : Int32) (0 : Int32))
        have g4 := g3.2 m9 m10 e8
        have f4 := Eq.trans (Eq.symm (zl2_eq e8)) f3
        exact ih _ _ _ _ _ _ _ f4 g4
      · have f3 := Eq.trans (Eq.symm (if_neg c4)) f1
        have g3 := g2.1 c4
        subst f3; exact g3
set_option maxRecDepth 100000 in
theorem pm_Mo_writeMinus (t_at : Int32) (t_operators : Int32) (t_operator : Nat → Int32) (t_code : Nat → Int32) (x1 : Int32) {Q Q2 : Int32 → (Int32 × Int32 × (Nat → Int32)) → Prop} (hQ : ∀ r u, Q r u → Q2 r u) (hp : WP_Mo_writeMinus t_at t_operators t_operator t_code x1 Q) : WP_Mo_writeMinus t_at t_operators t_operator t_code x1 Q2 := by
  unfold WP_Mo_writeMinus at hp ⊢
  exact pm_Mo_writeMinus_L2 hQ _ _ _ _ _ _ _ hp
set_option maxRecDepth 100000 in
theorem qm_Mo_writeMinus (t_at : Int32) (t_operators : Int32) (t_operator : Nat → Int32) (t_code : Nat → Int32) (x1 : Int32) {Q : Int32 → (Int32 × Int32 × (Nat → Int32)) → Prop} (tgt : Int32 × Int32 × Int32 × (Nat → Int32)) (f0 : s_Mo_writeMinus t_at t_operators t_operator t_code x1 = tgt) (hp : WP_Mo_writeMinus t_at t_operators t_operator t_code x1 Q) : Q tgt.1 tgt.2 := by
  unfold WP_Mo_writeMinus at hp
  unfold s_Mo_writeMinus at f0
  exact qm_Mo_writeMinus_L2 _ _ _ _ _ _ _ _ f0 hp
theorem e_Mo_writeMinus (t_at : Int32) (t_operators : Int32) (t_operator : Nat → Int32) (t_code : Nat → Int32) (x1 : Int32) {Q : Int32 → (Int32 × Int32 × (Nat → Int32)) → Prop} (hp : WP_Mo_writeMinus t_at t_operators t_operator t_code x1 Q) : p_Mo_writeMinus t_at t_operators t_operator t_code x1 ∧ Q (s_Mo_writeMinus t_at t_operators t_operator t_code x1).1 (s_Mo_writeMinus t_at t_operators t_operator t_code x1).2 := ⟨pm_Mo_writeMinus t_at t_operators t_operator t_code x1 (fun _ _ _ => trivial) hp, qm_Mo_writeMinus t_at t_operators t_operator t_code x1 _ rfl hp⟩
set_option maxRecDepth 100000 in
theorem pm_Mo_unit_L20 {Q Q2 : Int32 → (Int32 × Int32 × (Nat → Int32)) → Prop} (hQ : ∀ r u, Q r u → Q2 r u) : ∀ (n : Nat) (y1 : Int32) (y2 : Int32) (y3 : Int32) (t_size : Int32) (t_pos : Int32) (t_at : Int32) (t_text : Nat → Int32) (t_code : Nat → Int32), WP_Mo_unit_L20 n y1 y2 y3 t_size t_pos t_at t_text t_code Q → WP_Mo_unit_L20 n y1 y2 y3 t_size t_pos t_at t_text t_code Q2 := by
  intro n
  induction n with
  | zero => intros; contradiction
  | succ n ih =>
    intro y1 y2 y3 t_size t_pos t_at t_text t_code hp
    unfold WP_Mo_unit_L20 at hp ⊢
    refine ⟨fun c51 => ?_, fun c51 => ?_⟩
    · have g1 := hp.1 c51
      refine ⟨g1.1, ?_⟩
      intro m56 m57 e55
      have g2 := g1.2 m56 m57 e55
      exact hQ _ _ g2
    · have g1 := hp.2 c51
      refine ⟨g1.1, ?_⟩
      intro r59 e61
      have g3 := g1.2 r59 e61
      intro r63 e65
      have g4 := g3 r63 e65
      refine ⟨fun c67 => ?_, fun c67 => ?_⟩
      · have g5 := g4.1 c67
        refine ⟨g5.1, ?_⟩
        intro m72 m73 e71
        have g6 := g5.2 m72 m73 e71
        exact hQ _ _ g6
      · have g5 := g4.2 c67
        refine ⟨g5.1, ?_⟩
        intro r75 e77
        have g7 := g5.2 r75 e77
        exact ih _ _ _ _ _ _ _ _ g7
set_option maxRecDepth 100000 in
theorem qm_Mo_unit_L20 {Q : Int32 → (Int32 × Int32 × (Nat → Int32)) → Prop} : ∀ (n : Nat) (y1 : Int32) (y2 : Int32) (y3 : Int32) (t_size : Int32) (t_pos : Int32) (t_at : Int32) (t_text : Nat → Int32) (t_code : Nat → Int32) (tgt : Int32 × Int32 × Int32 × (Nat → Int32)), s_Mo_unit_L20 n y1 y2 y3 t_size t_pos t_at t_text t_code = tgt → WP_Mo_unit_L20 n y1 y2 y3 t_size t_pos t_at t_text t_code Q → Q tgt.1 tgt.2 := by
  intro n
  induction n with
  | zero => intros; contradiction
  | succ n ih =>
    intro y1 y2 y3 t_size t_pos t_at t_text t_code tgt f0 hp
    unfold WP_Mo_unit_L20 at hp
    unfold s_Mo_unit_L20 at f0
    by_cases c51 : (3 : Int32) ≤ y3
    · have f1 := Eq.trans (Eq.symm (if_pos c51)) f0
      have g1 := hp.1 c51
      obtain ⟨m56, m57, e55⟩ := zex2 (s_Mo_emit t_at t_code (1 : Int32) y2)
      have g2 := g1.2 m56 m57 e55
      have f2 := Eq.trans (Eq.symm (zl2_eq e55)) f1
      subst f2; exact g2
    · have f1 := Eq.trans (Eq.symm (if_neg c51)) f0
      have g1 := hp.2 c51
      obtain ⟨r59, e61⟩ := zex1 (s_Mo_look t_size t_pos t_text)
      have g3 := g1.2 r59 e61
      have f3 := Eq.trans (Eq.symm (zl1_eq e61)) f1
      obtain ⟨r63, e65⟩ := zex1 (s_Mo_in r59 (48 : Int32) (57 : Int32))
      have g4 := g3 r63 e65
      have f4 := Eq.trans (Eq.symm (zl1_eq e65)) f3
      by_cases c67 : r63 = 0
      · have f5 := Eq.trans (Eq.symm (if_pos c67)) f4
        have g5 := g4.1 c67
        obtain ⟨m72, m73, e71⟩ := zex2 (s_Mo_emit t_at t_code (1 : Int32) y2)
        have g6 := g5.2 m72 m73 e71
        have f6 := Eq.trans (Eq.symm (zl2_eq e71)) f5
        subst f6; exact g6
      · have f5 := Eq.trans (Eq.symm (if_neg c67)) f4
        have g5 := g4.2 c67
        obtain ⟨r75, e77⟩ := zex1 (s_Mo_look t_size t_pos t_text)
        have g7 := g5.2 r75 e77
        have f7 := Eq.trans (Eq.symm (zl1_eq e77)) f5
        exact ih _ _ _ _ _ _ _ _ _ f7 g7
set_option maxRecDepth 100000 in
theorem pm_Mo_unit (t_size : Int32) (t_pos : Int32) (t_at : Int32) (t_text : Nat → Int32) (t_code : Nat → Int32) {Q Q2 : Int32 → (Int32 × Int32 × (Nat → Int32)) → Prop} (hQ : ∀ r u, Q r u → Q2 r u) (hp : WP_Mo_unit t_size t_pos t_at t_text t_code Q) : WP_Mo_unit t_size t_pos t_at t_text t_code Q2 := by
  unfold WP_Mo_unit at hp ⊢
  refine ⟨hp.1, ?_⟩
  intro r1 e3
  have g1 := hp.2 r1 e3
  intro r5 e7
  have g2 := g1 r5 e7
  refine ⟨fun c9 => ?_, fun c9 => ?_⟩
  · have g3 := g2.1 c9
    intro r11 e13
    have g4 := g3 r11 e13
    refine ⟨fun c15 => ?_, fun c15 => ?_⟩
    · have g5 := g4.1 c15
      refine ⟨g5.1, ?_⟩
      intro m20 m21 e19
      have g6 := g5.2 m20 m21 e19
      exact hQ _ _ g6
    · have g5 := g4.2 c15
      refine ⟨fun c23 => ?_, fun c23 => ?_⟩
      · have g7 := g5.1 c23
        refine ⟨g7.1, ?_⟩
        intro m28 m29 e27
        have g8 := g7.2 m28 m29 e27
        exact hQ _ _ g8
      · have g7 := g5.2 c23
        refine ⟨fun c31 => ?_, fun c31 => ?_⟩
        · have g9 := g7.1 c31
          refine ⟨g9.1, ?_⟩
          intro m36 m37 e35
          have g10 := g9.2 m36 m37 e35
          exact hQ _ _ g10
        · have g9 := g7.2 c31
          intro r39 e41
          have g11 := g9 r39 e41
          refine ⟨fun c43 => ?_, fun c43 => ?_⟩
          · have g12 := g11.1 c43
            refine ⟨g12.1, ?_⟩
            intro m48 m49 e47
            have g13 := g12.2 m48 m49 e47
            exact hQ _ _ g13
          · have g12 := g11.2 c43
            exact hQ _ _ g12
  · have g3 := g2.2 c9
    exact pm_Mo_unit_L20 hQ _ _ _ _ _ _ _ _ _ g3
set_option maxRecDepth 100000 in
theorem qm_Mo_unit (t_size : Int32) (t_pos : Int32) (t_at : Int32) (t_text : Nat → Int32) (t_code : Nat → Int32) {Q : Int32 → (Int32 × Int32 × (Nat → Int32)) → Prop} (tgt : Int32 × Int32 × Int32 × (Nat → Int32)) (f0 : s_Mo_unit t_size t_pos t_at t_text t_code = tgt) (hp : WP_Mo_unit t_size t_pos t_at t_text t_code Q) : Q tgt.1 tgt.2 := by
  unfold WP_Mo_unit at hp
  unfold s_Mo_unit at f0
  obtain ⟨r1, e3⟩ := zex1 (s_Mo_look t_size t_pos t_text)
  have g1 := hp.2 r1 e3
  have f1 := Eq.trans (Eq.symm (zl1_eq e3)) f0
  obtain ⟨r5, e7⟩ := zex1 (s_Mo_in r1 (48 : Int32) (57 : Int32))
  have g2 := g1 r5 e7
  have f2 := Eq.trans (Eq.symm (zl1_eq e7)) f1
  by_cases c9 : r5 = 0
  · have f3 := Eq.trans (Eq.symm (if_pos c9)) f2
    have g3 := g2.1 c9
    obtain ⟨r11, e13⟩ := zex1 (s_Mo_in r1 (97 : Int32) (99 : Int32))
    have g4 := g3 r11 e13
    have f4 := Eq.trans (Eq.symm (zl1_eq e13)) f3
    by_cases c15 : r11 = 0
    · have f5 := Eq.trans (Eq.symm (if_pos c15)) f4
      have g5 := g4.2 c15
      by_cases c23 : r1 = (116 : Int32)
      · have f6 := Eq.trans (Eq.symm (if_pos c23)) f5
        have g6 := g5.1 c23
        obtain ⟨m28, m29, e27⟩ := zex2 (s_Mo_emit t_at t_code (2 : Int32) r1)
        have g7 := g6.2 m28 m29 e27
        have f7 := Eq.trans (Eq.symm (zl2_eq e27)) f6
        subst f7; exact g7
      · have f6 := Eq.trans (Eq.symm (if_neg c23)) f5
        have g6 := g5.2 c23
        by_cases c31 : r1 = (107 : Int32)
        · have f8 := Eq.trans (Eq.symm (if_pos c31)) f6
          have g8 := g6.1 c31
          obtain ⟨m36, m37, e35⟩ := zex2 (s_Mo_emit t_at t_code (2 : Int32) r1)
          have g9 := g8.2 m36 m37 e35
          have f9 := Eq.trans (Eq.symm (zl2_eq e35)) f8
          subst f9; exact g9
        · have f8 := Eq.trans (Eq.symm (if_neg c31)) f6
          have g8 := g6.2 c31
          obtain ⟨r39, e41⟩ := zex1 (s_Mo_in r1 (117 : Int32) (122 : Int32))
          have g10 := g8 r39 e41
          have f10 := Eq.trans (Eq.symm (zl1_eq e41)) f8
          by_cases c43 : r39 = 0
          · have f11 := Eq.trans (Eq.symm (if_pos c43)) f10
            have g11 := g10.2 c43
            subst f11; exact g11
          · have f11 := Eq.trans (Eq.symm (if_neg c43)) f10
            have g11 := g10.1 c43
            obtain ⟨m48, m49, e47⟩ := zex2 (s_Mo_emit t_at t_code (2 : Int32) r1)
            have g12 := g11.2 m48 m49 e47
            have f12 := Eq.trans (Eq.symm (zl2_eq e47)) f11
            subst f12; exact g12
    · have f5 := Eq.trans (Eq.symm (if_neg c15)) f4
      have g5 := g4.1 c15
      obtain ⟨m20, m21, e19⟩ := zex2 (s_Mo_emit t_at t_code (2 : Int32) r1)
      have g13 := g5.2 m20 m21 e19
      have f13 := Eq.trans (Eq.symm (zl2_eq e19)) f5
      subst f13; exact g13
  · have f3 := Eq.trans (Eq.symm (if_neg c9)) f2
    have g3 := g2.2 c9
    exact qm_Mo_unit_L20 _ _ _ _ _ _ _ _ _ _ f3 g3
theorem e_Mo_unit (t_size : Int32) (t_pos : Int32) (t_at : Int32) (t_text : Nat → Int32) (t_code : Nat → Int32) {Q : Int32 → (Int32 × Int32 × (Nat → Int32)) → Prop} (hp : WP_Mo_unit t_size t_pos t_at t_text t_code Q) : p_Mo_unit t_size t_pos t_at t_text t_code ∧ Q (s_Mo_unit t_size t_pos t_at t_text t_code).1 (s_Mo_unit t_size t_pos t_at t_text t_code).2 := ⟨pm_Mo_unit t_size t_pos t_at t_text t_code (fun _ _ _ => trivial) hp, qm_Mo_unit t_size t_pos t_at t_text t_code _ rfl hp⟩
set_option maxRecDepth 100000 in
theorem pm_Mo_expression_L25 {Q Q2 : Int32 → (Int32 × Int32 × Int32 × (Nat → Int32) × (Nat → Int32) × (Nat → Int32) × (Nat → Int32)) → Prop} (hQ : ∀ r u, Q r u → Q2 r u) : ∀ (n : Nat) (y1 : Int32) (y2 : Int32) (y3 : Int32) (t_size : Int32) (t_pos : Int32) (t_at : Int32) (t_operators : Int32) (t_starts : Nat → Int32) (t_compared : Nat → Int32) (t_text : Nat → Int32) (t_code : Nat → Int32) (t_operator : Nat → Int32), WP_Mo_expression_L25 n y1 y2 y3 t_size t_pos t_at t_operators t_starts t_compared t_text t_code t_operator Q → WP_Mo_expression_L25 n y1 y2 y3 t_size t_pos t_at t_operators t_starts t_compared t_text t_code t_operator Q2 := by
  intro n
  induction n with
  | zero => intros; contradiction
  | succ n ih =>
    intro y1 y2 y3 t_size t_pos t_at t_operators t_starts t_compared t_text t_code t_operator hp
    unfold WP_Mo_expression_L25 at hp ⊢
    refine ⟨hp.1, ?_⟩
    intro r1 e3
    have g1 := hp.2 r1 e3
    refine ⟨fun c5 => ?_, fun c5 => ?_⟩
    · have g2 := g1.1 c5
      intro r7 e9
      have g3 := g2 r7 e9
      refine ⟨fun c11 => ?_, fun c11 => ?_⟩
      · have g4 := g3.1 c11
        intro r13 e15
        have g5 := g4 r13 e15
        refine ⟨fun c17 => ?_, fun c17 => ?_⟩
        · have g6 := g5.1 c17
          refine ⟨g6.1, ?_⟩
          have g7 := g6.2
          intro r20 e22
          have g8 := g7 r20 e22
          refine ⟨g8.1, ?_⟩
          intro m27 m28 m29 e26
          have g9 := g8.2 m27 m28 m29 e26
          refine ⟨g9.1, ?_⟩
          have g10 := g9.2
          exact ih _ _ _ _ _ _ _ _ _ _ _ _ g10
        · have g6 := g5.2 c17
          refine ⟨g6.1, ?_⟩
          have g11 := g6.2
          refine ⟨g11.1, ?_⟩
          have g12 := g11.2
          intro r34 e36
          have g13 := g12 r34 e36
          refine ⟨g13.1, ?_⟩
          intro m41 m42 m43 e40
          have g14 := g13.2 m41 m42 m43 e40
          refine ⟨g14.1, ?_⟩
          have g15 := g14.2
          exact ih _ _ _ _ _ _ _ _ _ _ _ _ g15
      · have g4 := g3.2 c11
        intro r46 e48
        have g16 := g4 r46 e48
        refine ⟨fun c50 => ?_, fun c50 => ?_⟩
        · have g17 := g16.1 c50
          refine ⟨g17.1, ?_⟩
          have g18 := g17.2
          refine ⟨g18.1, ?_⟩
          intro m56 m57 m58 e55
          have g19 := g18.2 m56 m57 m58 e55
          refine ⟨fun c60 => ?_, fun c60 => ?_⟩
          · have g20 := g19.1 c60
            refine ⟨g20.1, ?_⟩
            intro r62 u63 e64
            have g21 := g20.2 r62 u63 e64
            refine ⟨fun c66 => ?_, fun c66 => ?_⟩
            · have g22 := g21.1 c66
              refine ⟨g22.1, ?_⟩
              have g23 := g22.2
              refine ⟨g23.1, ?_⟩
              intro r69 m72 m73 m74 e71
              have g24 := g23.2 r69 m72 m73 m74 e71
              exact ih _ _ _ _ _ _ _ _ _ _ _ _ g24
            · have g22 := g21.2 c66
              exact hQ _ _ g22
          · have g20 := g19.2 c60
            refine ⟨g20.1, ?_⟩
            intro m79 m80 e78
            have g25 := g20.2 m79 m80 e78
            exact hQ _ _ g25
        · have g17 := g16.2 c50
          refine ⟨g17.1, ?_⟩
          have g26 := g17.2
          refine ⟨fun c83 => ?_, fun c83 => ?_⟩
          · have g27 := g26.1 c83
            refine ⟨g27.1, ?_⟩
            have g28 := g27.2
            refine ⟨g28.1, ?_⟩
            intro m89 m90 m91 e88
            have g29 := g28.2 m89 m90 m91 e88
            refine ⟨fun c93 => ?_, fun c93 => ?_⟩
            · have g30 := g29.1 c93
              refine ⟨g30.1, ?_⟩
              intro r95 u96 e97
              have g31 := g30.2 r95 u96 e97
              refine ⟨fun c99 => ?_, fun c99 => ?_⟩
              · have g32 := g31.1 c99
                refine ⟨g32.1, ?_⟩
                have g33 := g32.2
                refine ⟨g33.1, ?_⟩
                intro r102 m105 m106 m107 e104
                have g34 := g33.2 r102 m105 m106 m107 e104
                exact ih _ _ _ _ _ _ _ _ _ _ _ _ g34
              · have g32 := g31.2 c99
                exact hQ _ _ g32
            · have g30 := g29.2 c93
              refine ⟨g30.1, ?_⟩
              intro m112 m113 e111
              have g35 := g30.2 m112 m113 e111
              exact hQ _ _ g35
          · have g27 := g26.2 c83
            intro r115 e117
            have g36 := g27 r115 e117
            refine ⟨g36.1, ?_⟩
            have g37 := g36.2
            refine ⟨g37.1, ?_⟩
            have g38 := g37.2
            intro r122 e124
            have g39 := g38 r122 e124
            refine ⟨g39.1, ?_⟩
            intro m129 m130 m131 e128
            have g40 := g39.2 m129 m130 m131 e128
            refine ⟨g40.1, ?_⟩
            have g41 := g40.2
            exact ih _ _ _ _ _ _ _ _ _ _ _ _ g41
    · have g2 := g1.2 c5
      refine ⟨g2.1, ?_⟩
      intro r134 m137 m138 m139 e136
      have g42 := g2.2 r134 m137 m138 m139 e136
      refine ⟨fun c141 => ?_, fun c141 => ?_⟩
      · have g43 := g42.1 c141
        refine ⟨fun c143 => ?_, fun c143 => ?_⟩
        · have g44 := g43.1 c143
          refine ⟨fun c145 => ?_, fun c145 => ?_⟩
          · have g45 := g44.1 c145
            refine ⟨fun c147 => ?_, fun c147 => ?_⟩
            · have g46 := g45.1 c147
              refine ⟨g46.1, ?_⟩
              have g47 := g46.2
              refine ⟨g47.1, ?_⟩
              have g48 := g47.2
              exact ih _ _ _ _ _ _ _ _ _ _ _ _ g48
            · have g46 := g45.2 c147
              refine ⟨g46.1, ?_⟩
              have g49 := g46.2
              exact ih _ _ _ _ _ _ _ _ _ _ _ _ g49
          · have g45 := g44.2 c145
            exact hQ _ _ g45
        · have g44 := g43.2 c143
          refine ⟨fun c152 => ?_, fun c152 => ?_⟩
          · have g50 := g44.1 c152
            exact hQ _ _ g50
          · have g50 := g44.2 c152
            refine ⟨fun c154 => ?_, fun c154 => ?_⟩
            · have g51 := g50.1 c154
              refine ⟨g51.1, ?_⟩
              have g52 := g51.2
              exact ih _ _ _ _ _ _ _ _ _ _ _ _ g52
            · have g51 := g50.2 c154
              exact hQ _ _ g51
      · have g43 := g42.2 c141
        refine ⟨g43.1, ?_⟩
        have g53 := g43.2
        refine ⟨g53.1, ?_⟩
        intro r159 m162 m163 m164 e161
        have g54 := g53.2 r159 m162 m163 m164 e161
        exact ih _ _ _ _ _ _ _ _ _ _ _ _ g54
set_option maxRecDepth 100000 in
theorem qm_Mo_expression_L25 {Q : Int32 → (Int32 × Int32 × Int32 × (Nat → Int32) × (Nat → Int32) × (Nat → Int32) × (Nat → Int32)) → Prop} : ∀ (n : Nat) (y1 : Int32) (y2 : Int32) (y3 : Int32) (t_size : Int32) (t_pos : Int32) (t_at : Int32) (t_operators : Int32) (t_starts : Nat → Int32) (t_compared : Nat → Int32) (t_text : Nat → Int32) (t_code : Nat → Int32) (t_operator : Nat → Int32) (tgt : Int32 × Int32 × Int32 × Int32 × (Nat → Int32) × (Nat → Int32) × (Nat → Int32) × (Nat → Int32)), s_Mo_expression_L25 n y1 y2 y3 t_size t_pos t_at t_operators t_starts t_compared t_text t_code t_operator = tgt → WP_Mo_expression_L25 n y1 y2 y3 t_size t_pos t_at t_operators t_starts t_compared t_text t_code t_operator Q → Q tgt.1 tgt.2 := by
  intro n
  induction n with
  | zero => intros; contradiction
  | succ n ih =>
    intro y1 y2 y3 t_size t_pos t_at t_operators t_starts t_compared t_text t_code t_operator tgt f0 hp
    unfold WP_Mo_expression_L25 at hp
    unfold s_Mo_expression_L25 at f0
    obtain ⟨r1, e3⟩ := zex1 (s_Mo_look t_size t_pos t_text)
    have g1 := hp.2 r1 e3
    have f1 := Eq.trans (Eq.symm (zl1_eq e3)) f0
    by_cases c5 : y3 = 0
    · have f2 := Eq.trans (Eq.symm (if_pos c5)) f1
      have g2 := g1.1 c5
      obtain ⟨r7, e9⟩ := zex1 (s_Mo_rank r1)
      have g3 := g2 r7 e9
      have f3 := Eq.trans (Eq.symm (zl1_eq e9)) f2
      by_cases c11 : (1 : Int32) < r7
      · have f4 := Eq.trans (Eq.symm (if_pos c11)) f3
        have g4 := g3.1 c11
        obtain ⟨r13, e15⟩ := zex1 (s_Mo_rank r1)
        have g5 := g4 r13 e15
        have f5 := Eq.trans (Eq.symm (zl1_eq e15)) f4
        by_cases c17 : r7 = (1 : Int32)
        · have f6 := Eq.trans (Eq.symm (if_pos c17)) f5
          have g6 := g5.2 c17
          have g7 := g6.2
          have g8 := g7.2
          obtain ⟨r34, e36⟩ := zex1 (s_Mo_rank r1)
          have g9 := g8 r34 e36
          have f9 := Eq.trans (Eq.symm (zl1_eq e36)) f6
          obtain ⟨m41, m42, m43, e40⟩ := zex3 (s_Mo_write t_at t_operators t_operator t_code (t_starts y1.toNatClampNeg) r7)
          have g10 := g9.2 m41 m42 m43 e40
          have f10 := Eq.trans (Eq.symm (zl2_eq e40)) f9
          have f10 := Eq.trans (Eq.symm (zl2_eq (Eq.refl (m42, m43)))) f10
          have g11 := g10.2
          exact ih _ _ _ _ _ _ _ _ _ _ _ _ _ f10 g11
        · have f6 := Eq.trans (Eq.symm (if_neg c17)) f5
          have g6 := g5.1 c17
          have g12 := g6.2
          obtain ⟨r20, e22⟩ := zex1 (s_Mo_rank r1)
          have g13 := g12 r20 e22
          have f13 := Eq.trans (Eq.symm (zl1_eq e22)) f6
          obtain ⟨m27, m28, m29, e26⟩ := zex3 (s_Mo_write t_at t_operators t_operator t_code (t_starts y1.toNatClampNeg) r7)
          have g14 := g13.2 m27 m28 m29 e26
          have f14 := Eq.trans (Eq.symm (zl2_eq e26)) f13
          have f14 := Eq.trans (Eq.symm (zl2_eq (Eq.refl (m28, m29)))) f14
          have g15 := g14.2
          exact ih _ _ _ _ _ _ _ _ _ _ _ _ _ f14 g15
      · have f4 := Eq.trans (Eq.symm (if_neg c11)) f3
        have g4 := g3.2 c11
        obtain ⟨r46, e48⟩ := zex1 (s_Mo_rank r1)
        have g16 := g4 r46 e48
        have f16 := Eq.trans (Eq.symm (zl1_eq e48)) f4
        by_cases c50 : r7 = (1 : Int32)
        · have f17 := Eq.trans (Eq.symm (if_pos c50)) f16
          have g17 := g16.2 c50
          have g18 := g17.2
          by_cases c83 : (t_compared y1.toNatClampNeg) = 0
          · have f19 := Eq.trans (Eq.symm (if_pos c83)) f17
            have g19 := g18.2 c83
            obtain ⟨r115, e117⟩ := zex1 (s_Mo_rank r1)
            have g20 := g19 r115 e117
            have f20 := Eq.trans (Eq.symm (zl1_eq e117)) f19
            have g21 := g20.2
            have g22 := g21.2
            obtain ⟨r122, e124⟩ := zex1 (s_Mo_rank r1)
            have g23 := g22 r122 e124
            have f23 := Eq.trans (Eq.symm (zl1_eq e124)) f20
            obtain ⟨m129, m130, m131, e128⟩ := zex3 (s_Mo_write t_at t_operators t_operator t_code (t_starts y1.toNatClampNeg) r7)
            have g24 := g23.2 m129 m130 m131 e128
            have f24 := Eq.trans (Eq.symm (zl2_eq e128)) f23
            have f24 := Eq.trans (Eq.symm (zl2_eq (Eq.refl (m130, m131)))) f24
            have g25 := g24.2
            exact ih _ _ _ _ _ _ _ _ _ _ _ _ _ f24 g25
          · have f19 := Eq.trans (Eq.symm (if_neg c83)) f17
            have g19 := g18.1 c83
            have g26 := g19.2
            obtain ⟨m89, m90, m91, e88⟩ := zex3 (s_Mo_write t_at t_operators t_operator t_code (t_starts y1.toNatClampNeg) (1 : Int32))
            have g27 := g26.2 m89 m90 m91 e88
            have f27 := Eq.trans (Eq.symm (zl2_eq e88)) f19
            have f27 := Eq.trans (Eq.symm (zl2_eq (Eq.refl (m90, m91)))) f27
            by_cases c93 : y1 = 0
            · have f28 := Eq.trans (Eq.symm (if_pos c93)) f27
              have g28 := g27.2 c93
              obtain ⟨m112, m113, e111⟩ := zex2 (s_Mo_emit m89 m91 (0 : Int32) (0 : Int32))
              have g29 := g28.2 m112 m113 e111
              have f29 := Eq.trans (Eq.symm (zl2_eq e111)) f28
              subst f29; exact g29
            · have f28 := Eq.trans (Eq.symm (if_neg c93)) f27
              have g28 := g27.1 c93
              obtain ⟨r95, u96, e97⟩ := zex2 (s_Mo_passes t_size t_pos t_text (41 : Int32))
              have g30 := g28.2 r95 u96 e97
              have f30 := Eq.trans (Eq.symm (zl2_eq e97)) f28
              by_cases c99 : r95 = 0
              · have f31 := Eq.trans (Eq.symm (if_pos c99)) f30
                have g31 := g30.2 c99
                subst f31; exact g31
              · have f31 := Eq.trans (Eq.symm (if_neg c99)) f30
                have g31 := g30.1 c99
                have g32 := g31.2
                obtain ⟨r102, m105, m106, m107, e104⟩ := zex4 (s_Mo_writeMinus m89 m90 t_operator m91 (t_starts (y1 + (-1 : Int32)).toNatClampNeg))
                have g33 := g32.2 r102 m105 m106 m107 e104
                have f33 := Eq.trans (Eq.symm (zl2_eq e104)) f31
                have f33 := Eq.trans (Eq.symm (zl2_eq (Eq.refl (m105, m106, m107)))) f33
                have f33 := Eq.trans (Eq.symm (zl2_eq (Eq.refl (m106, m107)))) f33
                exact ih _ _ _ _ _ _ _ _ _ _ _ _ _ f33 g33
        · have f17 := Eq.trans (Eq.symm (if_neg c50)) f16
          have g17 := g16.1 c50
          have g34 := g17.2
          obtain ⟨m56, m57, m58, e55⟩ := zex3 (s_Mo_write t_at t_operators t_operator t_code (t_starts y1.toNatClampNeg) (1 : Int32))
          have g35 := g34.2 m56 m57 m58 e55
          have f35 := Eq.trans (Eq.symm (zl2_eq e55)) f17
          have f35 := Eq.trans (Eq.symm (zl2_eq (Eq.refl (m57, m58)))) f35
          by_cases c60 : y1 = 0
          · have f36 := Eq.trans (Eq.symm (if_pos c60)) f35
            have g36 := g35.2 c60
            obtain ⟨m79, m80, e78⟩ := zex2 (s_Mo_emit m56 m58 (0 : Int32) (0 : Int32))
            have g37 := g36.2 m79 m80 e78
            have f37 := Eq.trans (Eq.symm (zl2_eq e78)) f36
            subst f37; exact g37
          · have f36 := Eq.trans (Eq.symm (if_neg c60)) f35
            have g36 := g35.1 c60
            obtain ⟨r62, u63, e64⟩ := zex2 (s_Mo_passes t_size t_pos t_text (41 : Int32))
            have g38 := g36.2 r62 u63 e64
            have f38 := Eq.trans (Eq.symm (zl2_eq e64)) f36
            by_cases c66 : r62 = 0
            · have f39 := Eq.trans (Eq.symm (if_pos c66)) f38
              have g39 := g38.2 c66
              subst f39; exact g39
            · have f39 := Eq.trans (Eq.symm (if_neg c66)) f38
              have g39 := g38.1 c66
              have g40 := g39.2
              obtain ⟨r69, m72, m73, m74, e71⟩ := zex4 (s_Mo_writeMinus m56 m57 t_operator m58 (t_starts (y1 + (-1 : Int32)).toNatClampNeg))
              have g41 := g40.2 r69 m72 m73 m74 e71
              have f41 := Eq.trans (Eq.symm (zl2_eq e71)) f39
              have f41 := Eq.trans (Eq.symm (zl2_eq (Eq.refl (m72, m73, m74)))) f41
              have f41 := Eq.trans (Eq.symm (zl2_eq (Eq.refl (m73, m74)))) f41
              exact ih _ _ _ _ _ _ _ _ _ _ _ _ _ f41 g41
    · have f2 := Eq.trans (Eq.symm (if_neg c5)) f1
      have g2 := g1.2 c5
      obtain ⟨r134, m137, m138, m139, e136⟩ := zex4 (s_Mo_unit t_size t_pos t_at t_text t_code)
      have g42 := g2.2 r134 m137 m138 m139 e136
      have f42 := Eq.trans (Eq.symm (zl2_eq e136)) f2
      have f42 := Eq.trans (Eq.symm (zl2_eq (Eq.refl (m137, m138, m139)))) f42
      have f42 := Eq.trans (Eq.symm (zl2_eq (Eq.refl (m138, m139)))) f42
      by_cases c141 : r134 = 0
      · have f43 := Eq.trans (Eq.symm (if_pos c141)) f42
        have g43 := g42.1 c141
        by_cases c143 : r1 = (40 : Int32)
        · have f44 := Eq.trans (Eq.symm (if_pos c143)) f43
          have g44 := g43.1 c143
          by_cases c145 : y2 = (5 : Int32)
          · have f45 := Eq.trans (Eq.symm (if_pos c145)) f44
            have g45 := g44.2 c145
            subst f45; exact g45
          · have f45 := Eq.trans (Eq.symm (if_neg c145)) f44
            have g45 := g44.1 c145
            by_cases c147 : r1 = (45 : Int32)
            · have f46 := Eq.trans (Eq.symm (if_pos c147)) f45
              have g46 := g45.2 c147
              have g47 := g46.2
              exact ih _ _ _ _ _ _ _ _ _ _ _ _ _ f46 g47
            · have f46 := Eq.trans (Eq.symm (if_neg c147)) f45
              have g46 := g45.1 c147
              have g48 := g46.2
              have g49 := g48.2
              exact ih _ _ _ _ _ _ _ _ _ _ _ _ _ f46 g49
        · have f44 := Eq.trans (Eq.symm (if_neg c143)) f43
          have g44 := g43.2 c143
          by_cases c152 : r1 = (45 : Int32)
          · have f50 := Eq.trans (Eq.symm (if_pos c152)) f44
            have g50 := g44.2 c152
            by_cases c154 : y2 = (5 : Int32)
            · have f51 := Eq.trans (Eq.symm (if_pos c154)) f50
              have g51 := g50.2 c154
              subst f51; exact g51
            · have f51 := Eq.trans (Eq.symm (if_neg c154)) f50
              have g51 := g50.1 c154
              have g52 := g51.2
              exact ih _ _ _ _ _ _ _ _ _ _ _ _ _ f51 g52
          · have f50 := Eq.trans (Eq.symm (if_neg c152)) f44
            have g50 := g44.1 c152
            subst f50; exact g50
      · have f43 := Eq.trans (Eq.symm (if_neg c141)) f42
        have g43 := g42.2 c141
        have g53 := g43.2
        obtain ⟨r159, m162, m163, m164, e161⟩ := zex4 (s_Mo_writeMinus m138 t_operators t_operator m139 (t_starts y1.toNatClampNeg))
        have g54 := g53.2 r159 m162 m163 m164 e161
        have f54 := Eq.trans (Eq.symm (zl2_eq e161)) f43
        have f54 := Eq.trans (Eq.symm (zl2_eq (Eq.refl (m162, m163, m164)))) f54
        have f54 := Eq.trans (Eq.symm (zl2_eq (Eq.refl (m163, m164)))) f54
        exact ih _ _ _ _ _ _ _ _ _ _ _ _ _ f54 g54
set_option maxRecDepth 100000 in
theorem pm_Mo_expression (t_size : Int32) (t_pos : Int32) (t_at : Int32) (t_operators : Int32) (t_starts : Nat → Int32) (t_compared : Nat → Int32) (t_text : Nat → Int32) (t_code : Nat → Int32) (t_operator : Nat → Int32) {Q Q2 : Int32 → (Int32 × Int32 × Int32 × (Nat → Int32) × (Nat → Int32) × (Nat → Int32) × (Nat → Int32)) → Prop} (hQ : ∀ r u, Q r u → Q2 r u) (hp : WP_Mo_expression t_size t_pos t_at t_operators t_starts t_compared t_text t_code t_operator Q) : WP_Mo_expression t_size t_pos t_at t_operators t_starts t_compared t_text t_code t_operator Q2 := by
  unfold WP_Mo_expression at hp ⊢
  exact pm_Mo_expression_L25 hQ _ _ _ _ _ _ _ _ _ _ _ _ _ hp
set_option maxRecDepth 100000 in
theorem qm_Mo_expression (t_size : Int32) (t_pos : Int32) (t_at : Int32) (t_operators : Int32) (t_starts : Nat → Int32) (t_compared : Nat → Int32) (t_text : Nat → Int32) (t_code : Nat → Int32) (t_operator : Nat → Int32) {Q : Int32 → (Int32 × Int32 × Int32 × (Nat → Int32) × (Nat → Int32) × (Nat → Int32) × (Nat → Int32)) → Prop} (tgt : Int32 × Int32 × Int32 × Int32 × (Nat → Int32) × (Nat → Int32) × (Nat → Int32) × (Nat → Int32)) (f0 : s_Mo_expression t_size t_pos t_at t_operators t_starts t_compared t_text t_code t_operator = tgt) (hp : WP_Mo_expression t_size t_pos t_at t_operators t_starts t_compared t_text t_code t_operator Q) : Q tgt.1 tgt.2 := by
  unfold WP_Mo_expression at hp
  unfold s_Mo_expression at f0
  exact qm_Mo_expression_L25 _ _ _ _ _ _ _ _ _ _ _ _ _ _ f0 hp
theorem e_Mo_expression (t_size : Int32) (t_pos : Int32) (t_at : Int32) (t_operators : Int32) (t_starts : Nat → Int32) (t_compared : Nat → Int32) (t_text : Nat → Int32) (t_code : Nat → Int32) (t_operator : Nat → Int32) {Q : Int32 → (Int32 × Int32 × Int32 × (Nat → Int32) × (Nat → Int32) × (Nat → Int32) × (Nat → Int32)) → Prop} (hp : WP_Mo_expression t_size t_pos t_at t_operators t_starts t_compared t_text t_code t_operator Q) : p_Mo_expression t_size t_pos t_at t_operators t_starts t_compared t_text t_code t_operator ∧ Q (s_Mo_expression t_size t_pos t_at t_operators t_starts t_compared t_text t_code t_operator).1 (s_Mo_expression t_size t_pos t_at t_operators t_starts t_compared t_text t_code t_operator).2 := ⟨pm_Mo_expression t_size t_pos t_at t_operators t_starts t_compared t_text t_code t_operator (fun _ _ _ => trivial) hp, qm_Mo_expression t_size t_pos t_at t_operators t_starts t_compared t_text t_code t_operator _ rfl hp⟩
set_option maxRecDepth 100000 in
theorem pm_Mo_action (t_size : Int32) (t_pos : Int32) (t_at : Int32) (t_operators : Int32) (t_text : Nat → Int32) (t_kind : Nat → Int32) (t_target : Nat → Int32) (t_first : Nat → Int32) (t_starts : Nat → Int32) (t_compared : Nat → Int32) (t_code : Nat → Int32) (t_operator : Nat → Int32) (t_second : Nat → Int32) (x1 : Int32) {Q Q2 : Int32 → (Int32 × Int32 × Int32 × (Nat → Int32) × (Nat → Int32) × (Nat → Int32) × (Nat → Int32) × (Nat → Int32) × (Nat → Int32) × (Nat → Int32) × (Nat → Int32)) → Prop} (hQ : ∀ r u, Q r u → Q2 r u) (hp : WP_Mo_action t_size t_pos t_at t_operators t_text t_kind t_target t_first t_starts t_compared t_code t_operator t_second x1 Q) : WP_Mo_action t_size t_pos t_at t_operators t_text t_kind t_target t_first t_starts t_compared t_code t_operator t_second x1 Q2 := by
  unfold WP_Mo_action at hp ⊢
  refine ⟨hp.1, ?_⟩
  intro r1 e3
  have g1 := hp.2 r1 e3
  refine ⟨g1.1, ?_⟩
  have g2 := g1.2
  intro r6 e8
  have g3 := g2 r6 e8
  refine ⟨fun c10 => ?_, fun c10 => ?_⟩
  · have g4 := g3.1 c10
    refine ⟨fun c12 => ?_, fun c12 => ?_⟩
    · have g5 := g4.1 c12
      refine ⟨g5.1, ?_⟩
      intro r14 u15 e16
      have g6 := g5.2 r14 u15 e16
      refine ⟨fun c18 => ?_, fun c18 => ?_⟩
      · have g7 := g6.1 c18
        refine ⟨g7.1, ?_⟩
        have g8 := g7.2
        refine ⟨g8.1, ?_⟩
        intro r21 m24 m25 m26 m27 m28 m29 m30 e23
        have g9 := g8.2 r21 m24 m25 m26 m27 m28 m29 m30 e23
        refine ⟨g9.1, ?_⟩
        have g10 := g9.2
        exact hQ _ _ g10
      · have g7 := g6.2 c18
        refine ⟨g7.1, ?_⟩
        intro r32 u33 e34
        have g11 := g7.2 r32 u33 e34
        refine ⟨fun c36 => ?_, fun c36 => ?_⟩
        · have g12 := g11.1 c36
          refine ⟨g12.1, ?_⟩
          have g13 := g12.2
          refine ⟨g13.1, ?_⟩
          intro r39 m42 m43 m44 m45 m46 m47 m48 e41
          have g14 := g13.2 r39 m42 m43 m44 m45 m46 m47 m48 e41
          refine ⟨g14.1, ?_⟩
          have g15 := g14.2
          exact hQ _ _ g15
        · have g12 := g11.2 c36
          exact hQ _ _ g12
    · have g5 := g4.2 c12
      refine ⟨g5.1, ?_⟩
      intro r50 e52
      have g16 := g5.2 r50 e52
      intro r54 e56
      have g17 := g16 r54 e56
      refine ⟨fun c58 => ?_, fun c58 => ?_⟩
      · have g18 := g17.1 c58
        refine ⟨g18.1, ?_⟩
        intro r60 e62
        have g19 := g18.2 r60 e62
        refine ⟨g19.1, ?_⟩
        have g20 := g19.2
        refine ⟨g20.1, ?_⟩
        intro r65 u66 e67
        have g21 := g20.2 r65 u66 e67
        refine ⟨fun c69 => ?_, fun c69 => ?_⟩
        · have g22 := g21.1 c69
          refine ⟨g22.1, ?_⟩
          have g23 := g22.2
          refine ⟨g23.1, ?_⟩
          intro r72 m75 m76 m77 m78 m79 m80 m81 e74
          have g24 := g23.2 r72 m75 m76 m77 m78 m79 m80 m81 e74
          refine ⟨fun c83 => ?_, fun c83 => ?_⟩
          · have g25 := g24.1 c83
            exact hQ _ _ g25
          · have g25 := g24.2 c83
            refine ⟨g25.1, ?_⟩
            intro r85 u86 e87
            have g26 := g25.2 r85 u86 e87
            refine ⟨fun c89 => ?_, fun c89 => ?_⟩
            · have g27 := g26.1 c89
              exact hQ _ _ g27
            · have g27 := g26.2 c89
              refine ⟨g27.1, ?_⟩
              intro r91 u92 e93
              have g28 := g27.2 r91 u92 e93
              refine ⟨fun c95 => ?_, fun c95 => ?_⟩
              · have g29 := g28.1 c95
                refine ⟨g29.1, ?_⟩
                have g30 := g29.2
                refine ⟨g30.1, ?_⟩
                intro r98 m101 m102 m103 m104 m105 m106 m107 e100
                have g31 := g30.2 r98 m101 m102 m103 m104 m105 m106 m107 e100
                refine ⟨g31.1, ?_⟩
                have g32 := g31.2
                exact hQ _ _ g32
              · have g29 := g28.2 c95
                exact hQ _ _ g29
        · have g22 := g21.2 c69
          exact hQ _ _ g22
      · have g18 := g17.2 c58
        exact hQ _ _ g18
  · have g4 := g3.2 c10
    refine ⟨g4.1, ?_⟩
    have g33 := g4.2
    refine ⟨g33.1, ?_⟩
    have g34 := g33.2
    refine ⟨g34.1, ?_⟩
    intro r111 u112 e113
    have g35 := g34.2 r111 u112 e113
    refine ⟨fun c115 => ?_, fun c115 => ?_⟩
    · have g36 := g35.1 c115
      refine ⟨g36.1, ?_⟩
      have g37 := g36.2
      refine ⟨g37.1, ?_⟩
      intro r118 m121 m122 m123 m124 m125 m126 m127 e120
      have g38 := g37.2 r118 m121 m122 m123 m124 m125 m126 m127 e120
      refine ⟨g38.1, ?_⟩
      have g39 := g38.2
      exact hQ _ _ g39
    · have g36 := g35.2 c115
      exact hQ _ _ g36
set_option maxRecDepth 100000 in
theorem qm_Mo_action (t_size : Int32) (t_pos : Int32) (t_at : Int32) (t_operators : Int32) (t_text : Nat → Int32) (t_kind : Nat → Int32) (t_target : Nat → Int32) (t_first : Nat → Int32) (t_starts : Nat → Int32) (t_compared : Nat → Int32) (t_code : Nat → Int32) (t_operator : Nat → Int32) (t_second : Nat → Int32) (x1 : Int32) {Q : Int32 → (Int32 × Int32 × Int32 × (Nat → Int32) × (Nat → Int32) × (Nat → Int32) × (Nat → Int32) × (Nat → Int32) × (Nat → Int32) × (Nat → Int32) × (Nat → Int32)) → Prop} (tgt : Int32 × Int32 × Int32 × Int32 × (Nat → Int32) × (Nat → Int32) × (Nat → Int32) × (Nat → Int32) × (Nat → Int32) × (Nat → Int32) × (Nat → Int32) × (Nat → Int32)) (f0 : s_Mo_action t_size t_pos t_at t_operators t_text t_kind t_target t_first t_starts t_compared t_code t_operator t_second x1 = tgt) (hp : WP_Mo_action t_size t_pos t_at t_operators t_text t_kind t_target t_first t_starts t_compared t_code t_operator t_second x1 Q) : Q tgt.1 tgt.2 := by
  unfold WP_Mo_action at hp
  unfold s_Mo_action at f0
  obtain ⟨r1, e3⟩ := zex1 (s_Mo_look t_size t_pos t_text)
  have g1 := hp.2 r1 e3
  have f1 := Eq.trans (Eq.symm (zl1_eq e3)) f0
  have g2 := g1.2
  obtain ⟨r6, e8⟩ := zex1 (s_Mo_in r1 (117 : Int32) (122 : Int32))
  have g3 := g2 r6 e8
  have f3 := Eq.trans (Eq.symm (zl1_eq e8)) f1
  by_cases c10 : r6 = 0
  · have f4 := Eq.trans (Eq.symm (if_pos c10)) f3
    have g4 := g3.1 c10
    by_cases c12 : r1 = (64 : Int32)
    · have f5 := Eq.trans (Eq.symm (if_pos c12)) f4
      have g5 := g4.2 c12
      obtain ⟨r50, e52⟩ := zex1 (s_Mo_look t_size (t_pos + (1 : Int32)) t_text)
      have g6 := g5.2 r50 e52
      have f6 := Eq.trans (Eq.symm (zl1_eq e52)) f5
      obtain ⟨r54, e56⟩ := zex1 (s_Mo_in r50 (65 : Int32) (67 : Int32))
      have g7 := g6 r54 e56
      have f7 := Eq.trans (Eq.symm (zl1_eq e56)) f6
      by_cases c58 : r54 = 0
      · have f8 := Eq.trans (Eq.symm (if_pos c58)) f7
        have g8 := g7.2 c58
        subst f8; exact g8
      · have f8 := Eq.trans (Eq.symm (if_neg c58)) f7
        have g8 := g7.1 c58
        obtain ⟨r60, e62⟩ := zex1 (s_Mo_look t_size (t_pos + (1 : Int32)) t_text)
        have g9 := g8.2 r60 e62
        have f9 := Eq.trans (Eq.symm (zl1_eq e62)) f8
        have g10 := g9.2
        obtain ⟨r65, u66, e67⟩ := zex2 (s_Mo_passes t_size ((t_pos + (1 : Int32)) + (1 : Int32)) t_text (91 : Int32))
        have g11 := g10.2 r65 u66 e67
        have f11 := Eq.trans (Eq.symm (zl2_eq e67)) f9
        by_cases c69 : r65 = 0
        · have f12 := Eq.trans (Eq.symm (if_pos c69)) f11
          have g12 := g11.2 c69
          subst f12; exact g12
        · have f12 := Eq.trans (Eq.symm (if_neg c69)) f11
          have g12 := g11.1 c69
          have g13 := g12.2
          obtain ⟨r72, m75, m76, m77, m78, m79, m80, m81, e74⟩ := zex8 (s_Mo_expression t_size u66 t_at t_operators t_starts t_compared t_text t_code t_operator)
          have g14 := g13.2 r72 m75 m76 m77 m78 m79 m80 m81 e74
          have f14 := Eq.trans (Eq.symm (zl2_eq e74)) f12
          have f14 := Eq.trans (Eq.symm (zl2_eq (Eq.refl (m75, m76, m77, m78, m79, m80, m81)))) f14
          have f14 := Eq.trans (Eq.symm (zl2_eq (Eq.refl (m76, m77, m78, m79, m80, m81)))) f14
          have f14 := Eq.trans (Eq.symm (zl2_eq (Eq.refl (m77, m78, m79, m80, m81)))) f14
          have f14 := Eq.trans (Eq.symm (zl2_eq (Eq.refl (m78, m79, m80, m81)))) f14
          have f14 := Eq.trans (Eq.symm (zl2_eq (Eq.refl (m79, m80, m81)))) f14
          have f14 := Eq.trans (Eq.symm (zl2_eq (Eq.refl (m80, m81)))) f14
          by_cases c83 : r72 = 0
          · have f15 := Eq.trans (Eq.symm (if_pos c83)) f14
            have g15 := g14.1 c83
            subst f15; exact g15
          · have f15 := Eq.trans (Eq.symm (if_neg c83)) f14
            have g15 := g14.2 c83
            obtain ⟨r85, u86, e87⟩ := zex2 (s_Mo_passes t_size m75 t_text (93 : Int32))
            have g16 := g15.2 r85 u86 e87
            have f16 := Eq.trans (Eq.symm (zl2_eq e87)) f15
            by_cases c89 : r85 = 0
            · have f17 := Eq.trans (Eq.symm (if_pos c89)) f16
              have g17 := g16.1 c89
              subst f17; exact g17
            · have f17 := Eq.trans (Eq.symm (if_neg c89)) f16
              have g17 := g16.2 c89
              obtain ⟨r91, u92, e93⟩ := zex2 (s_Mo_passes t_size u86 t_text (61 : Int32))
              have g18 := g17.2 r91 u92 e93
              have f18 := Eq.trans (Eq.symm (zl2_eq e93)) f17
              by_cases c95 : r91 = 0
              · have f19 := Eq.trans (Eq.symm (if_pos c95)) f18
                have g19 := g18.2 c95
                subst f19; exact g19
              · have f19 := Eq.trans (Eq.symm (if_neg c95)) f18
                have g19 := g18.1 c95
                have g20 := g19.2
                obtain ⟨r98, m101, m102, m103, m104, m105, m106, m107, e100⟩ := zex8 (s_Mo_expression t_size u92 m76 m77 m78 m79 t_text m80 m81)
                have g21 := g20.2 r98 m101 m102 m103 m104 m105 m106 m107 e100
                have f21 := Eq.trans (Eq.symm (zl2_eq e100)) f19
                have f21 := Eq.trans (Eq.symm (zl2_eq (Eq.refl (m101, m102, m103, m104, m105, m106, m107)))) f21
                have f21 := Eq.trans (Eq.symm (zl2_eq (Eq.refl (m102, m103, m104, m105, m106, m107)))) f21
                have f21 := Eq.trans (Eq.symm (zl2_eq (Eq.refl (m103, m104, m105, m106, m107)))) f21
                have f21 := Eq.trans (Eq.symm (zl2_eq (Eq.refl (m104, m105, m106, m107)))) f21
                have f21 := Eq.trans (Eq.symm (zl2_eq (Eq.refl (m105, m106, m107)))) f21
                have f21 := Eq.trans (Eq.symm (zl2_eq (Eq.refl (m106, m107)))) f21
                have g22 := g21.2
                subst f21; exact g22
    · have f5 := Eq.trans (Eq.symm (if_neg c12)) f4
      have g5 := g4.1 c12
      obtain ⟨r14, u15, e16⟩ := zex2 (s_Mo_passes t_size t_pos t_text (33 : Int32))
      have g23 := g5.2 r14 u15 e16
      have f23 := Eq.trans (Eq.symm (zl2_eq e16)) f5
      by_cases c18 : r14 = 0
      · have f24 := Eq.trans (Eq.symm (if_pos c18)) f23
        have g24 := g23.2 c18
        obtain ⟨r32, u33, e34⟩ := zex2 (s_Mo_passes t_size u15 t_text (63 : Int32))
        have g25 := g24.2 r32 u33 e34
        have f25 := Eq.trans (Eq.symm (zl2_eq e34)) f24
        by_cases c36 : r32 = 0
        · have f26 := Eq.trans (Eq.symm (if_pos c36)) f25
          have g26 := g25.2 c36
          subst f26; exact g26
        · have f26 := Eq.trans (Eq.symm (if_neg c36)) f25
          have g26 := g25.1 c36
          have g27 := g26.2
          obtain ⟨r39, m42, m43, m44, m45, m46, m47, m48, e41⟩ := zex8 (s_Mo_expression t_size u33 t_at t_operators t_starts t_compared t_text t_code t_operator)
          have g28 := g27.2 r39 m42 m43 m44 m45 m46 m47 m48 e41
          have f28 := Eq.trans (Eq.symm (zl2_eq e41)) f26
          have f28 := Eq.trans (Eq.symm (zl2_eq (Eq.refl (m42, m43, m44, m45, m46, m47, m48)))) f28
          have f28 := Eq.trans (Eq.symm (zl2_eq (Eq.refl (m43, m44, m45, m46, m47, m48)))) f28
          have f28 := Eq.trans (Eq.symm (zl2_eq (Eq.refl (m44, m45, m46, m47, m48)))) f28
          have f28 := Eq.trans (Eq.symm (zl2_eq (Eq.refl (m45, m46, m47, m48)))) f28
          have f28 := Eq.trans (Eq.symm (zl2_eq (Eq.refl (m46, m47, m48)))) f28
          have f28 := Eq.trans (Eq.symm (zl2_eq (Eq.refl (m47, m48)))) f28
          have g29 := g28.2
          subst f28; exact g29
      · have f24 := Eq.trans (Eq.symm (if_neg c18)) f23
        have g24 := g23.1 c18
        have g30 := g24.2
        obtain ⟨r21, m24, m25, m26, m27, m28, m29, m30, e23⟩ := zex8 (s_Mo_expression t_size u15 t_at t_operators t_starts t_compared t_text t_code t_operator)
        have g31 := g30.2 r21 m24 m25 m26 m27 m28 m29 m30 e23
        have f31 := Eq.trans (Eq.symm (zl2_eq e23)) f24
        have f31 := Eq.trans (Eq.symm (zl2_eq (Eq.refl (m24, m25, m26, m27, m28, m29, m30)))) f31
        have f31 := Eq.trans (Eq.symm (zl2_eq (Eq.refl (m25, m26, m27, m28, m29, m30)))) f31
        have f31 := Eq.trans (Eq.symm (zl2_eq (Eq.refl (m26, m27, m28, m29, m30)))) f31
        have f31 := Eq.trans (Eq.symm (zl2_eq (Eq.refl (m27, m28, m29, m30)))) f31
        have f31 := Eq.trans (Eq.symm (zl2_eq (Eq.refl (m28, m29, m30)))) f31
        have f31 := Eq.trans (Eq.symm (zl2_eq (Eq.refl (m29, m30)))) f31
        have g32 := g31.2
        subst f31; exact g32
  · have f4 := Eq.trans (Eq.symm (if_neg c10)) f3
    have g4 := g3.2 c10
    have g33 := g4.2
    have g34 := g33.2
    obtain ⟨r111, u112, e113⟩ := zex2 (s_Mo_passes t_size (t_pos + (1 : Int32)) t_text (61 : Int32))
    have g35 := g34.2 r111 u112 e113
    have f35 := Eq.trans (Eq.symm (zl2_eq e113)) f4
    by_cases c115 : r111 = 0
    · have f36 := Eq.trans (Eq.symm (if_pos c115)) f35
      have g36 := g35.2 c115
      subst f36; exact g36
    · have f36 := Eq.trans (Eq.symm (if_neg c115)) f35
      have g36 := g35.1 c115
      have g37 := g36.2
      obtain ⟨r118, m121, m122, m123, m124, m125, m126, m127, e120⟩ := zex8 (s_Mo_expression t_size u112 t_at t_operators t_starts t_compared t_text t_code t_operator)
      have g38 := g37.2 r118 m121 m122 m123 m124 m125 m126 m127 e120
      have f38 := Eq.trans (Eq.symm (zl2_eq e120)) f36
      have f38 := Eq.trans (Eq.symm (zl2_eq (Eq.refl (m121, m122, m123, m124, m125, m126, m127)))) f38
      have f38 := Eq.trans (Eq.symm (zl2_eq (Eq.refl (m122, m123, m124, m125, m126, m127)))) f38
      have f38 := Eq.trans (Eq.symm (zl2_eq (Eq.refl (m123, m124, m125, m126, m127)))) f38
      have f38 := Eq.trans (Eq.symm (zl2_eq (Eq.refl (m124, m125, m126, m127)))) f38
      have f38 := Eq.trans (Eq.symm (zl2_eq (Eq.refl (m125, m126, m127)))) f38
      have f38 := Eq.trans (Eq.symm (zl2_eq (Eq.refl (m126, m127)))) f38
      have g39 := g38.2
      subst f38; exact g39
theorem e_Mo_action (t_size : Int32) (t_pos : Int32) (t_at : Int32) (t_operators : Int32) (t_text : Nat → Int32) (t_kind : Nat → Int32) (t_target : Nat → Int32) (t_first : Nat → Int32) (t_starts : Nat → Int32) (t_compared : Nat → Int32) (t_code : Nat → Int32) (t_operator : Nat → Int32) (t_second : Nat → Int32) (x1 : Int32) {Q : Int32 → (Int32 × Int32 × Int32 × (Nat → Int32) × (Nat → Int32) × (Nat → Int32) × (Nat → Int32) × (Nat → Int32) × (Nat → Int32) × (Nat → Int32) × (Nat → Int32)) → Prop} (hp : WP_Mo_action t_size t_pos t_at t_operators t_text t_kind t_target t_first t_starts t_compared t_code t_operator t_second x1 Q) : p_Mo_action t_size t_pos t_at t_operators t_text t_kind t_target t_first t_starts t_compared t_code t_operator t_second x1 ∧ Q (s_Mo_action t_size t_pos t_at t_operators t_text t_kind t_target t_first t_starts t_compared t_code t_operator t_second x1).1 (s_Mo_action t_size t_pos t_at t_operators t_text t_kind t_target t_first t_starts t_compared t_code t_operator t_second x1).2 := ⟨pm_Mo_action t_size t_pos t_at t_operators t_text t_kind t_target t_first t_starts t_compared t_code t_operator t_second x1 (fun _ _ _ => trivial) hp, qm_Mo_action t_size t_pos t_at t_operators t_text t_kind t_target t_first t_starts t_compared t_code t_operator t_second x1 _ rfl hp⟩
set_option maxRecDepth 100000 in
theorem pm_Mo_rule_L149 {Q Q2 : Int32 → (Int32 × Int32 × Int32 × Int32 × Int32 × Int32 × (Nat → Int32) × (Nat → Int32) × (Nat → Int32) × (Nat → Int32) × (Nat → Int32) × (Nat → Int32) × (Nat → Int32) × (Nat → Int32)) → Prop} (hQ : ∀ r u, Q r u → Q2 r u) : ∀ (n : Nat) (y1 : Int32) (t_newSite : Int32) (t_newCondition : Int32) (t_newActions : Int32) (t_size : Int32) (t_pos : Int32) (t_at : Int32) (t_operators : Int32) (t_text : Nat → Int32) (t_starts : Nat → Int32) (t_compared : Nat → Int32) (t_code : Nat → Int32) (t_operator : Nat → Int32) (t_kind : Nat → Int32) (t_target : Nat → Int32) (t_first : Nat → Int32) (t_second : Nat → Int32), WP_Mo_rule_L149 n y1 t_newSite t_newCondition t_newActions t_size t_pos t_at t_operators t_text t_starts t_compared t_code t_operator t_kind t_target t_first t_second Q → WP_Mo_rule_L149 n y1 t_newSite t_newCondition t_newActions t_size t_pos t_at t_operators t_text t_starts t_compared t_code t_operator t_kind t_target t_first t_second Q2 := by
  intro n
  induction n with
  | zero => intros; contradiction
  | succ n ih =>
    intro y1 t_newSite t_newCondition t_newActions t_size t_pos t_at t_operators t_text t_starts t_compared t_code t_operator t_kind t_target t_first t_second hp
    unfold WP_Mo_rule_L149 at hp ⊢
    refine ⟨hp.1, ?_⟩
    intro r180 m183 m184 m185 m186 m187 m188 m189 m190 m191 m192 m193 e182
    have g1 := hp.2 r180 m183 m184 m185 m186 m187 m188 m189 m190 m191 m192 m193 e182
    refine ⟨fun c195 => ?_, fun c195 => ?_⟩
    · have g2 := g1.1 c195
      refine ⟨g2.1, ?_⟩
      intro r197 u198 e199
      have g3 := g2.2 r197 u198 e199
      refine ⟨fun c201 => ?_, fun c201 => ?_⟩
      · have g4 := g3.1 c201
        exact ih _ _ _ _ _ _ _ _ _ _ _ _ _ _ _ _ _ g4
      · have g4 := g3.2 c201
        refine ⟨g4.1, ?_⟩
        intro r203 u204 e205
        have g5 := g4.2 r203 u204 e205
        refine ⟨fun c207 => ?_, fun c207 => ?_⟩
        · have g6 := g5.1 c207
          exact hQ _ _ g6
        · have g6 := g5.2 c207
          refine ⟨fun c209 => ?_, fun c209 => ?_⟩
          · have g7 := g6.1 c209
            exact hQ _ _ g7
          · have g7 := g6.2 c209
            exact hQ _ _ g7
    · have g2 := g1.2 c195
      exact hQ _ _ g2
set_option maxRecDepth 100000 in
theorem qm_Mo_rule_L149 {Q : Int32 → (Int32 × Int32 × Int32 × Int32 × Int32 × Int32 × (Nat → Int32) × (Nat → Int32) × (Nat → Int32) × (Nat → Int32) × (Nat → Int32) × (Nat → Int32) × (Nat → Int32) × (Nat → Int32)) → Prop} : ∀ (n : Nat) (y1 : Int32) (t_newSite : Int32) (t_newCondition : Int32) (t_newActions : Int32) (t_size : Int32) (t_pos : Int32) (t_at : Int32) (t_operators : Int32) (t_text : Nat → Int32) (t_starts : Nat → Int32) (t_compared : Nat → Int32) (t_code : Nat → Int32) (t_operator : Nat → Int32) (t_kind : Nat → Int32) (t_target : Nat → Int32) (t_first : Nat → Int32) (t_second : Nat → Int32) (tgt : Int32 × Int32 × Int32 × Int32 × Int32 × Int32 × Int32 × (Nat → Int32) × (Nat → Int32) × (Nat → Int32) × (Nat → Int32) × (Nat → Int32) × (Nat → Int32) × (Nat → Int32) × (Nat → Int32)), s_Mo_rule_L149 n y1 t_newSite t_newCondition t_newActions t_size t_pos t_at t_operators t_text t_starts t_compared t_code t_operator t_kind t_target t_first t_second = tgt → WP_Mo_rule_L149 n y1 t_newSite t_newCondition t_newActions t_size t_pos t_at t_operators t_text t_starts t_compared t_code t_operator t_kind t_target t_first t_second Q → Q tgt.1 tgt.2 := by
  intro n
  induction n with
  | zero => intros; contradiction
  | succ n ih =>
    intro y1 t_newSite t_newCondition t_newActions t_size t_pos t_at t_operators t_text t_starts t_compared t_code t_operator t_kind t_target t_first t_second tgt f0 hp
    unfold WP_Mo_rule_L149 at hp
    unfold s_Mo_rule_L149 at f0
    obtain ⟨r180, m183, m184, m185, m186, m187, m188, m189, m190, m191, m192, m193, e182⟩ := zex12 (s_Mo_action t_size t_pos t_at t_operators t_text t_kind t_target t_first t_starts t_compared t_code t_operator t_second ((288 : Int32) + t_newActions))
    have g1 := hp.2 r180 m183 m184 m185 m186 m187 m188 m189 m190 m191 m192 m193 e182
    have f1 := Eq.trans (Eq.symm (zl2_eq e182)) f0
    have f1 := Eq.trans (Eq.symm (zl2_eq (Eq.refl (m183, m184, m185, m186, m187, m188, m189, m190, m191, m192, m193)))) f1
    have f1 := Eq.trans (Eq.symm (zl2_eq (Eq.refl (m184, m185, m186, m187, m188, m189, m190, m191, m192, m193)))) f1
    have f1 := Eq.trans (Eq.symm (zl2_eq (Eq.refl (m185, m186, m187, m188, m189, m190, m191, m192, m193)))) f1
    have f1 := Eq.trans (Eq.symm (zl2_eq (Eq.refl (m186, m187, m188, m189, m190, m191, m192, m193)))) f1
    have f1 := Eq.trans (Eq.symm (zl2_eq (Eq.refl (m187, m188, m189, m190, m191, m192, m193)))) f1
    have f1 := Eq.trans (Eq.symm (zl2_eq (Eq.refl (m188, m189, m190, m191, m192, m193)))) f1
    have f1 := Eq.trans (Eq.symm (zl2_eq (Eq.refl (m189, m190, m191, m192, m193)))) f1
    have f1 := Eq.trans (Eq.symm (zl2_eq (Eq.refl (m190, m191, m192, m193)))) f1
    have f1 := Eq.trans (Eq.symm (zl2_eq (Eq.refl (m191, m192, m193)))) f1
    have f1 := Eq.trans (Eq.symm (zl2_eq (Eq.refl (m192, m193)))) f1
    by_cases c195 : r180 = 0
    · have f2 := Eq.trans (Eq.symm (if_pos c195)) f1
      have g2 := g1.2 c195
      subst f2; exact g2
    · have f2 := Eq.trans (Eq.symm (if_neg c195)) f1
      have g2 := g1.1 c195
      obtain ⟨r197, u198, e199⟩ := zex2 (s_Mo_passes t_size m183 t_text (59 : Int32))
      have g3 := g2.2 r197 u198 e199
      have f3 := Eq.trans (Eq.symm (zl2_eq e199)) f2
      by_cases c201 : r197 = 0
      · have f4 := Eq.trans (Eq.symm (if_pos c201)) f3
        have g4 := g3.2 c201
        obtain ⟨r203, u204, e205⟩ := zex2 (s_Mo_passes t_size u198 t_text (125 : Int32))
        have g5 := g4.2 r203 u204 e205
        have f5 := Eq.trans (Eq.symm (zl2_eq e205)) f4
        by_cases c207 : r203 = 0
        · have f6 := Eq.trans (Eq.symm (if_pos c207)) f5
          have g6 := g5.1 c207
          subst f6; exact g6
        · have f6 := Eq.trans (Eq.symm (if_neg c207)) f5
          have g6 := g5.2 c207
          by_cases c209 : u204 = t_size
          · have f7 := Eq.trans (Eq.symm (if_pos c209)) f6
            have g7 := g6.2 c209
            subst f7; exact g7
          · have f7 := Eq.trans (Eq.symm (if_neg c209)) f6
            have g7 := g6.1 c209
            subst f7; exact g7
      · have f4 := Eq.trans (Eq.symm (if_neg c201)) f3
        have g4 := g3.1 c201
        exact ih _ _ _ _ _ _ _ _ _ _ _ _ _ _ _ _ _ _ f4 g4
set_option maxRecDepth 100000 in
theorem pm_Mo_rule (t_newSite : Int32) (t_newCondition : Int32) (t_newActions : Int32) (t_size : Int32) (t_pos : Int32) (t_at : Int32) (t_operators : Int32) (t_text : Nat → Int32) (t_starts : Nat → Int32) (t_compared : Nat → Int32) (t_code : Nat → Int32) (t_operator : Nat → Int32) (t_kind : Nat → Int32) (t_target : Nat → Int32) (t_first : Nat → Int32) (t_second : Nat → Int32) {Q Q2 : Int32 → (Int32 × Int32 × Int32 × Int32 × Int32 × Int32 × (Nat → Int32) × (Nat → Int32) × (Nat → Int32) × (Nat → Int32) × (Nat → Int32) × (Nat → Int32) × (Nat → Int32) × (Nat → Int32)) → Prop} (hQ : ∀ r u, Q r u → Q2 r u) (hp : WP_Mo_rule t_newSite t_newCondition t_newActions t_size t_pos t_at t_operators t_text t_starts t_compared t_code t_operator t_kind t_target t_first t_second Q) : WP_Mo_rule t_newSite t_newCondition t_newActions t_size t_pos t_at t_operators t_text t_starts t_compared t_code t_operator t_kind t_target t_first t_second Q2 := by
  unfold WP_Mo_rule at hp ⊢
  refine ⟨hp.1, ?_⟩
  intro r1 e3
  have g1 := hp.2 r1 e3
  refine ⟨fun c5 => ?_, fun c5 => ?_⟩
  · have g2 := g1.1 c5
    refine ⟨g2.1, ?_⟩
    intro r7 e9
    have g3 := g2.2 r7 e9
    refine ⟨fun c11 => ?_, fun c11 => ?_⟩
    · have g4 := g3.1 c11
      refine ⟨g4.1, ?_⟩
      intro r13 e15
      have g5 := g4.2 r13 e15
      intro r17 e19
      have g6 := g5 r17 e19
      refine ⟨fun c21 => ?_, fun c21 => ?_⟩
      · have g7 := g6.1 c21
        refine ⟨g7.1, ?_⟩
        intro r23 e25
        have g8 := g7.2 r23 e25
        refine ⟨g8.1, ?_⟩
        intro r28 u29 e30
        have g9 := g8.2 r28 u29 e30
        refine ⟨fun c32 => ?_, fun c32 => ?_⟩
        · have g10 := g9.1 c32
          refine ⟨g10.1, ?_⟩
          intro r34 u35 e36
          have g11 := g10.2 r34 u35 e36
          refine ⟨fun c38 => ?_, fun c38 => ?_⟩
          · have g12 := g11.1 c38
            exact pm_Mo_rule_L149 hQ _ _ _ _ _ _ _ _ _ _ _ _ _ _ _ _ _ _ g12
          · have g12 := g11.2 c38
            exact hQ _ _ g12
        · have g10 := g9.2 c32
          refine ⟨g10.1, ?_⟩
          intro r40 m43 m44 m45 m46 m47 m48 m49 e42
          have g13 := g10.2 r40 m43 m44 m45 m46 m47 m48 m49 e42
          refine ⟨fun c51 => ?_, fun c51 => ?_⟩
          · have g14 := g13.1 c51
            exact hQ _ _ g14
          · have g14 := g13.2 c51
            refine ⟨g14.1, ?_⟩
            intro r53 u54 e55
            have g15 := g14.2 r53 u54 e55
            refine ⟨fun c57 => ?_, fun c57 => ?_⟩
            · have g16 := g15.1 c57
              refine ⟨g16.1, ?_⟩
              intro r59 u60 e61
              have g17 := g16.2 r59 u60 e61
              refine ⟨fun c63 => ?_, fun c63 => ?_⟩
              · have g18 := g17.1 c63
                exact pm_Mo_rule_L149 hQ _ _ _ _ _ _ _ _ _ _ _ _ _ _ _ _ _ _ g18
              · have g18 := g17.2 c63
                exact hQ _ _ g18
            · have g16 := g15.2 c57
              exact hQ _ _ g16
      · have g7 := g6.2 c21
        exact hQ _ _ g7
    · have g4 := g3.2 c11
      refine ⟨g4.1, ?_⟩
      intro r65 e67
      have g19 := g4.2 r65 e67
      intro r69 e71
      have g20 := g19 r69 e71
      refine ⟨fun c73 => ?_, fun c73 => ?_⟩
      · have g21 := g20.1 c73
        refine ⟨g21.1, ?_⟩
        intro r75 e77
        have g22 := g21.2 r75 e77
        refine ⟨g22.1, ?_⟩
        intro r80 u81 e82
        have g23 := g22.2 r80 u81 e82
        refine ⟨fun c84 => ?_, fun c84 => ?_⟩
        · have g24 := g23.1 c84
          refine ⟨g24.1, ?_⟩
          intro r86 u87 e88
          have g25 := g24.2 r86 u87 e88
          refine ⟨fun c90 => ?_, fun c90 => ?_⟩
          · have g26 := g25.1 c90
            exact pm_Mo_rule_L149 hQ _ _ _ _ _ _ _ _ _ _ _ _ _ _ _ _ _ _ g26
          · have g26 := g25.2 c90
            exact hQ _ _ g26
        · have g24 := g23.2 c84
          refine ⟨g24.1, ?_⟩
          intro r92 m95 m96 m97 m98 m99 m100 m101 e94
          have g27 := g24.2 r92 m95 m96 m97 m98 m99 m100 m101 e94
          refine ⟨fun c103 => ?_, fun c103 => ?_⟩
          · have g28 := g27.1 c103
            exact hQ _ _ g28
          · have g28 := g27.2 c103
            refine ⟨g28.1, ?_⟩
            intro r105 u106 e107
            have g29 := g28.2 r105 u106 e107
            refine ⟨fun c109 => ?_, fun c109 => ?_⟩
            · have g30 := g29.1 c109
              refine ⟨g30.1, ?_⟩
              intro r111 u112 e113
              have g31 := g30.2 r111 u112 e113
              refine ⟨fun c115 => ?_, fun c115 => ?_⟩
              · have g32 := g31.1 c115
                exact pm_Mo_rule_L149 hQ _ _ _ _ _ _ _ _ _ _ _ _ _ _ _ _ _ _ g32
              · have g32 := g31.2 c115
                exact hQ _ _ g32
            · have g30 := g29.2 c109
              exact hQ _ _ g30
      · have g21 := g20.2 c73
        exact hQ _ _ g21
  · have g2 := g1.2 c5
    refine ⟨g2.1, ?_⟩
    intro r117 e119
    have g33 := g2.2 r117 e119
    refine ⟨fun c121 => ?_, fun c121 => ?_⟩
    · have g34 := g33.1 c121
      refine ⟨g34.1, ?_⟩
      intro r123 e125
      have g35 := g34.2 r123 e125
      refine ⟨g35.1, ?_⟩
      intro r128 e130
      have g36 := g35.2 r128 e130
      intro r132 e134
      have g37 := g36 r132 e134
      refine ⟨fun c136 => ?_, fun c136 => ?_⟩
      · have g38 := g37.1 c136
        refine ⟨g38.1, ?_⟩
        intro r138 e140
        have g39 := g38.2 r138 e140
        refine ⟨g39.1, ?_⟩
        intro r143 u144 e145
        have g40 := g39.2 r143 u144 e145
        refine ⟨fun c147 => ?_, fun c147 => ?_⟩
        · have g41 := g40.1 c147
          refine ⟨g41.1, ?_⟩
          intro r149 u150 e151
          have g42 := g41.2 r149 u150 e151
          refine ⟨fun c153 => ?_, fun c153 => ?_⟩
          · have g43 := g42.1 c153
            exact pm_Mo_rule_L149 hQ _ _ _ _ _ _ _ _ _ _ _ _ _ _ _ _ _ _ g43
          · have g43 := g42.2 c153
            exact hQ _ _ g43
        · have g41 := g40.2 c147
          refine ⟨g41.1, ?_⟩
          intro r155 m158 m159 m160 m161 m162 m163 m164 e157
          have g44 := g41.2 r155 m158 m159 m160 m161 m162 m163 m164 e157
          refine ⟨fun c166 => ?_, fun c166 => ?_⟩
          · have g45 := g44.1 c166
            exact hQ _ _ g45
          · have g45 := g44.2 c166
            refine ⟨g45.1, ?_⟩
            intro r168 u169 e170
            have g46 := g45.2 r168 u169 e170
            refine ⟨fun c172 => ?_, fun c172 => ?_⟩
            · have g47 := g46.1 c172
              refine ⟨g47.1, ?_⟩
              intro r174 u175 e176
              have g48 := g47.2 r174 u175 e176
              refine ⟨fun c178 => ?_, fun c178 => ?_⟩
              · have g49 := g48.1 c178
                exact pm_Mo_rule_L149 hQ _ _ _ _ _ _ _ _ _ _ _ _ _ _ _ _ _ _ g49
              · have g49 := g48.2 c178
                exact hQ _ _ g49
            · have g47 := g46.2 c172
              exact hQ _ _ g47
      · have g38 := g37.2 c136
        exact hQ _ _ g38
    · have g34 := g33.2 c121
      exact hQ _ _ g34
set_option maxRecDepth 100000 in
theorem qm_Mo_rule (t_newSite : Int32) (t_newCondition : Int32) (t_newActions : Int32) (t_size : Int32) (t_pos : Int32) (t_at : Int32) (t_operators : Int32) (t_text : Nat → Int32) (t_starts : Nat → Int32) (t_compared : Nat → Int32) (t_code : Nat → Int32) (t_operator : Nat → Int32) (t_kind : Nat → Int32) (t_target : Nat → Int32) (t_first : Nat → Int32) (t_second : Nat → Int32) {Q : Int32 → (Int32 × Int32 × Int32 × Int32 × Int32 × Int32 × (Nat → Int32) × (Nat → Int32) × (Nat → Int32) × (Nat → Int32) × (Nat → Int32) × (Nat → Int32) × (Nat → Int32) × (Nat → Int32)) → Prop} (tgt : Int32 × Int32 × Int32 × Int32 × Int32 × Int32 × Int32 × (Nat → Int32) × (Nat → Int32) × (Nat → Int32) × (Nat → Int32) × (Nat → Int32) × (Nat → Int32) × (Nat → Int32) × (Nat → Int32)) (f0 : s_Mo_rule t_newSite t_newCondition t_newActions t_size t_pos t_at t_operators t_text t_starts t_compared t_code t_operator t_kind t_target t_first t_second = tgt) (hp : WP_Mo_rule t_newSite t_newCondition t_newActions t_size t_pos t_at t_operators t_text t_starts t_compared t_code t_operator t_kind t_target t_first t_second Q) : Q tgt.1 tgt.2 := by
  unfold WP_Mo_rule at hp
  unfold s_Mo_rule at f0
  obtain ⟨r1, e3⟩ := zex1 (s_Mo_look t_size t_pos t_text)
  have g1 := hp.2 r1 e3
  have f1 := Eq.trans (Eq.symm (zl1_eq e3)) f0
  by_cases c5 : r1 = (101 : Int32)
  · have f2 := Eq.trans (Eq.symm (if_pos c5)) f1
    have g2 := g1.1 c5
    obtain ⟨r7, e9⟩ := zex1 (s_Mo_look t_size t_pos t_text)
    have g3 := g2.2 r7 e9
    have f3 := Eq.trans (Eq.symm (zl1_eq e9)) f2
    by_cases c11 : r1 = (120 : Int32)
    · have f4 := Eq.trans (Eq.symm (if_pos c11)) f3
      have g4 := g3.2 c11
      obtain ⟨r65, e67⟩ := zex1 (s_Mo_look t_size (t_pos + (1 : Int32)) t_text)
      have g5 := g4.2 r65 e67
      have f5 := Eq.trans (Eq.symm (zl1_eq e67)) f4
      obtain ⟨r69, e71⟩ := zex1 (s_Mo_in r65 (48 : Int32) (55 : Int32))
      have g6 := g5 r69 e71
      have f6 := Eq.trans (Eq.symm (zl1_eq e71)) f5
      by_cases c73 : r69 = 0
      · have f7 := Eq.trans (Eq.symm (if_pos c73)) f6
        have g7 := g6.2 c73
        subst f7; exact g7
      · have f7 := Eq.trans (Eq.symm (if_neg c73)) f6
        have g7 := g6.1 c73
        obtain ⟨r75, e77⟩ := zex1 (s_Mo_look t_size (t_pos + (1 : Int32)) t_text)
        have g8 := g7.2 r75 e77
        have f8 := Eq.trans (Eq.symm (zl1_eq e77)) f7
        obtain ⟨r80, u81, e82⟩ := zex2 (s_Mo_passes t_size ((t_pos + (1 : Int32)) + (1 : Int32)) t_text (47 : Int32))
        have g9 := g8.2 r80 u81 e82
        have f9 := Eq.trans (Eq.symm (zl2_eq e82)) f8
        by_cases c84 : r80 = 0
        · have f10 := Eq.trans (Eq.symm (if_pos c84)) f9
          have g10 := g9.1 c84
          obtain ⟨r86, u87, e88⟩ := zex2 (s_Mo_passes t_size u81 t_text (123 : Int32))
          have g11 := g10.2 r86 u87 e88
          have f11 := Eq.trans (Eq.symm (zl2_eq e88)) f10
          by_cases c90 : r86 = 0
          · have f12 := Eq.trans (Eq.symm (if_pos c90)) f11
            have g12 := g11.2 c90
            subst f12; exact g12
          · have f12 := Eq.trans (Eq.symm (if_neg c90)) f11
            have g12 := g11.1 c90
            exact qm_Mo_rule_L149 _ _ _ _ _ _ _ _ _ _ _ _ _ _ _ _ _ _ _ f12 g12
        · have f10 := Eq.trans (Eq.symm (if_neg c84)) f9
          have g10 := g9.2 c84
          obtain ⟨r92, m95, m96, m97, m98, m99, m100, m101, e94⟩ := zex8 (s_Mo_expression t_size u81 t_at t_operators t_starts t_compared t_text t_code t_operator)
          have g13 := g10.2 r92 m95 m96 m97 m98 m99 m100 m101 e94
          have f13 := Eq.trans (Eq.symm (zl2_eq e94)) f10
          have f13 := Eq.trans (Eq.symm (zl2_eq (Eq.refl (m95, m96, m97, m98, m99, m100, m101)))) f13
          have f13 := Eq.trans (Eq.symm (zl2_eq (Eq.refl (m96, m97, m98, m99, m100, m101)))) f13
          have f13 := Eq.trans (Eq.symm (zl2_eq (Eq.refl (m97, m98, m99, m100, m101)))) f13
          have f13 := Eq.trans (Eq.symm (zl2_eq (Eq.refl (m98, m99, m100, m101)))) f13
          have f13 := Eq.trans (Eq.symm (zl2_eq (Eq.refl (m99, m100, m101)))) f13
          have f13 := Eq.trans (Eq.symm (zl2_eq (Eq.refl (m100, m101)))) f13
          by_cases c103 : r92 = 0
          · have f14 := Eq.trans (Eq.symm (if_pos c103)) f13
            have g14 := g13.1 c103
            subst f14; exact g14
          · have f14 := Eq.trans (Eq.symm (if_neg c103)) f13
            have g14 := g13.2 c103
            obtain ⟨r105, u106, e107⟩ := zex2 (s_Mo_passes t_size m95 t_text (47 : Int32))
            have g15 := g14.2 r105 u106 e107
            have f15 := Eq.trans (Eq.symm (zl2_eq e107)) f14
            by_cases c109 : r105 = 0
            · have f16 := Eq.trans (Eq.symm (if_pos c109)) f15
              have g16 := g15.2 c109
              subst f16; exact g16
            · have f16 := Eq.trans (Eq.symm (if_neg c109)) f15
              have g16 := g15.1 c109
              obtain ⟨r111, u112, e113⟩ := zex2 (s_Mo_passes t_size u106 t_text (123 : Int32))
              have g17 := g16.2 r111 u112 e113
              have f17 := Eq.trans (Eq.symm (zl2_eq e113)) f16
              by_cases c115 : r111 = 0
              · have f18 := Eq.trans (Eq.symm (if_pos c115)) f17
                have g18 := g17.2 c115
                subst f18; exact g18
              · have f18 := Eq.trans (Eq.symm (if_neg c115)) f17
                have g18 := g17.1 c115
                exact qm_Mo_rule_L149 _ _ _ _ _ _ _ _ _ _ _ _ _ _ _ _ _ _ _ f18 g18
    · have f4 := Eq.trans (Eq.symm (if_neg c11)) f3
      have g4 := g3.1 c11
      obtain ⟨r13, e15⟩ := zex1 (s_Mo_look t_size (t_pos + (1 : Int32)) t_text)
      have g19 := g4.2 r13 e15
      have f19 := Eq.trans (Eq.symm (zl1_eq e15)) f4
      obtain ⟨r17, e19⟩ := zex1 (s_Mo_in r13 (48 : Int32) (55 : Int32))
      have g20 := g19 r17 e19
      have f20 := Eq.trans (Eq.symm (zl1_eq e19)) f19
      by_cases c21 : r17 = 0
      · have f21 := Eq.trans (Eq.symm (if_pos c21)) f20
        have g21 := g20.2 c21
        subst f21; exact g21
      · have f21 := Eq.trans (Eq.symm (if_neg c21)) f20
        have g21 := g20.1 c21
        obtain ⟨r23, e25⟩ := zex1 (s_Mo_look t_size (t_pos + (1 : Int32)) t_text)
        have g22 := g21.2 r23 e25
        have f22 := Eq.trans (Eq.symm (zl1_eq e25)) f21
        obtain ⟨r28, u29, e30⟩ := zex2 (s_Mo_passes t_size ((t_pos + (1 : Int32)) + (1 : Int32)) t_text (47 : Int32))
        have g23 := g22.2 r28 u29 e30
        have f23 := Eq.trans (Eq.symm (zl2_eq e30)) f22
        by_cases c32 : r28 = 0
        · have f24 := Eq.trans (Eq.symm (if_pos c32)) f23
          have g24 := g23.1 c32
          obtain ⟨r34, u35, e36⟩ := zex2 (s_Mo_passes t_size u29 t_text (123 : Int32))
          have g25 := g24.2 r34 u35 e36
          have f25 := Eq.trans (Eq.symm (zl2_eq e36)) f24
          by_cases c38 : r34 = 0
          · have f26 := Eq.trans (Eq.symm (if_pos c38)) f25
            have g26 := g25.2 c38
            subst f26; exact g26
          · have f26 := Eq.trans (Eq.symm (if_neg c38)) f25
            have g26 := g25.1 c38
            exact qm_Mo_rule_L149 _ _ _ _ _ _ _ _ _ _ _ _ _ _ _ _ _ _ _ f26 g26
        · have f24 := Eq.trans (Eq.symm (if_neg c32)) f23
          have g24 := g23.2 c32
          obtain ⟨r40, m43, m44, m45, m46, m47, m48, m49, e42⟩ := zex8 (s_Mo_expression t_size u29 t_at t_operators t_starts t_compared t_text t_code t_operator)
          have g27 := g24.2 r40 m43 m44 m45 m46 m47 m48 m49 e42
          have f27 := Eq.trans (Eq.symm (zl2_eq e42)) f24
          have f27 := Eq.trans (Eq.symm (zl2_eq (Eq.refl (m43, m44, m45, m46, m47, m48, m49)))) f27
          have f27 := Eq.trans (Eq.symm (zl2_eq (Eq.refl (m44, m45, m46, m47, m48, m49)))) f27
          have f27 := Eq.trans (Eq.symm (zl2_eq (Eq.refl (m45, m46, m47, m48, m49)))) f27
          have f27 := Eq.trans (Eq.symm (zl2_eq (Eq.refl (m46, m47, m48, m49)))) f27
          have f27 := Eq.trans (Eq.symm (zl2_eq (Eq.refl (m47, m48, m49)))) f27
          have f27 := Eq.trans (Eq.symm (zl2_eq (Eq.refl (m48, m49)))) f27
          by_cases c51 : r40 = 0
          · have f28 := Eq.trans (Eq.symm (if_pos c51)) f27
            have g28 := g27.1 c51
            subst f28; exact g28
          · have f28 := Eq.trans (Eq.symm (if_neg c51)) f27
            have g28 := g27.2 c51
            obtain ⟨r53, u54, e55⟩ := zex2 (s_Mo_passes t_size m43 t_text (47 : Int32))
            have g29 := g28.2 r53 u54 e55
            have f29 := Eq.trans (Eq.symm (zl2_eq e55)) f28
            by_cases c57 : r53 = 0
            · have f30 := Eq.trans (Eq.symm (if_pos c57)) f29
              have g30 := g29.2 c57
              subst f30; exact g30
            · have f30 := Eq.trans (Eq.symm (if_neg c57)) f29
              have g30 := g29.1 c57
              obtain ⟨r59, u60, e61⟩ := zex2 (s_Mo_passes t_size u54 t_text (123 : Int32))
              have g31 := g30.2 r59 u60 e61
              have f31 := Eq.trans (Eq.symm (zl2_eq e61)) f30
              by_cases c63 : r59 = 0
              · have f32 := Eq.trans (Eq.symm (if_pos c63)) f31
                have g32 := g31.2 c63
                subst f32; exact g32
              · have f32 := Eq.trans (Eq.symm (if_neg c63)) f31
                have g32 := g31.1 c63
                exact qm_Mo_rule_L149 _ _ _ _ _ _ _ _ _ _ _ _ _ _ _ _ _ _ _ f32 g32
  · have f2 := Eq.trans (Eq.symm (if_neg c5)) f1
    have g2 := g1.2 c5
    obtain ⟨r117, e119⟩ := zex1 (s_Mo_look t_size t_pos t_text)
    have g33 := g2.2 r117 e119
    have f33 := Eq.trans (Eq.symm (zl1_eq e119)) f2
    by_cases c121 : r1 = (120 : Int32)
    · have f34 := Eq.trans (Eq.symm (if_pos c121)) f33
      have g34 := g33.1 c121
      obtain ⟨r123, e125⟩ := zex1 (s_Mo_look t_size t_pos t_text)
      have g35 := g34.2 r123 e125
      have f35 := Eq.trans (Eq.symm (zl1_eq e125)) f34
      obtain ⟨r128, e130⟩ := zex1 (s_Mo_look t_size (t_pos + (1 : Int32)) t_text)
      have g36 := g35.2 r128 e130
      have f36 := Eq.trans (Eq.symm (zl1_eq e130)) f35
      obtain ⟨r132, e134⟩ := zex1 (s_Mo_in r128 (48 : Int32) (55 : Int32))
      have g37 := g36 r132 e134
      have f37 := Eq.trans (Eq.symm (zl1_eq e134)) f36
      by_cases c136 : r132 = 0
      · have f38 := Eq.trans (Eq.symm (if_pos c136)) f37
        have g38 := g37.2 c136
        subst f38; exact g38
      · have f38 := Eq.trans (Eq.symm (if_neg c136)) f37
        have g38 := g37.1 c136
        obtain ⟨r138, e140⟩ := zex1 (s_Mo_look t_size (t_pos + (1 : Int32)) t_text)
        have g39 := g38.2 r138 e140
        have f39 := Eq.trans (Eq.symm (zl1_eq e140)) f38
        obtain ⟨r143, u144, e145⟩ := zex2 (s_Mo_passes t_size ((t_pos + (1 : Int32)) + (1 : Int32)) t_text (47 : Int32))
        have g40 := g39.2 r143 u144 e145
        have f40 := Eq.trans (Eq.symm (zl2_eq e145)) f39
        by_cases c147 : r143 = 0
        · have f41 := Eq.trans (Eq.symm (if_pos c147)) f40
          have g41 := g40.1 c147
          obtain ⟨r149, u150, e151⟩ := zex2 (s_Mo_passes t_size u144 t_text (123 : Int32))
          have g42 := g41.2 r149 u150 e151
          have f42 := Eq.trans (Eq.symm (zl2_eq e151)) f41
          by_cases c153 : r149 = 0
          · have f43 := Eq.trans (Eq.symm (if_pos c153)) f42
            have g43 := g42.2 c153
            subst f43; exact g43
          · have f43 := Eq.trans (Eq.symm (if_neg c153)) f42
            have g43 := g42.1 c153
            exact qm_Mo_rule_L149 _ _ _ _ _ _ _ _ _ _ _ _ _ _ _ _ _ _ _ f43 g43
        · have f41 := Eq.trans (Eq.symm (if_neg c147)) f40
          have g41 := g40.2 c147
          obtain ⟨r155, m158, m159, m160, m161, m162, m163, m164, e157⟩ := zex8 (s_Mo_expression t_size u144 t_at t_operators t_starts t_compared t_text t_code t_operator)
          have g44 := g41.2 r155 m158 m159 m160 m161 m162 m163 m164 e157
          have f44 := Eq.trans (Eq.symm (zl2_eq e157)) f41
          have f44 := Eq.trans (Eq.symm (zl2_eq (Eq.refl (m158, m159, m160, m161, m162, m163, m164)))) f44
          have f44 := Eq.trans (Eq.symm (zl2_eq (Eq.refl (m159, m160, m161, m162, m163, m164)))) f44
          have f44 := Eq.trans (Eq.symm (zl2_eq (Eq.refl (m160, m161, m162, m163, m164)))) f44
          have f44 := Eq.trans (Eq.symm (zl2_eq (Eq.refl (m161, m162, m163, m164)))) f44
          have f44 := Eq.trans (Eq.symm (zl2_eq (Eq.refl (m162, m163, m164)))) f44
          have f44 := Eq.trans (Eq.symm (zl2_eq (Eq.refl (m163, m164)))) f44
          by_cases c166 : r155 = 0
          · have f45 := Eq.trans (Eq.symm (if_pos c166)) f44
            have g45 := g44.1 c166
            subst f45; exact g45
          · have f45 := Eq.trans (Eq.symm (if_neg c166)) f44
            have g45 := g44.2 c166
            obtain ⟨r168, u169, e170⟩ := zex2 (s_Mo_passes t_size m158 t_text (47 : Int32))
            have g46 := g45.2 r168 u169 e170
            have f46 := Eq.trans (Eq.symm (zl2_eq e170)) f45
            by_cases c172 : r168 = 0
            · have f47 := Eq.trans (Eq.symm (if_pos c172)) f46
              have g47 := g46.2 c172
              subst f47; exact g47
            · have f47 := Eq.trans (Eq.symm (if_neg c172)) f46
              have g47 := g46.1 c172
              obtain ⟨r174, u175, e176⟩ := zex2 (s_Mo_passes t_size u169 t_text (123 : Int32))
              have g48 := g47.2 r174 u175 e176
              have f48 := Eq.trans (Eq.symm (zl2_eq e176)) f47
              by_cases c178 : r174 = 0
              · have f49 := Eq.trans (Eq.symm (if_pos c178)) f48
                have g49 := g48.2 c178
                subst f49; exact g49
              · have f49 := Eq.trans (Eq.symm (if_neg c178)) f48
                have g49 := g48.1 c178
                exact qm_Mo_rule_L149 _ _ _ _ _ _ _ _ _ _ _ _ _ _ _ _ _ _ _ f49 g49
    · have f34 := Eq.trans (Eq.symm (if_neg c121)) f33
      have g34 := g33.2 c121
      subst f34; exact g34
theorem e_Mo_rule (t_newSite : Int32) (t_newCondition : Int32) (t_newActions : Int32) (t_size : Int32) (t_pos : Int32) (t_at : Int32) (t_operators : Int32) (t_text : Nat → Int32) (t_starts : Nat → Int32) (t_compared : Nat → Int32) (t_code : Nat → Int32) (t_operator : Nat → Int32) (t_kind : Nat → Int32) (t_target : Nat → Int32) (t_first : Nat → Int32) (t_second : Nat → Int32) {Q : Int32 → (Int32 × Int32 × Int32 × Int32 × Int32 × Int32 × (Nat → Int32) × (Nat → Int32) × (Nat → Int32) × (Nat → Int32) × (Nat → Int32) × (Nat → Int32) × (Nat → Int32) × (Nat → Int32)) → Prop} (hp : WP_Mo_rule t_newSite t_newCondition t_newActions t_size t_pos t_at t_operators t_text t_starts t_compared t_code t_operator t_kind t_target t_first t_second Q) : p_Mo_rule t_newSite t_newCondition t_newActions t_size t_pos t_at t_operators t_text t_starts t_compared t_code t_operator t_kind t_target t_first t_second ∧ Q (s_Mo_rule t_newSite t_newCondition t_newActions t_size t_pos t_at t_operators t_text t_starts t_compared t_code t_operator t_kind t_target t_first t_second).1 (s_Mo_rule t_newSite t_newCondition t_newActions t_size t_pos t_at t_operators t_text t_starts t_compared t_code t_operator t_kind t_target t_first t_second).2 := ⟨pm_Mo_rule t_newSite t_newCondition t_newActions t_size t_pos t_at t_operators t_text t_starts t_compared t_code t_operator t_kind t_target t_first t_second (fun _ _ _ => trivial) hp, qm_Mo_rule t_newSite t_newCondition t_newActions t_size t_pos t_at t_operators t_text t_starts t_compared t_code t_operator t_kind t_target t_first t_second _ rfl hp⟩
set_option maxRecDepth 100000 in
theorem pm_Mo_load (t_time : Int32) (t_thread : Int32) (t_handed : Nat → UInt64) (t_globals : Nat → UInt64) (t_own : Nat → UInt64) (x1 : Int32) {Q Q2 : UInt64 → Unit → Prop} (hQ : ∀ r u, Q r u → Q2 r u) (hp : WP_Mo_load t_time t_thread t_handed t_globals t_own x1 Q) : WP_Mo_load t_time t_thread t_handed t_globals t_own x1 Q2 := by
  unfold WP_Mo_load at hp ⊢
  intro r1 e3
  have g1 := hp r1 e3
  refine ⟨fun c5 => ?_, fun c5 => ?_⟩
  · have g2 := g1.1 c5
    refine ⟨fun c7 => ?_, fun c7 => ?_⟩
    · have g3 := g2.1 c7
      refine ⟨fun c9 => ?_, fun c9 => ?_⟩
      · have g4 := g3.1 c9
        refine ⟨fun c11 => ?_, fun c11 => ?_⟩
        · have g5 := g4.1 c11
          refine ⟨g5.1, ?_⟩
          have g6 := g5.2
          exact hQ _ _ g6
        · have g5 := g4.2 c11
          refine ⟨g5.1, ?_⟩
          have g7 := g5.2
          exact hQ _ _ g7
      · have g4 := g3.2 c9
        exact hQ _ _ g4
    · have g3 := g2.2 c7
      exact hQ _ _ g3
  · have g2 := g1.2 c5
    refine ⟨g2.1, ?_⟩
    have g8 := g2.2
    exact hQ _ _ g8
set_option maxRecDepth 100000 in
theorem qm_Mo_load (t_time : Int32) (t_thread : Int32) (t_handed : Nat → UInt64) (t_globals : Nat → UInt64) (t_own : Nat → UInt64) (x1 : Int32) {Q : UInt64 → Unit → Prop} (tgt : UInt64) (f0 : s_Mo_load t_time t_thread t_handed t_globals t_own x1 = tgt) (hp : WP_Mo_load t_time t_thread t_handed t_globals t_own x1 Q) : Q tgt () := by
  unfold WP_Mo_load at hp
  unfold s_Mo_load at f0
  obtain ⟨r1, e3⟩ := zex1 (s_Mo_in x1 (97 : Int32) (99 : Int32))
  have g1 := hp r1 e3
  have f1 := Eq.trans (Eq.symm (zl1_eq e3)) f0
  by_cases c5 : r1 = 0
  · have f2 := Eq.trans (Eq.symm (if_pos c5)) f1
    have g2 := g1.1 c5
    by_cases c7 : x1 = (116 : Int32)
    · have f3 := Eq.trans (Eq.symm (if_pos c7)) f2
      have g3 := g2.2 c7
      subst f3; exact g3
    · have f3 := Eq.trans (Eq.symm (if_neg c7)) f2
      have g3 := g2.1 c7
      by_cases c9 : x1 = (107 : Int32)
      · have f4 := Eq.trans (Eq.symm (if_pos c9)) f3
        have g4 := g3.2 c9
        subst f4; exact g4
      · have f4 := Eq.trans (Eq.symm (if_neg c9)) f3
        have g4 := g3.1 c9
        by_cases c11 : (120 : Int32) ≤ x1
        · have f5 := Eq.trans (Eq.symm (if_pos c11)) f4
          have g5 := g4.1 c11
          have g6 := g5.2
          subst f5; exact g6
        · have f5 := Eq.trans (Eq.symm (if_neg c11)) f4
          have g5 := g4.2 c11
          have g7 := g5.2
          subst f5; exact g7
  · have f2 := Eq.trans (Eq.symm (if_neg c5)) f1
    have g2 := g1.2 c5
    have g8 := g2.2
    subst f2; exact g8
theorem e_Mo_load (t_time : Int32) (t_thread : Int32) (t_handed : Nat → UInt64) (t_globals : Nat → UInt64) (t_own : Nat → UInt64) (x1 : Int32) {Q : UInt64 → Unit → Prop} (hp : WP_Mo_load t_time t_thread t_handed t_globals t_own x1 Q) : p_Mo_load t_time t_thread t_handed t_globals t_own x1 ∧ Q (s_Mo_load t_time t_thread t_handed t_globals t_own x1) () := ⟨pm_Mo_load t_time t_thread t_handed t_globals t_own x1 (fun _ _ _ => trivial) hp, qm_Mo_load t_time t_thread t_handed t_globals t_own x1 _ rfl hp⟩
set_option maxRecDepth 100000 in
theorem pm_Mo_reckon (t_failed : Int32) (x1 : Int32) (x2 : UInt64) (x4 : UInt64) {Q Q2 : UInt64 → Int32 → Prop} (hQ : ∀ r u, Q r u → Q2 r u) (hp : WP_Mo_reckon t_failed x1 x2 x4 Q) : WP_Mo_reckon t_failed x1 x2 x4 Q2 := by
  unfold WP_Mo_reckon at hp ⊢
  refine ⟨fun c1 => ?_, fun c1 => ?_⟩
  · have g1 := hp.1 c1
    refine ⟨fun c3 => ?_, fun c3 => ?_⟩
    · have g2 := g1.1 c3
      refine ⟨fun c5 => ?_, fun c5 => ?_⟩
      · have g3 := g2.1 c5
        refine ⟨fun c7 => ?_, fun c7 => ?_⟩
        · have g4 := g3.1 c7
          refine ⟨fun c9 => ?_, fun c9 => ?_⟩
          · have g5 := g4.1 c9
            refine ⟨fun c11 => ?_, fun c11 => ?_⟩
            · have g6 := g5.1 c11
              refine ⟨fun c13 => ?_, fun c13 => ?_⟩
              · have g7 := g6.1 c13
                refine ⟨g7.1, ?_⟩
                have g8 := g7.2
                refine ⟨fun c16 => ?_, fun c16 => ?_⟩
                · have g9 := g8.1 c16
                  exact hQ _ _ g9
                · have g9 := g8.2 c16
                  refine ⟨fun c18 => ?_, fun c18 => ?_⟩
                  · have g10 := g9.1 c18
                    exact hQ _ _ g10
                  · have g10 := g9.2 c18
                    exact hQ _ _ g10
              · have g7 := g6.2 c13
                refine ⟨g7.1, ?_⟩
                have g11 := g7.2
                refine ⟨fun c21 => ?_, fun c21 => ?_⟩
                · have g12 := g11.1 c21
                  exact hQ _ _ g12
                · have g12 := g11.2 c21
                  refine ⟨fun c23 => ?_, fun c23 => ?_⟩
                  · have g13 := g12.1 c23
                    exact hQ _ _ g13
                  · have g13 := g12.2 c23
                    exact hQ _ _ g13
            · have g6 := g5.2 c11
              refine ⟨g6.1, ?_⟩
              have g14 := g6.2
              refine ⟨fun c26 => ?_, fun c26 => ?_⟩
              · have g15 := g14.1 c26
                exact hQ _ _ g15
              · have g15 := g14.2 c26
                refine ⟨fun c28 => ?_, fun c28 => ?_⟩
                · have g16 := g15.1 c28
                  exact hQ _ _ g16
                · have g16 := g15.2 c28
                  exact hQ _ _ g16
          · have g5 := g4.2 c9
            refine ⟨g5.1, ?_⟩
            have g17 := g5.2
            refine ⟨fun c31 => ?_, fun c31 => ?_⟩
            · have g18 := g17.1 c31
              exact hQ _ _ g18
            · have g18 := g17.2 c31
              refine ⟨fun c33 => ?_, fun c33 => ?_⟩
              · have g19 := g18.1 c33
                exact hQ _ _ g19
              · have g19 := g18.2 c33
                exact hQ _ _ g19
        · have g4 := g3.2 c7
          refine ⟨fun c35 => ?_, fun c35 => ?_⟩
          · have g20 := g4.1 c35
            refine ⟨fun c37 => ?_, fun c37 => ?_⟩
            · have g21 := g20.1 c37
              refine ⟨fun c39 => ?_, fun c39 => ?_⟩
              · have g22 := g21.1 c39
                refine ⟨fun c41 => ?_, fun c41 => ?_⟩
                · have g23 := g22.1 c41
                  refine ⟨g23.1, ?_⟩
                  have g24 := g23.2
                  refine ⟨fun c44 => ?_, fun c44 => ?_⟩
                  · have g25 := g24.1 c44
                    exact hQ _ _ g25
                  · have g25 := g24.2 c44
                    refine ⟨fun c46 => ?_, fun c46 => ?_⟩
                    · have g26 := g25.1 c46
                      exact hQ _ _ g26
                    · have g26 := g25.2 c46
                      exact hQ _ _ g26
                · have g23 := g22.2 c41
                  refine ⟨g23.1, ?_⟩
                  have g27 := g23.2
                  refine ⟨fun c49 => ?_, fun c49 => ?_⟩
                  · have g28 := g27.1 c49
                    exact hQ _ _ g28
                  · have g28 := g27.2 c49
                    refine ⟨fun c51 => ?_, fun c51 => ?_⟩
                    · have g29 := g28.1 c51
                      exact hQ _ _ g29
                    · have g29 := g28.2 c51
                      exact hQ _ _ g29
              · have g22 := g21.2 c39
                refine ⟨g22.1, ?_⟩
                have g30 := g22.2
                refine ⟨fun c54 => ?_, fun c54 => ?_⟩
                · have g31 := g30.1 c54
                  exact hQ _ _ g31
                · have g31 := g30.2 c54
                  refine ⟨fun c56 => ?_, fun c56 => ?_⟩
                  · have g32 := g31.1 c56
                    exact hQ _ _ g32
                  · have g32 := g31.2 c56
                    exact hQ _ _ g32
            · have g21 := g20.2 c37
              refine ⟨g21.1, ?_⟩
              have g33 := g21.2
              refine ⟨fun c59 => ?_, fun c59 => ?_⟩
              · have g34 := g33.1 c59
                exact hQ _ _ g34
              · have g34 := g33.2 c59
                refine ⟨fun c61 => ?_, fun c61 => ?_⟩
                · have g35 := g34.1 c61
                  exact hQ _ _ g35
                · have g35 := g34.2 c61
                  exact hQ _ _ g35
          · have g20 := g4.2 c35
            exact hQ _ _ g20
      · have g3 := g2.2 c5
        refine ⟨fun c63 => ?_, fun c63 => ?_⟩
        · have g36 := g3.1 c63
          exact hQ _ _ g36
        · have g36 := g3.2 c63
          exact hQ _ _ g36
    · have g2 := g1.2 c3
      refine ⟨fun c65 => ?_, fun c65 => ?_⟩
      · have g37 := g2.1 c65
        exact hQ _ _ g37
      · have g37 := g2.2 c65
        exact hQ _ _ g37
  · have g1 := hp.2 c1
    refine ⟨fun c67 => ?_, fun c67 => ?_⟩
    · have g38 := g1.1 c67
      exact hQ _ _ g38
    · have g38 := g1.2 c67
      exact hQ _ _ g38
set_option maxRecDepth 100000 in
theorem qm_Mo_reckon (t_failed : Int32) (x1 : Int32) (x2 : UInt64) (x4 : UInt64) {Q : UInt64 → Int32 → Prop} (tgt : UInt64 × Int32) (f0 : s_Mo_reckon t_failed x1 x2 x4 = tgt) (hp : WP_Mo_reckon t_failed x1 x2 x4 Q) : Q tgt.1 tgt.2 := by
  unfold WP_Mo_reckon at hp
  unfold s_Mo_reckon at f0
  by_cases c1 : x1 = (60 : Int32)
  · have f1 := Eq.trans (Eq.symm (if_pos c1)) f0
    have g1 := hp.2 c1
    by_cases c67 : 0 ≤ (Op.cmpValue (FP.dcmp x2 x4) .g)
    · have f2 := Eq.trans (Eq.symm (if_pos c67)) f1
      have g2 := g1.1 c67
      subst f2; exact g2
    · have f2 := Eq.trans (Eq.symm (if_neg c67)) f1
      have g2 := g1.2 c67
      subst f2; exact g2
  · have f1 := Eq.trans (Eq.symm (if_neg c1)) f0
    have g1 := hp.1 c1
    by_cases c3 : x1 = (62 : Int32)
    · have f3 := Eq.trans (Eq.symm (if_pos c3)) f1
      have g3 := g1.2 c3
      by_cases c65 : (Op.cmpValue (FP.dcmp x2 x4) .l) ≤ 0
      · have f4 := Eq.trans (Eq.symm (if_pos c65)) f3
        have g4 := g3.1 c65
        subst f4; exact g4
      · have f4 := Eq.trans (Eq.symm (if_neg c65)) f3
        have g4 := g3.2 c65
        subst f4; exact g4
    · have f3 := Eq.trans (Eq.symm (if_neg c3)) f1
      have g3 := g1.1 c3
      by_cases c5 : x1 = (61 : Int32)
      · have f5 := Eq.trans (Eq.symm (if_pos c5)) f3
        have g5 := g3.2 c5
        by_cases c63 : (Op.cmpValue (FP.dcmp x2 x4) .l) = 0
        · have f6 := Eq.trans (Eq.symm (if_pos c63)) f5
          have g6 := g5.2 c63
          subst f6; exact g6
        · have f6 := Eq.trans (Eq.symm (if_neg c63)) f5
          have g6 := g5.1 c63
          subst f6; exact g6
      · have f5 := Eq.trans (Eq.symm (if_neg c5)) f3
        have g5 := g3.1 c5
        by_cases c7 : x1 = (58 : Int32)
        · have f7 := Eq.trans (Eq.symm (if_pos c7)) f5
          have g7 := g5.2 c7
          by_cases c35 : (Op.cmpValue (FP.dcmp x4 FP.dconst0) .l) = 0
          · have f8 := Eq.trans (Eq.symm (if_pos c35)) f7
            have g8 := g7.2 c35
            subst f8; exact g8
          · have f8 := Eq.trans (Eq.symm (if_neg c35)) f7
            have g8 := g7.1 c35
            by_cases c37 : x1 = (43 : Int32)
            · have f9 := Eq.trans (Eq.symm (if_pos c37)) f8
              have g9 := g8.2 c37
              have g10 := g9.2
              by_cases c59 : 0 < (Op.cmpValue (FP.dcmp (FP.dadd x2 x4) (4741671816366391296 : UInt64)) .l)
              · have f11 := Eq.trans (Eq.symm (if_pos c59)) f9
                have g11 := g10.1 c59
                subst f11; exact g11
              · have f11 := Eq.trans (Eq.symm (if_neg c59)) f9
                have g11 := g10.2 c59
                by_cases c61 : 0 ≤ (Op.cmpValue (FP.dcmp (FP.dadd x2 x4) (13965043853221167104 : UInt64)) .g)
                · have f12 := Eq.trans (Eq.symm (if_pos c61)) f11
                  have g12 := g11.1 c61
                  subst f12; exact g12
                · have f12 := Eq.trans (Eq.symm (if_neg c61)) f11
                  have g12 := g11.2 c61
                  subst f12; exact g12
            · have f9 := Eq.trans (Eq.symm (if_neg c37)) f8
              have g9 := g8.1 c37
              by_cases c39 : x1 = (45 : Int32)
              · have f13 := Eq.trans (Eq.symm (if_pos c39)) f9
                have g13 := g9.2 c39
                have g14 := g13.2
                by_cases c54 : 0 < (Op.cmpValue (FP.dcmp (FP.dsub x2 x4) (4741671816366391296 : UInt64)) .l)
                · have f15 := Eq.trans (Eq.symm (if_pos c54)) f13
                  have g15 := g14.1 c54
                  subst f15; exact g15
                · have f15 := Eq.trans (Eq.symm (if_neg c54)) f13
                  have g15 := g14.2 c54
                  by_cases c56 : 0 ≤ (Op.cmpValue (FP.dcmp (FP.dsub x2 x4) (13965043853221167104 : UInt64)) .g)
                  · have f16 := Eq.trans (Eq.symm (if_pos c56)) f15
                    have g16 := g15.1 c56
                    subst f16; exact g16
                  · have f16 := Eq.trans (Eq.symm (if_neg c56)) f15
                    have g16 := g15.2 c56
                    subst f16; exact g16
              · have f13 := Eq.trans (Eq.symm (if_neg c39)) f9
                have g13 := g9.1 c39
                by_cases c41 : x1 = (42 : Int32)
                · have f17 := Eq.trans (Eq.symm (if_pos c41)) f13
                  have g17 := g13.2 c41
                  have g18 := g17.2
                  by_cases c49 : 0 < (Op.cmpValue (FP.dcmp (FP.dmul x2 x4) (4741671816366391296 : UInt64)) .l)
                  · have f19 := Eq.trans (Eq.symm (if_pos c49)) f17
                    have g19 := g18.1 c49
                    subst f19; exact g19
                  · have f19 := Eq.trans (Eq.symm (if_neg c49)) f17
                    have g19 := g18.2 c49
                    by_cases c51 : 0 ≤ (Op.cmpValue (FP.dcmp (FP.dmul x2 x4) (13965043853221167104 : UInt64)) .g)
                    · have f20 := Eq.trans (Eq.symm (if_pos c51)) f19
                      have g20 := g19.1 c51
                      subst f20; exact g20
                    · have f20 := Eq.trans (Eq.symm (if_neg c51)) f19
                      have g20 := g19.2 c51
                      subst f20; exact g20
                · have f17 := Eq.trans (Eq.symm (if_neg c41)) f13
                  have g17 := g13.1 c41
                  have g21 := g17.2
                  by_cases c44 : 0 < (Op.cmpValue (FP.dcmp (FP.ddiv x2 x4) (4741671816366391296 : UInt64)) .l)
                  · have f22 := Eq.trans (Eq.symm (if_pos c44)) f17
                    have g22 := g21.1 c44
                    subst f22; exact g22
                  · have f22 := Eq.trans (Eq.symm (if_neg c44)) f17
                    have g22 := g21.2 c44
                    by_cases c46 : 0 ≤ (Op.cmpValue (FP.dcmp (FP.ddiv x2 x4) (13965043853221167104 : UInt64)) .g)
                    · have f23 := Eq.trans (Eq.symm (if_pos c46)) f22
                      have g23 := g22.1 c46
                      subst f23; exact g23
                    · have f23 := Eq.trans (Eq.symm (if_neg c46)) f22
                      have g23 := g22.2 c46
                      subst f23; exact g23
        · have f7 := Eq.trans (Eq.symm (if_neg c7)) f5
          have g7 := g5.1 c7
          by_cases c9 : x1 = (43 : Int32)
          · have f24 := Eq.trans (Eq.symm (if_pos c9)) f7
            have g24 := g7.2 c9
            have g25 := g24.2
            by_cases c31 : 0 < (Op.cmpValue (FP.dcmp (FP.dadd x2 x4) (4741671816366391296 : UInt64)) .l)
            · have f26 := Eq.trans (Eq.symm (if_pos c31)) f24
              have g26 := g25.1 c31
              subst f26; exact g26
            · have f26 := Eq.trans (Eq.symm (if_neg c31)) f24
              have g26 := g25.2 c31
              by_cases c33 : 0 ≤ (Op.cmpValue (FP.dcmp (FP.dadd x2 x4) (13965043853221167104 : UInt64)) .g)
              · have f27 := Eq.trans (Eq.symm (if_pos c33)) f26
                have g27 := g26.1 c33
                subst f27; exact g27
              · have f27 := Eq.trans (Eq.symm (if_neg c33)) f26
                have g27 := g26.2 c33
                subst f27; exact g27
          · have f24 := Eq.trans (Eq.symm (if_neg c9)) f7
            have g24 := g7.1 c9
            by_cases c11 : x1 = (45 : Int32)
            · have f28 := Eq.trans (Eq.symm (if_pos c11)) f24
              have g28 := g24.2 c11
              have g29 := g28.2
              by_cases c26 : 0 < (Op.cmpValue (FP.dcmp (FP.dsub x2 x4) (4741671816366391296 : UInt64)) .l)
              · have f30 := Eq.trans (Eq.symm (if_pos c26)) f28
                have g30 := g29.1 c26
                subst f30; exact g30
              · have f30 := Eq.trans (Eq.symm (if_neg c26)) f28
                have g30 := g29.2 c26
                by_cases c28 : 0 ≤ (Op.cmpValue (FP.dcmp (FP.dsub x2 x4) (13965043853221167104 : UInt64)) .g)
                · have f31 := Eq.trans (Eq.symm (if_pos c28)) f30
                  have g31 := g30.1 c28
                  subst f31; exact g31
                · have f31 := Eq.trans (Eq.symm (if_neg c28)) f30
                  have g31 := g30.2 c28
                  subst f31; exact g31
            · have f28 := Eq.trans (Eq.symm (if_neg c11)) f24
              have g28 := g24.1 c11
              by_cases c13 : x1 = (42 : Int32)
              · have f32 := Eq.trans (Eq.symm (if_pos c13)) f28
                have g32 := g28.2 c13
                have g33 := g32.2
                by_cases c21 : 0 < (Op.cmpValue (FP.dcmp (FP.dmul x2 x4) (4741671816366391296 : UInt64)) .l)
                · have f34 := Eq.trans (Eq.symm (if_pos c21)) f32
                  have g34 := g33.1 c21
                  subst f34; exact g34
                · have f34 := Eq.trans (Eq.symm (if_neg c21)) f32
                  have g34 := g33.2 c21
                  by_cases c23 : 0 ≤ (Op.cmpValue (FP.dcmp (FP.dmul x2 x4) (13965043853221167104 : UInt64)) .g)
                  · have f35 := Eq.trans (Eq.symm (if_pos c23)) f34
                    have g35 := g34.1 c23
                    subst f35; exact g35
                  · have f35 := Eq.trans (Eq.symm (if_neg c23)) f34
                    have g35 := g34.2 c23
                    subst f35; exact g35
              · have f32 := Eq.trans (Eq.symm (if_neg c13)) f28
                have g32 := g28.1 c13
                have g36 := g32.2
                by_cases c16 : 0 < (Op.cmpValue (FP.dcmp (FP.ddiv x2 x4) (4741671816366391296 : UInt64)) .l)
                · have f37 := Eq.trans (Eq.symm (if_pos c16)) f32
                  have g37 := g36.1 c16
                  subst f37; exact g37
                · have f37 := Eq.trans (Eq.symm (if_neg c16)) f32
                  have g37 := g36.2 c16
                  by_cases c18 : 0 ≤ (Op.cmpValue (FP.dcmp (FP.ddiv x2 x4) (13965043853221167104 : UInt64)) .g)
                  · have f38 := Eq.trans (Eq.symm (if_pos c18)) f37
                    have g38 := g37.1 c18
                    subst f38; exact g38
                  · have f38 := Eq.trans (Eq.symm (if_neg c18)) f37
                    have g38 := g37.2 c18
                    subst f38; exact g38
theorem e_Mo_reckon (t_failed : Int32) (x1 : Int32) (x2 : UInt64) (x4 : UInt64) {Q : UInt64 → Int32 → Prop} (hp : WP_Mo_reckon t_failed x1 x2 x4 Q) : p_Mo_reckon t_failed x1 x2 x4 ∧ Q (s_Mo_reckon t_failed x1 x2 x4).1 (s_Mo_reckon t_failed x1 x2 x4).2 := ⟨pm_Mo_reckon t_failed x1 x2 x4 (fun _ _ _ => trivial) hp, qm_Mo_reckon t_failed x1 x2 x4 _ rfl hp⟩
set_option maxRecDepth 100000 in
theorem pm_Mo_value_L4 {Q Q2 : UInt64 → (Int32 × (Nat → UInt64)) → Prop} (hQ : ∀ r u, Q r u → Q2 r u) : ∀ (n : Nat) (y1 : Int32) (y2 : Int32) (y3 : Int32) (t_time : Int32) (t_thread : Int32) (t_failed : Int32) (t_code : Nat → Int32) (t_pile : Nat → UInt64) (t_handed : Nat → UInt64) (t_globals : Nat → UInt64) (t_own : Nat → UInt64), WP_Mo_value_L4 n y1 y2 y3 t_time t_thread t_failed t_code t_pile t_handed t_globals t_own Q → WP_Mo_value_L4 n y1 y2 y3 t_time t_thread t_failed t_code t_pile t_handed t_globals t_own Q2 := by
  intro n
  induction n with
  | zero => intros; contradiction
  | succ n ih =>
    intro y1 y2 y3 t_time t_thread t_failed t_code t_pile t_handed t_globals t_own hp
    unfold WP_Mo_value_L4 at hp ⊢
    refine ⟨hp.1, ?_⟩
    have g1 := hp.2
    refine ⟨fun c2 => ?_, fun c2 => ?_⟩
    · have g2 := g1.1 c2
      exact hQ _ _ g2
    · have g2 := g1.2 c2
      refine ⟨fun c4 => ?_, fun c4 => ?_⟩
      · have g3 := g2.1 c4
        exact hQ _ _ g3
      · have g3 := g2.2 c4
        refine ⟨g3.1, ?_⟩
        have g4 := g3.2
        refine ⟨g4.1, ?_⟩
        have g5 := g4.2
        refine ⟨fun c8 => ?_, fun c8 => ?_⟩
        · have g6 := g5.1 c8
          refine ⟨fun c10 => ?_, fun c10 => ?_⟩
          · have g7 := g6.1 c10
            refine ⟨g7.1, ?_⟩
            have g8 := g7.2
            refine ⟨g8.1, ?_⟩
            have g9 := g8.2
            refine ⟨g9.1, ?_⟩
            intro r14 u15 e16
            have g10 := g9.2 r14 u15 e16
            refine ⟨g10.1, ?_⟩
            have g11 := g10.2
            exact ih _ _ _ _ _ _ _ _ _ _ _ g11
          · have g7 := g6.2 c10
            refine ⟨g7.1, ?_⟩
            have g12 := g7.2
            refine ⟨g12.1, ?_⟩
            have g13 := g12.2
            exact ih _ _ _ _ _ _ _ _ _ _ _ g13
        · have g6 := g5.2 c8
          refine ⟨fun c21 => ?_, fun c21 => ?_⟩
          · have g14 := g6.1 c21
            refine ⟨g14.1, ?_⟩
            intro r23 e25
            have g15 := g14.2 r23 e25
            refine ⟨g15.1, ?_⟩
            have g16 := g15.2
            exact ih _ _ _ _ _ _ _ _ _ _ _ g16
          · have g14 := g6.2 c21
            refine ⟨g14.1, ?_⟩
            have g17 := g14.2
            exact ih _ _ _ _ _ _ _ _ _ _ _ g17
set_option maxRecDepth 100000 in
theorem qm_Mo_value_L4 {Q : UInt64 → (Int32 × (Nat → UInt64)) → Prop} : ∀ (n : Nat) (y1 : Int32) (y2 : Int32) (y3 : Int32) (t_time : Int32) (t_thread : Int32) (t_failed : Int32) (t_code : Nat → Int32) (t_pile : Nat → UInt64) (t_handed : Nat → UInt64) (t_globals : Nat → UInt64) (t_own : Nat → UInt64) (tgt : UInt64 × Int32 × (Nat → UInt64)), s_Mo_value_L4 n y1 y2 y3 t_time t_thread t_failed t_code t_pile t_handed t_globals t_own = tgt → WP_Mo_value_L4 n y1 y2 y3 t_time t_thread t_failed t_code t_pile t_handed t_globals t_own Q → Q tgt.1 tgt.2 := by
  intro n
  induction n with
  | zero => intros; contradiction
  | succ n ih =>
    intro y1 y2 y3 t_time t_thread t_failed t_code t_pile t_handed t_globals t_own tgt f0 hp
    unfold WP_Mo_value_L4 at hp
    unfold s_Mo_value_L4 at f0
    have g1 := hp.2
    by_cases c2 : (t_code y3.toNatClampNeg) = 0
    · have f2 := Eq.trans (Eq.symm (if_pos c2)) f0
      have g2 := g1.1 c2
      subst f2; exact g2
    · have f2 := Eq.trans (Eq.symm (if_neg c2)) f0
      have g2 := g1.2 c2
      by_cases c4 : t_failed = 0
      · have f3 := Eq.trans (Eq.symm (if_pos c4)) f2
        have g3 := g2.2 c4
        have g4 := g3.2
        have g5 := g4.2
        by_cases c8 : (3 : Int32) ≤ (t_code y3.toNatClampNeg)
        · have f6 := Eq.trans (Eq.symm (if_pos c8)) f3
          have g6 := g5.1 c8
          by_cases c10 : (t_code y3.toNatClampNeg) = (4 : Int32)
          · have f7 := Eq.trans (Eq.symm (if_pos c10)) f6
            have g7 := g6.2 c10
            have g8 := g7.2
            have g9 := g8.2
            exact ih _ _ _ _ _ _ _ _ _ _ _ _ f7 g9
          · have f7 := Eq.trans (Eq.symm (if_neg c10)) f6
            have g7 := g6.1 c10
            have g10 := g7.2
            have g11 := g10.2
            obtain ⟨r14, u15, e16⟩ := zex2 (s_Mo_reckon t_failed (t_code (y3 + (1 : Int32)).toNatClampNeg) (t_pile (y2 - (2 : Int32)).toNatClampNeg) (t_pile (y2 - (1 : Int32)).toNatClampNeg))
            have g12 := g11.2 r14 u15 e16
            have f12 := Eq.trans (Eq.symm (zl2_eq e16)) f7
            have g13 := g12.2
            exact ih _ _ _ _ _ _ _ _ _ _ _ _ f12 g13
        · have f6 := Eq.trans (Eq.symm (if_neg c8)) f3
          have g6 := g5.2 c8
          by_cases c21 : (t_code y3.toNatClampNeg) = (1 : Int32)
          · have f14 := Eq.trans (Eq.symm (if_pos c21)) f6
            have g14 := g6.2 c21
            have g15 := g14.2
            exact ih _ _ _ _ _ _ _ _ _ _ _ _ f14 g15
          · have f14 := Eq.trans (Eq.symm (if_neg c21)) f6
            have g14 := g6.1 c21
            obtain ⟨r23, e25⟩ := zex1 (s_Mo_load t_time t_thread t_handed t_globals t_own (t_code (y3 + (1 : Int32)).toNatClampNeg))
            have g16 := g14.2 r23 e25
            have f16 := Eq.trans (Eq.symm (zl1_eq e25)) f14
            have g17 := g16.2
            exact ih _ _ _ _ _ _ _ _ _ _ _ _ f16 g17
      · have f3 := Eq.trans (Eq.symm (if_neg c4)) f2
        have g3 := g2.1 c4
        subst f3; exact g3
set_option maxRecDepth 100000 in
theorem pm_Mo_value (t_time : Int32) (t_thread : Int32) (t_failed : Int32) (t_code : Nat → Int32) (t_pile : Nat → UInt64) (t_handed : Nat → UInt64) (t_globals : Nat → UInt64) (t_own : Nat → UInt64) (x1 : Int32) {Q Q2 : UInt64 → (Int32 × (Nat → UInt64)) → Prop} (hQ : ∀ r u, Q r u → Q2 r u) (hp : WP_Mo_value t_time t_thread t_failed t_code t_pile t_handed t_globals t_own x1 Q) : WP_Mo_value t_time t_thread t_failed t_code t_pile t_handed t_globals t_own x1 Q2 := by
  unfold WP_Mo_value at hp ⊢
  exact pm_Mo_value_L4 hQ _ _ _ _ _ _ _ _ _ _ _ _ hp
set_option maxRecDepth 100000 in
theorem qm_Mo_value (t_time : Int32) (t_thread : Int32) (t_failed : Int32) (t_code : Nat → Int32) (t_pile : Nat → UInt64) (t_handed : Nat → UInt64) (t_globals : Nat → UInt64) (t_own : Nat → UInt64) (x1 : Int32) {Q : UInt64 → (Int32 × (Nat → UInt64)) → Prop} (tgt : UInt64 × Int32 × (Nat → UInt64)) (f0 : s_Mo_value t_time t_thread t_failed t_code t_pile t_handed t_globals t_own x1 = tgt) (hp : WP_Mo_value t_time t_thread t_failed t_code t_pile t_handed t_globals t_own x1 Q) : Q tgt.1 tgt.2 := by
  unfold WP_Mo_value at hp
  unfold s_Mo_value at f0
  exact qm_Mo_value_L4 _ _ _ _ _ _ _ _ _ _ _ _ _ f0 hp
theorem e_Mo_value (t_time : Int32) (t_thread : Int32) (t_failed : Int32) (t_code : Nat → Int32) (t_pile : Nat → UInt64) (t_handed : Nat → UInt64) (t_globals : Nat → UInt64) (t_own : Nat → UInt64) (x1 : Int32) {Q : UInt64 → (Int32 × (Nat → UInt64)) → Prop} (hp : WP_Mo_value t_time t_thread t_failed t_code t_pile t_handed t_globals t_own x1 Q) : p_Mo_value t_time t_thread t_failed t_code t_pile t_handed t_globals t_own x1 ∧ Q (s_Mo_value t_time t_thread t_failed t_code t_pile t_handed t_globals t_own x1).1 (s_Mo_value t_time t_thread t_failed t_code t_pile t_handed t_globals t_own x1).2 := ⟨pm_Mo_value t_time t_thread t_failed t_code t_pile t_handed t_globals t_own x1 (fun _ _ _ => trivial) hp, qm_Mo_value t_time t_thread t_failed t_code t_pile t_handed t_globals t_own x1 _ rfl hp⟩
set_option maxRecDepth 100000 in
theorem pm_Mo_binOf_L4 {Q Q2 : Int32 → Unit → Prop} (hQ : ∀ r u, Q r u → Q2 r u) : ∀ (n : Nat) (y0 : UInt64) (y2 : Int32) (y3 : UInt64), WP_Mo_binOf_L4 n y0 y2 y3 Q → WP_Mo_binOf_L4 n y0 y2 y3 Q2 := by
  intro n
  induction n with
  | zero => intros; contradiction
  | succ n ih =>
    intro y0 y2 y3 hp
    unfold WP_Mo_binOf_L4 at hp ⊢
    refine ⟨fun c1 => ?_, fun c1 => ?_⟩
    · have g1 := hp.1 c1
      exact hQ _ _ g1
    · have g1 := hp.2 c1
      refine ⟨fun c3 => ?_, fun c3 => ?_⟩
      · have g2 := g1.1 c3
        exact hQ _ _ g2
      · have g2 := g1.2 c3
        refine ⟨g2.1, ?_⟩
        have g3 := g2.2
        exact ih _ _ _ g3
set_option maxRecDepth 100000 in
theorem qm_Mo_binOf_L4 {Q : Int32 → Unit → Prop} : ∀ (n : Nat) (y0 : UInt64) (y2 : Int32) (y3 : UInt64) (tgt : Int32), s_Mo_binOf_L4 n y0 y2 y3 = tgt → WP_Mo_binOf_L4 n y0 y2 y3 Q → Q tgt () := by
  intro n
  induction n with
  | zero => intros; contradiction
  | succ n ih =>
    intro y0 y2 y3 tgt f0 hp
    unfold WP_Mo_binOf_L4 at hp
    unfold s_Mo_binOf_L4 at f0
    by_cases c1 : (7 : Int32) ≤ y2
    · have f1 := Eq.trans (Eq.symm (if_pos c1)) f0
      have g1 := hp.1 c1
      subst f1; exact g1
    · have f1 := Eq.trans (Eq.symm (if_neg c1)) f0
      have g1 := hp.2 c1
      by_cases c3 : (Op.cmpValue (FP.dcmp y0 y3) .l) < 0
      · have f2 := Eq.trans (Eq.symm (if_pos c3)) f1
        have g2 := g1.1 c3
        subst f2; exact g2
      · have f2 := Eq.trans (Eq.symm (if_neg c3)) f1
        have g2 := g1.2 c3
        have g3 := g2.2
        exact ih _ _ _ _ f2 g3
set_option maxRecDepth 100000 in
theorem pm_Mo_binOf (x0 : UInt64) {Q Q2 : Int32 → Unit → Prop} (hQ : ∀ r u, Q r u → Q2 r u) (hp : WP_Mo_binOf x0 Q) : WP_Mo_binOf x0 Q2 := by
  unfold WP_Mo_binOf at hp ⊢
  exact pm_Mo_binOf_L4 hQ _ _ _ _ hp
set_option maxRecDepth 100000 in
theorem qm_Mo_binOf (x0 : UInt64) {Q : Int32 → Unit → Prop} (tgt : Int32) (f0 : s_Mo_binOf x0 = tgt) (hp : WP_Mo_binOf x0 Q) : Q tgt () := by
  unfold WP_Mo_binOf at hp
  unfold s_Mo_binOf at f0
  exact qm_Mo_binOf_L4 _ _ _ _ _ f0 hp
theorem e_Mo_binOf (x0 : UInt64) {Q : Int32 → Unit → Prop} (hp : WP_Mo_binOf x0 Q) : p_Mo_binOf x0 ∧ Q (s_Mo_binOf x0) () := ⟨pm_Mo_binOf x0 (fun _ _ _ => trivial) hp, qm_Mo_binOf x0 _ rfl hp⟩
set_option maxRecDepth 100000 in
theorem pm_Mo_find_L2 {Q Q2 : Int32 → Unit → Prop} (hQ : ∀ r u, Q r u → Q2 r u) : ∀ (n : Nat) (y1 : Int32) (y2 : Int32) (y3 : Int32) (t_keys : Nat → Int32) (t_key : Nat → Int32), WP_Mo_find_L2 n y1 y2 y3 t_keys t_key Q → WP_Mo_find_L2 n y1 y2 y3 t_keys t_key Q2 := by
  intro n
  induction n with
  | zero => intros; contradiction
  | succ n ih =>
    intro y1 y2 y3 t_keys t_key hp
    unfold WP_Mo_find_L2 at hp ⊢
    refine ⟨hp.1, ?_⟩
    have g1 := hp.2
    refine ⟨fun c2 => ?_, fun c2 => ?_⟩
    · have g2 := g1.1 c2
      exact hQ _ _ g2
    · have g2 := g1.2 c2
      refine ⟨g2.1, ?_⟩
      have g3 := g2.2
      refine ⟨fun c5 => ?_, fun c5 => ?_⟩
      · have g4 := g3.1 c5
        exact ih _ _ _ _ _ g4
      · have g4 := g3.2 c5
        exact hQ _ _ g4
set_option maxRecDepth 100000 in
theorem qm_Mo_find_L2 {Q : Int32 → Unit → Prop} : ∀ (n : Nat) (y1 : Int32) (y2 : Int32) (y3 : Int32) (t_keys : Nat → Int32) (t_key : Nat → Int32) (tgt : Int32), s_Mo_find_L2 n y1 y2 y3 t_keys t_key = tgt → WP_Mo_find_L2 n y1 y2 y3 t_keys t_key Q → Q tgt () := by
  intro n
  induction n with
  | zero => intros; contradiction
  | succ n ih =>
    intro y1 y2 y3 t_keys t_key tgt f0 hp
    unfold WP_Mo_find_L2 at hp
    unfold s_Mo_find_L2 at f0
    have g1 := hp.2
    by_cases c2 : (t_keys y1.toNatClampNeg) ≤ y3
    · have f2 := Eq.trans (Eq.symm (if_pos c2)) f0
      have g2 := g1.1 c2
      subst f2; exact g2
    · have f2 := Eq.trans (Eq.symm (if_neg c2)) f0
      have g2 := g1.2 c2
      have g3 := g2.2
      by_cases c5 : (t_key ((y1 * (4 : Int32)) + y3).toNatClampNeg) = y2
      · have f4 := Eq.trans (Eq.symm (if_pos c5)) f2
        have g4 := g3.2 c5
        subst f4; exact g4
      · have f4 := Eq.trans (Eq.symm (if_neg c5)) f2
        have g4 := g3.1 c5
        exact ih _ _ _ _ _ _ f4 g4
set_option maxRecDepth 100000 in
theorem pm_Mo_find (t_keys : Nat → Int32) (t_key : Nat → Int32) (x1 : Int32) (x2 : Int32) {Q Q2 : Int32 → Unit → Prop} (hQ : ∀ r u, Q r u → Q2 r u) (hp : WP_Mo_find t_keys t_key x1 x2 Q) : WP_Mo_find t_keys t_key x1 x2 Q2 := by
  unfold WP_Mo_find at hp ⊢
  exact pm_Mo_find_L2 hQ _ _ _ _ _ _ hp
set_option maxRecDepth 100000 in
theorem qm_Mo_find (t_keys : Nat → Int32) (t_key : Nat → Int32) (x1 : Int32) (x2 : Int32) {Q : Int32 → Unit → Prop} (tgt : Int32) (f0 : s_Mo_find t_keys t_key x1 x2 = tgt) (hp : WP_Mo_find t_keys t_key x1 x2 Q) : Q tgt () := by
  unfold WP_Mo_find at hp
  unfold s_Mo_find at f0
  exact qm_Mo_find_L2 _ _ _ _ _ _ _ f0 hp
theorem e_Mo_find (t_keys : Nat → Int32) (t_key : Nat → Int32) (x1 : Int32) (x2 : Int32) {Q : Int32 → Unit → Prop} (hp : WP_Mo_find t_keys t_key x1 x2 Q) : p_Mo_find t_keys t_key x1 x2 ∧ Q (s_Mo_find t_keys t_key x1 x2) () := ⟨pm_Mo_find t_keys t_key x1 x2 (fun _ _ _ => trivial) hp, qm_Mo_find t_keys t_key x1 x2 _ rfl hp⟩
set_option maxRecDepth 100000 in
theorem pm_Mo_gather (t_dropped : Int32) (t_failed : Int32) (t_keys : Nat → Int32) (t_key : Nat → Int32) (t_sum : Nat → UInt64) (t_least : Nat → UInt64) (t_greatest : Nat → UInt64) (t_count : Nat → Int32) (t_bins : Nat → Int32) (x1 : Int32) (x2 : Int32) (x3 : UInt64) {Q Q2 : (Int32 × Int32 × (Nat → Int32) × (Nat → Int32) × (Nat → UInt64) × (Nat → UInt64) × (Nat → UInt64) × (Nat → Int32) × (Nat → Int32)) → Prop} (hQ : ∀ u, Q u → Q2 u) (hp : WP_Mo_gather t_dropped t_failed t_keys t_key t_sum t_least t_greatest t_count t_bins x1 x2 x3 Q) : WP_Mo_gather t_dropped t_failed t_keys t_key t_sum t_least t_greatest t_count t_bins x1 x2 x3 Q2 := by
  unfold WP_Mo_gather at hp ⊢
  refine ⟨hp.1, ?_⟩
  intro r1 e3
  have g1 := hp.2 r1 e3
  refine ⟨fun c5 => ?_, fun c5 => ?_⟩
  · have g2 := g1.1 c5
    refine ⟨g2.1, ?_⟩
    have g3 := g2.2
    refine ⟨g3.1, ?_⟩
    have g4 := g3.2
    refine ⟨fun c12 => ?_, fun c12 => ?_⟩
    · have g5 := g4.1 c12
      exact hQ _ g5
    · have g5 := g4.2 c12
      refine ⟨fun c14 => ?_, fun c14 => ?_⟩
      · have g6 := g5.1 c14
        refine ⟨g6.1, ?_⟩
        have g7 := g6.2
        refine ⟨g7.1, ?_⟩
        have g8 := g7.2
        refine ⟨fun c20 => ?_, fun c20 => ?_⟩
        · have g9 := g8.1 c20
          refine ⟨g9.1, ?_⟩
          have g10 := g9.2
          refine ⟨fun c24 => ?_, fun c24 => ?_⟩
          · have g11 := g10.1 c24
            refine ⟨g11.1, ?_⟩
            have g12 := g11.2
            refine ⟨g12.1, ?_⟩
            have g13 := g12.2
            refine ⟨g13.1, ?_⟩
            intro r28 e30
            have g14 := g13.2 r28 e30
            refine ⟨g14.1, ?_⟩
            have g15 := g14.2
            refine ⟨g15.1, ?_⟩
            have g16 := g15.2
            exact hQ _ g16
          · have g11 := g10.2 c24
            refine ⟨g11.1, ?_⟩
            have g17 := g11.2
            refine ⟨g17.1, ?_⟩
            have g18 := g17.2
            refine ⟨g18.1, ?_⟩
            have g19 := g18.2
            refine ⟨g19.1, ?_⟩
            intro r37 e39
            have g20 := g19.2 r37 e39
            refine ⟨g20.1, ?_⟩
            have g21 := g20.2
            refine ⟨g21.1, ?_⟩
            have g22 := g21.2
            exact hQ _ g22
        · have g9 := g8.2 c20
          refine ⟨g9.1, ?_⟩
          have g23 := g9.2
          refine ⟨g23.1, ?_⟩
          have g24 := g23.2
          refine ⟨fun c46 => ?_, fun c46 => ?_⟩
          · have g25 := g24.1 c46
            refine ⟨g25.1, ?_⟩
            have g26 := g25.2
            refine ⟨g26.1, ?_⟩
            have g27 := g26.2
            refine ⟨g27.1, ?_⟩
            intro r50 e52
            have g28 := g27.2 r50 e52
            refine ⟨g28.1, ?_⟩
            have g29 := g28.2
            refine ⟨g29.1, ?_⟩
            have g30 := g29.2
            exact hQ _ g30
          · have g25 := g24.2 c46
            refine ⟨g25.1, ?_⟩
            have g31 := g25.2
            refine ⟨g31.1, ?_⟩
            have g32 := g31.2
            refine ⟨g32.1, ?_⟩
            have g33 := g32.2
            refine ⟨g33.1, ?_⟩
            intro r59 e61
            have g34 := g33.2 r59 e61
            refine ⟨g34.1, ?_⟩
            have g35 := g34.2
            refine ⟨g35.1, ?_⟩
            have g36 := g35.2
            exact hQ _ g36
      · have g6 := g5.2 c14
        exact hQ _ g6
  · have g2 := g1.2 c5
    refine ⟨g2.1, ?_⟩
    have g37 := g2.2
    refine ⟨fun c66 => ?_, fun c66 => ?_⟩
    · have g38 := g37.1 c66
      refine ⟨g38.1, ?_⟩
      have g39 := g38.2
      refine ⟨g39.1, ?_⟩
      have g40 := g39.2
      refine ⟨fun c73 => ?_, fun c73 => ?_⟩
      · have g41 := g40.1 c73
        exact hQ _ g41
      · have g41 := g40.2 c73
        refine ⟨fun c75 => ?_, fun c75 => ?_⟩
        · have g42 := g41.1 c75
          refine ⟨g42.1, ?_⟩
          have g43 := g42.2
          refine ⟨g43.1, ?_⟩
          have g44 := g43.2
          refine ⟨g44.1, ?_⟩
          have g45 := g44.2
          refine ⟨g45.1, ?_⟩
          have g46 := g45.2
          refine ⟨g46.1, ?_⟩
          have g47 := g46.2
          refine ⟨g47.1, ?_⟩
          have g48 := g47.2
          refine ⟨g48.1, ?_⟩
          have g49 := g48.2
          refine ⟨g49.1, ?_⟩
          have g50 := g49.2
          refine ⟨g50.1, ?_⟩
          intro r88 e90
          have g51 := g50.2 r88 e90
          refine ⟨g51.1, ?_⟩
          have g52 := g51.2
          refine ⟨g52.1, ?_⟩
          have g53 := g52.2
          exact hQ _ g53
        · have g42 := g41.2 c75
          exact hQ _ g42
    · have g38 := g37.2 c66
      exact hQ _ g38
set_option maxRecDepth 100000 in
theorem qm_Mo_gather (t_dropped : Int32) (t_failed : Int32) (t_keys : Nat → Int32) (t_key : Nat → Int32) (t_sum : Nat → UInt64) (t_least : Nat → UInt64) (t_greatest : Nat → UInt64) (t_count : Nat → Int32) (t_bins : Nat → Int32) (x1 : Int32) (x2 : Int32) (x3 : UInt64) {Q : (Int32 × Int32 × (Nat → Int32) × (Nat → Int32) × (Nat → UInt64) × (Nat → UInt64) × (Nat → UInt64) × (Nat → Int32) × (Nat → Int32)) → Prop} (tgt : Int32 × Int32 × (Nat → Int32) × (Nat → Int32) × (Nat → UInt64) × (Nat → UInt64) × (Nat → UInt64) × (Nat → Int32) × (Nat → Int32)) (f0 : s_Mo_gather t_dropped t_failed t_keys t_key t_sum t_least t_greatest t_count t_bins x1 x2 x3 = tgt) (hp : WP_Mo_gather t_dropped t_failed t_keys t_key t_sum t_least t_greatest t_count t_bins x1 x2 x3 Q) : Q tgt := by
  unfold WP_Mo_gather at hp
  unfold s_Mo_gather at f0
  obtain ⟨r1, e3⟩ := zex1 (s_Mo_find t_keys t_key x1 x2)
  have g1 := hp.2 r1 e3
  have f1 := Eq.trans (Eq.symm (zl1_eq e3)) f0
  by_cases c5 : 0 ≤ r1
  · have f2 := Eq.trans (Eq.symm (if_pos c5)) f1
    have g2 := g1.1 c5
    have g3 := g2.2
    have g4 := g3.2
    by_cases c12 : 0 < (Op.cmpValue (FP.dcmp (FP.dadd (t_sum r1.toNatClampNeg) x3) (4741671816366391296 : UInt64)) .l)
    · have f5 := Eq.trans (Eq.symm (if_pos c12)) f2
      have g5 := g4.1 c12
      subst f5; exact g5
    · have f5 := Eq.trans (Eq.symm (if_neg c12)) f2
      have g5 := g4.2 c12
      by_cases c14 : 0 ≤ (Op.cmpValue (FP.dcmp (FP.dadd (t_sum r1.toNatClampNeg) x3) (13965043853221167104 : UInt64)) .g)
      · have f6 := Eq.trans (Eq.symm (if_pos c14)) f5
        have g6 := g5.1 c14
        have g7 := g6.2
        have g8 := g7.2
        by_cases c20 : 0 ≤ (Op.cmpValue (FP.dcmp x3 (t_least r1.toNatClampNeg)) .g)
        · have f9 := Eq.trans (Eq.symm (if_pos c20)) f6
          have g9 := g8.1 c20
          have g10 := g9.2
          by_cases c24 : (Op.cmpValue (FP.dcmp x3 (t_greatest r1.toNatClampNeg)) .l) ≤ 0
          · have f11 := Eq.trans (Eq.symm (if_pos c24)) f9
            have g11 := g10.1 c24
            have g12 := g11.2
            have g13 := g12.2
            obtain ⟨r28, e30⟩ := zex1 (s_Mo_binOf x3)
            have g14 := g13.2 r28 e30
            have f14 := Eq.trans (Eq.symm (zl1_eq e30)) f11
            have g15 := g14.2
            have g16 := g15.2
            subst f14; exact g16
          · have f11 := Eq.trans (Eq.symm (if_neg c24)) f9
            have g11 := g10.2 c24
            have g17 := g11.2
            have g18 := g17.2
            have g19 := g18.2
            obtain ⟨r37, e39⟩ := zex1 (s_Mo_binOf x3)
            have g20 := g19.2 r37 e39
            have f20 := Eq.trans (Eq.symm (zl1_eq e39)) f11
            have g21 := g20.2
            have g22 := g21.2
            subst f20; exact g22
        · have f9 := Eq.trans (Eq.symm (if_neg c20)) f6
          have g9 := g8.2 c20
          have g23 := g9.2
          have g24 := g23.2
          by_cases c46 : (Op.cmpValue (FP.dcmp x3 (t_greatest r1.toNatClampNeg)) .l) ≤ 0
          · have f25 := Eq.trans (Eq.symm (if_pos c46)) f9
            have g25 := g24.1 c46
            have g26 := g25.2
            have g27 := g26.2
            obtain ⟨r50, e52⟩ := zex1 (s_Mo_binOf x3)
            have g28 := g27.2 r50 e52
            have f28 := Eq.trans (Eq.symm (zl1_eq e52)) f25
            have g29 := g28.2
            have g30 := g29.2
            subst f28; exact g30
          · have f25 := Eq.trans (Eq.symm (if_neg c46)) f9
            have g25 := g24.2 c46
            have g31 := g25.2
            have g32 := g31.2
            have g33 := g32.2
            obtain ⟨r59, e61⟩ := zex1 (s_Mo_binOf x3)
            have g34 := g33.2 r59 e61
            have f34 := Eq.trans (Eq.symm (zl1_eq e61)) f25
            have g35 := g34.2
            have g36 := g35.2
            subst f34; exact g36
      · have f6 := Eq.trans (Eq.symm (if_neg c14)) f5
        have g6 := g5.2 c14
        subst f6; exact g6
  · have f2 := Eq.trans (Eq.symm (if_neg c5)) f1
    have g2 := g1.2 c5
    have g37 := g2.2
    by_cases c66 : (t_keys x1.toNatClampNeg) = (4 : Int32)
    · have f38 := Eq.trans (Eq.symm (if_pos c66)) f2
      have g38 := g37.2 c66
      subst f38; exact g38
    · have f38 := Eq.trans (Eq.symm (if_neg c66)) f2
      have g38 := g37.1 c66
      have g39 := g38.2
      have g40 := g39.2
      by_cases c73 : 0 < (Op.cmpValue (FP.dcmp (FP.dadd FP.dconst0 x3) (4741671816366391296 : UInt64)) .l)
      · have f41 := Eq.trans (Eq.symm (if_pos c73)) f38
        have g41 := g40.1 c73
        subst f41; exact g41
      · have f41 := Eq.trans (Eq.symm (if_neg c73)) f38
        have g41 := g40.2 c73
        by_cases c75 : 0 ≤ (Op.cmpValue (FP.dcmp (FP.dadd FP.dconst0 x3) (13965043853221167104 : UInt64)) .g)
        · have f42 := Eq.trans (Eq.symm (if_pos c75)) f41
          have g42 := g41.1 c75
          have g43 := g42.2
          have g44 := g43.2
          have g45 := g44.2
          have g46 := g45.2
          have g47 := g46.2
          have g48 := g47.2
          have g49 := g48.2
          have g50 := g49.2
          obtain ⟨r88, e90⟩ := zex1 (s_Mo_binOf x3)
          have g51 := g50.2 r88 e90
          have f51 := Eq.trans (Eq.symm (zl1_eq e90)) f42
          have g52 := g51.2
          have g53 := g52.2
          subst f51; exact g53
        · have f42 := Eq.trans (Eq.symm (if_neg c75)) f41
          have g42 := g41.2 c75
          subst f42; exact g42
theorem e_Mo_gather (t_dropped : Int32) (t_failed : Int32) (t_keys : Nat → Int32) (t_key : Nat → Int32) (t_sum : Nat → UInt64) (t_least : Nat → UInt64) (t_greatest : Nat → UInt64) (t_count : Nat → Int32) (t_bins : Nat → Int32) (x1 : Int32) (x2 : Int32) (x3 : UInt64) {Q : (Int32 × Int32 × (Nat → Int32) × (Nat → Int32) × (Nat → UInt64) × (Nat → UInt64) × (Nat → UInt64) × (Nat → Int32) × (Nat → Int32)) → Prop} (hp : WP_Mo_gather t_dropped t_failed t_keys t_key t_sum t_least t_greatest t_count t_bins x1 x2 x3 Q) : p_Mo_gather t_dropped t_failed t_keys t_key t_sum t_least t_greatest t_count t_bins x1 x2 x3 ∧ Q (s_Mo_gather t_dropped t_failed t_keys t_key t_sum t_least t_greatest t_count t_bins x1 x2 x3) := ⟨pm_Mo_gather t_dropped t_failed t_keys t_key t_sum t_least t_greatest t_count t_bins x1 x2 x3 (fun _ _ => trivial) hp, qm_Mo_gather t_dropped t_failed t_keys t_key t_sum t_least t_greatest t_count t_bins x1 x2 x3 _ rfl hp⟩
set_option maxRecDepth 100000 in
theorem pm_Mo_put_L11 {Q Q2 : (Int32 × Int32 × (Nat → UInt64)) → Prop} (hQ : ∀ u, Q u → Q2 u) : ∀ (n : Nat) (y1 : UInt64) (y3 : Int32) (t_recorded : Int32) (t_lost : Int32) (t_records : Nat → UInt64), WP_Mo_put_L11 n y1 y3 t_recorded t_lost t_records Q → WP_Mo_put_L11 n y1 y3 t_recorded t_lost t_records Q2 := by
  intro n
  induction n with
  | zero => intros; contradiction
  | succ n ih =>
    intro y1 y3 t_recorded t_lost t_records hp
    unfold WP_Mo_put_L11 at hp ⊢
    refine ⟨fun c4 => ?_, fun c4 => ?_⟩
    · have g1 := hp.1 c4
      exact hQ _ g1
    · have g1 := hp.2 c4
      refine ⟨g1.1, ?_⟩
      have g2 := g1.2
      refine ⟨g2.1, ?_⟩
      have g3 := g2.2
      exact ih _ _ _ _ _ g3
set_option maxRecDepth 100000 in
theorem qm_Mo_put_L11 {Q : (Int32 × Int32 × (Nat → UInt64)) → Prop} : ∀ (n : Nat) (y1 : UInt64) (y3 : Int32) (t_recorded : Int32) (t_lost : Int32) (t_records : Nat → UInt64) (tgt : Int32 × Int32 × (Nat → UInt64)), s_Mo_put_L11 n y1 y3 t_recorded t_lost t_records = tgt → WP_Mo_put_L11 n y1 y3 t_recorded t_lost t_records Q → Q tgt := by
  intro n
  induction n with
  | zero => intros; contradiction
  | succ n ih =>
    intro y1 y3 t_recorded t_lost t_records tgt f0 hp
    unfold WP_Mo_put_L11 at hp
    unfold s_Mo_put_L11 at f0
    by_cases c4 : (5 : Int32) ≤ y3
    · have f1 := Eq.trans (Eq.symm (if_pos c4)) f0
      have g1 := hp.1 c4
      subst f1; exact g1
    · have f1 := Eq.trans (Eq.symm (if_neg c4)) f0
      have g1 := hp.2 c4
      have g2 := g1.2
      have g3 := g2.2
      exact ih _ _ _ _ _ _ f1 g3
set_option maxRecDepth 100000 in
theorem pm_Mo_put (t_recorded : Int32) (t_lost : Int32) (t_records : Nat → UInt64) (x1 : UInt64) {Q Q2 : (Int32 × Int32 × (Nat → UInt64)) → Prop} (hQ : ∀ u, Q u → Q2 u) (hp : WP_Mo_put t_recorded t_lost t_records x1 Q) : WP_Mo_put t_recorded t_lost t_records x1 Q2 := by
  unfold WP_Mo_put at hp ⊢
  refine ⟨fun c1 => ?_, fun c1 => ?_⟩
  · have g1 := hp.1 c1
    refine ⟨g1.1, ?_⟩
    have g2 := g1.2
    exact hQ _ g2
  · have g1 := hp.2 c1
    exact pm_Mo_put_L11 hQ _ _ _ _ _ _ g1
set_option maxRecDepth 100000 in
theorem qm_Mo_put (t_recorded : Int32) (t_lost : Int32) (t_records : Nat → UInt64) (x1 : UInt64) {Q : (Int32 × Int32 × (Nat → UInt64)) → Prop} (tgt : Int32 × Int32 × (Nat → UInt64)) (f0 : s_Mo_put t_recorded t_lost t_records x1 = tgt) (hp : WP_Mo_put t_recorded t_lost t_records x1 Q) : Q tgt := by
  unfold WP_Mo_put at hp
  unfold s_Mo_put at f0
  by_cases c1 : t_recorded = (6 : Int32)
  · have f1 := Eq.trans (Eq.symm (if_pos c1)) f0
    have g1 := hp.2 c1
    exact qm_Mo_put_L11 _ _ _ _ _ _ _ f1 g1
  · have f1 := Eq.trans (Eq.symm (if_neg c1)) f0
    have g1 := hp.1 c1
    have g2 := g1.2
    subst f1; exact g2
theorem e_Mo_put (t_recorded : Int32) (t_lost : Int32) (t_records : Nat → UInt64) (x1 : UInt64) {Q : (Int32 × Int32 × (Nat → UInt64)) → Prop} (hp : WP_Mo_put t_recorded t_lost t_records x1 Q) : p_Mo_put t_recorded t_lost t_records x1 ∧ Q (s_Mo_put t_recorded t_lost t_records x1) := ⟨pm_Mo_put t_recorded t_lost t_records x1 (fun _ _ => trivial) hp, qm_Mo_put t_recorded t_lost t_records x1 _ rfl hp⟩
set_option maxRecDepth 100000 in
theorem pm_Mo_perform (t_recorded : Int32) (t_lost : Int32) (t_dropped : Int32) (t_time : Int32) (t_thread : Int32) (t_failed : Int32) (t_kind : Nat → Int32) (t_second : Nat → Int32) (t_code : Nat → Int32) (t_pile : Nat → UInt64) (t_handed : Nat → UInt64) (t_globals : Nat → UInt64) (t_own : Nat → UInt64) (t_records : Nat → UInt64) (t_target : Nat → Int32) (t_keys : Nat → Int32) (t_key : Nat → Int32) (t_sum : Nat → UInt64) (t_least : Nat → UInt64) (t_greatest : Nat → UInt64) (t_count : Nat → Int32) (t_bins : Nat → Int32) (t_first : Nat → Int32) (x1 : Int32) {Q Q2 : Int32 → (Int32 × Int32 × Int32 × Int32 × (Nat → UInt64) × (Nat → UInt64) × (Nat → UInt64) × (Nat → UInt64) × (Nat → Int32) × (Nat → Int32) × (Nat → UInt64) × (Nat → UInt64) × (Nat → UInt64) × (Nat → Int32) × (Nat → Int32)) → Prop} (hQ : ∀ r u, Q r u → Q2 r u) (hp : WP_Mo_perform t_recorded t_lost t_dropped t_time t_thread t_failed t_kind t_second t_code t_pile t_handed t_globals t_own t_records t_target t_keys t_key t_sum t_least t_greatest t_count t_bins t_first x1 Q) : WP_Mo_perform t_recorded t_lost t_dropped t_time t_thread t_failed t_kind t_second t_code t_pile t_handed t_globals t_own t_records t_target t_keys t_key t_sum t_least t_greatest t_count t_bins t_first x1 Q2 := by
  unfold WP_Mo_perform at hp ⊢
  refine ⟨hp.1, ?_⟩
  have g1 := hp.2
  refine ⟨fun c2 => ?_, fun c2 => ?_⟩
  · have g2 := g1.1 c2
    refine ⟨fun c4 => ?_, fun c4 => ?_⟩
    · have g3 := g2.1 c4
      refine ⟨g3.1, ?_⟩
      have g4 := g3.2
      refine ⟨g4.1, ?_⟩
      intro r7 m10 m11 e9
      have g5 := g4.2 r7 m10 m11 e9
      refine ⟨fun c13 => ?_, fun c13 => ?_⟩
      · have g6 := g5.1 c13
        refine ⟨g6.1, ?_⟩
        have g7 := g6.2
        refine ⟨fun c16 => ?_, fun c16 => ?_⟩
        · have g8 := g7.1 c16
          refine ⟨g8.1, ?_⟩
          have g9 := g8.2
          refine ⟨fun c19 => ?_, fun c19 => ?_⟩
          · have g10 := g9.1 c19
            refine ⟨g10.1, ?_⟩
            have g11 := g10.2
            refine ⟨g11.1, ?_⟩
            have g12 := g11.2
            refine ⟨fun c24 => ?_, fun c24 => ?_⟩
            · have g13 := g12.1 c24
              refine ⟨g13.1, ?_⟩
              have g14 := g13.2
              refine ⟨g14.1, ?_⟩
              have g15 := g14.2
              exact hQ _ _ g15
            · have g13 := g12.2 c24
              refine ⟨g13.1, ?_⟩
              have g16 := g13.2
              refine ⟨g16.1, ?_⟩
              have g17 := g16.2
              exact hQ _ _ g17
          · have g10 := g9.2 c19
            refine ⟨g10.1, ?_⟩
            intro m35 m36 m37 e34
            have g18 := g10.2 m35 m36 m37 e34
            exact hQ _ _ g18
        · have g8 := g7.2 c16
          refine ⟨fun c40 => ?_, fun c40 => ?_⟩
          · have g19 := g8.1 c40
            exact hQ _ _ g19
          · have g19 := g8.2 c40
            exact hQ _ _ g19
      · have g6 := g5.2 c13
        exact hQ _ _ g6
    · have g3 := g2.2 c4
      exact hQ _ _ g3
  · have g2 := g1.2 c2
    refine ⟨g2.1, ?_⟩
    have g20 := g2.2
    refine ⟨g20.1, ?_⟩
    intro r44 m47 m48 e46
    have g21 := g20.2 r44 m47 m48 e46
    refine ⟨fun c50 => ?_, fun c50 => ?_⟩
    · have g22 := g21.1 c50
      refine ⟨g22.1, ?_⟩
      have g23 := g22.2
      refine ⟨g23.1, ?_⟩
      intro r53 m56 m57 e55
      have g24 := g23.2 r53 m56 m57 e55
      refine ⟨fun c59 => ?_, fun c59 => ?_⟩
      · have g25 := g24.1 c59
        refine ⟨g25.1, ?_⟩
        have g26 := g25.2
        refine ⟨fun c62 => ?_, fun c62 => ?_⟩
        · have g27 := g26.1 c62
          refine ⟨g27.1, ?_⟩
          have g28 := g27.2
          refine ⟨fun c65 => ?_, fun c65 => ?_⟩
          · have g29 := g28.1 c65
            refine ⟨g29.1, ?_⟩
            have g30 := g29.2
            refine ⟨g30.1, ?_⟩
            have g31 := g30.2
            refine ⟨g31.1, ?_⟩
            intro m73 m74 m75 m76 m77 m78 m79 m80 m81 e72
            have g32 := g31.2 m73 m74 m75 m76 m77 m78 m79 m80 m81 e72
            refine ⟨fun c83 => ?_, fun c83 => ?_⟩
            · have g33 := g32.1 c83
              exact hQ _ _ g33
            · have g33 := g32.2 c83
              exact hQ _ _ g33
          · have g29 := g28.2 c65
            refine ⟨g29.1, ?_⟩
            intro m88 m89 m90 e87
            have g34 := g29.2 m88 m89 m90 e87
            exact hQ _ _ g34
        · have g27 := g26.2 c62
          refine ⟨fun c93 => ?_, fun c93 => ?_⟩
          · have g35 := g27.1 c93
            exact hQ _ _ g35
          · have g35 := g27.2 c93
            exact hQ _ _ g35
      · have g25 := g24.2 c59
        exact hQ _ _ g25
    · have g22 := g21.2 c50
      exact hQ _ _ g22
set_option maxRecDepth 100000 in
theorem qm_Mo_perform (t_recorded : Int32) (t_lost : Int32) (t_dropped : Int32) (t_time : Int32) (t_thread : Int32) (t_failed : Int32) (t_kind : Nat → Int32) (t_second : Nat → Int32) (t_code : Nat → Int32) (t_pile : Nat → UInt64) (t_handed : Nat → UInt64) (t_globals : Nat → UInt64) (t_own : Nat → UInt64) (t_records : Nat → UInt64) (t_target : Nat → Int32) (t_keys : Nat → Int32) (t_key : Nat → Int32) (t_sum : Nat → UInt64) (t_least : Nat → UInt64) (t_greatest : Nat → UInt64) (t_count : Nat → Int32) (t_bins : Nat → Int32) (t_first : Nat → Int32) (x1 : Int32) {Q : Int32 → (Int32 × Int32 × Int32 × Int32 × (Nat → UInt64) × (Nat → UInt64) × (Nat → UInt64) × (Nat → UInt64) × (Nat → Int32) × (Nat → Int32) × (Nat → UInt64) × (Nat → UInt64) × (Nat → UInt64) × (Nat → Int32) × (Nat → Int32)) → Prop} (tgt : Int32 × Int32 × Int32 × Int32 × Int32 × (Nat → UInt64) × (Nat → UInt64) × (Nat → UInt64) × (Nat → UInt64) × (Nat → Int32) × (Nat → Int32) × (Nat → UInt64) × (Nat → UInt64) × (Nat → UInt64) × (Nat → Int32) × (Nat → Int32)) (f0 : s_Mo_perform t_recorded t_lost t_dropped t_time t_thread t_failed t_kind t_second t_code t_pile t_handed t_globals t_own t_records t_target t_keys t_key t_sum t_least t_greatest t_count t_bins t_first x1 = tgt) (hp : WP_Mo_perform t_recorded t_lost t_dropped t_time t_thread t_failed t_kind t_second t_code t_pile t_handed t_globals t_own t_records t_target t_keys t_key t_sum t_least t_greatest t_count t_bins t_first x1 Q) : Q tgt.1 tgt.2 := by
  unfold WP_Mo_perform at hp
  unfold s_Mo_perform at f0
  have g1 := hp.2
  by_cases c2 : (t_kind x1.toNatClampNeg) = (64 : Int32)
  · have f2 := Eq.trans (Eq.symm (if_pos c2)) f0
    have g2 := g1.2 c2
    have g3 := g2.2
    obtain ⟨r44, m47, m48, e46⟩ := zex3 (s_Mo_value t_time t_thread t_failed t_code t_pile t_handed t_globals t_own (t_second x1.toNatClampNeg))
    have g4 := g3.2 r44 m47 m48 e46
    have f4 := Eq.trans (Eq.symm (zl2_eq e46)) f2
    have f4 := Eq.trans (Eq.symm (zl2_eq (Eq.refl (m47, m48)))) f4
    by_cases c50 : m47 = 0
    · have f5 := Eq.trans (Eq.symm (if_pos c50)) f4
      have g5 := g4.1 c50
      have g6 := g5.2
      obtain ⟨r53, m56, m57, e55⟩ := zex3 (s_Mo_value t_time t_thread m47 t_code m48 t_handed t_globals t_own (t_first x1.toNatClampNeg))
      have g7 := g6.2 r53 m56 m57 e55
      have f7 := Eq.trans (Eq.symm (zl2_eq e55)) f5
      have f7 := Eq.trans (Eq.symm (zl2_eq (Eq.refl (m56, m57)))) f7
      by_cases c59 : m56 = 0
      · have f8 := Eq.trans (Eq.symm (if_pos c59)) f7
        have g8 := g7.1 c59
        have g9 := g8.2
        by_cases c62 : (t_kind x1.toNatClampNeg) = (63 : Int32)
        · have f10 := Eq.trans (Eq.symm (if_pos c62)) f8
          have g10 := g9.2 c62
          by_cases c93 : (Op.cmpValue (FP.dcmp r53 FP.dconst0) .l) = 0
          · have f11 := Eq.trans (Eq.symm (if_pos c93)) f10
            have g11 := g10.1 c93
            subst f11; exact g11
          · have f11 := Eq.trans (Eq.symm (if_neg c93)) f10
            have g11 := g10.2 c93
            subst f11; exact g11
        · have f10 := Eq.trans (Eq.symm (if_neg c62)) f8
          have g10 := g9.1 c62
          have g12 := g10.2
          by_cases c65 : (t_kind x1.toNatClampNeg) = (33 : Int32)
          · have f13 := Eq.trans (Eq.symm (if_pos c65)) f10
            have g13 := g12.2 c65
            obtain ⟨m88, m89, m90, e87⟩ := zex3 (s_Mo_put t_recorded t_lost t_records r53)
            have g14 := g13.2 m88 m89 m90 e87
            have f14 := Eq.trans (Eq.symm (zl2_eq e87)) f13
            have f14 := Eq.trans (Eq.symm (zl2_eq (Eq.refl (m89, m90)))) f14
            subst f14; exact g14
          · have f13 := Eq.trans (Eq.symm (if_neg c65)) f10
            have g13 := g12.1 c65
            have g15 := g13.2
            have g16 := g15.2
            obtain ⟨m73, m74, m75, m76, m77, m78, m79, m80, m81, e72⟩ := zex9 (s_Mo_gather t_dropped m56 t_keys t_key t_sum t_least t_greatest t_count t_bins (t_target x1.toNatClampNeg) (FP.d2i r44) r53)
            have g17 := g16.2 m73 m74 m75 m76 m77 m78 m79 m80 m81 e72
            have f17 := Eq.trans (Eq.symm (zl2_eq e72)) f13
            have f17 := Eq.trans (Eq.symm (zl2_eq (Eq.refl (m74, m75, m76, m77, m78, m79, m80, m81)))) f17
            have f17 := Eq.trans (Eq.symm (zl2_eq (Eq.refl (m75, m76, m77, m78, m79, m80, m81)))) f17
            have f17 := Eq.trans (Eq.symm (zl2_eq (Eq.refl (m76, m77, m78, m79, m80, m81)))) f17
            have f17 := Eq.trans (Eq.symm (zl2_eq (Eq.refl (m77, m78, m79, m80, m81)))) f17
            have f17 := Eq.trans (Eq.symm (zl2_eq (Eq.refl (m78, m79, m80, m81)))) f17
            have f17 := Eq.trans (Eq.symm (zl2_eq (Eq.refl (m79, m80, m81)))) f17
            have f17 := Eq.trans (Eq.symm (zl2_eq (Eq.refl (m80, m81)))) f17
            by_cases c83 : m74 = 0
            · have f18 := Eq.trans (Eq.symm (if_pos c83)) f17
              have g18 := g17.2 c83
              subst f18; exact g18
            · have f18 := Eq.trans (Eq.symm (if_neg c83)) f17
              have g18 := g17.1 c83
              subst f18; exact g18
      · have f8 := Eq.trans (Eq.symm (if_neg c59)) f7
        have g8 := g7.2 c59
        subst f8; exact g8
    · have f5 := Eq.trans (Eq.symm (if_neg c50)) f4
      have g5 := g4.2 c50
      subst f5; exact g5
  · have f2 := Eq.trans (Eq.symm (if_neg c2)) f0
    have g2 := g1.1 c2
    by_cases c4 : t_failed = 0
    · have f19 := Eq.trans (Eq.symm (if_pos c4)) f2
      have g19 := g2.1 c4
      have g20 := g19.2
      obtain ⟨r7, m10, m11, e9⟩ := zex3 (s_Mo_value t_time t_thread t_failed t_code t_pile t_handed t_globals t_own (t_first x1.toNatClampNeg))
      have g21 := g20.2 r7 m10 m11 e9
      have f21 := Eq.trans (Eq.symm (zl2_eq e9)) f19
      have f21 := Eq.trans (Eq.symm (zl2_eq (Eq.refl (m10, m11)))) f21
      by_cases c13 : m10 = 0
      · have f22 := Eq.trans (Eq.symm (if_pos c13)) f21
        have g22 := g21.1 c13
        have g23 := g22.2
        by_cases c16 : (t_kind x1.toNatClampNeg) = (63 : Int32)
        · have f24 := Eq.trans (Eq.symm (if_pos c16)) f22
          have g24 := g23.2 c16
          by_cases c40 : (Op.cmpValue (FP.dcmp r7 FP.dconst0) .l) = 0
          · have f25 := Eq.trans (Eq.symm (if_pos c40)) f24
            have g25 := g24.1 c40
            subst f25; exact g25
          · have f25 := Eq.trans (Eq.symm (if_neg c40)) f24
            have g25 := g24.2 c40
            subst f25; exact g25
        · have f24 := Eq.trans (Eq.symm (if_neg c16)) f22
          have g24 := g23.1 c16
          have g26 := g24.2
          by_cases c19 : (t_kind x1.toNatClampNeg) = (33 : Int32)
          · have f27 := Eq.trans (Eq.symm (if_pos c19)) f24
            have g27 := g26.2 c19
            obtain ⟨m35, m36, m37, e34⟩ := zex3 (s_Mo_put t_recorded t_lost t_records r7)
            have g28 := g27.2 m35 m36 m37 e34
            have f28 := Eq.trans (Eq.symm (zl2_eq e34)) f27
            have f28 := Eq.trans (Eq.symm (zl2_eq (Eq.refl (m36, m37)))) f28
            subst f28; exact g28
          · have f27 := Eq.trans (Eq.symm (if_neg c19)) f24
            have g27 := g26.1 c19
            have g29 := g27.2
            have g30 := g29.2
            by_cases c24 : (3 : Int32) ≤ (t_target x1.toNatClampNeg)
            · have f31 := Eq.trans (Eq.symm (if_pos c24)) f27
              have g31 := g30.1 c24
              have g32 := g31.2
              have g33 := g32.2
              subst f31; exact g33
            · have f31 := Eq.trans (Eq.symm (if_neg c24)) f27
              have g31 := g30.2 c24
              have g34 := g31.2
              have g35 := g34.2
              subst f31; exact g35
      · have f22 := Eq.trans (Eq.symm (if_neg c13)) f21
        have g22 := g21.2 c13
        subst f22; exact g22
    · have f19 := Eq.trans (Eq.symm (if_neg c4)) f2
      have g19 := g2.2 c4
      subst f19; exact g19
theorem e_Mo_perform (t_recorded : Int32) (t_lost : Int32) (t_dropped : Int32) (t_time : Int32) (t_thread : Int32) (t_failed : Int32) (t_kind : Nat → Int32) (t_second : Nat → Int32) (t_code : Nat → Int32) (t_pile : Nat → UInt64) (t_handed : Nat → UInt64) (t_globals : Nat → UInt64) (t_own : Nat → UInt64) (t_records : Nat → UInt64) (t_target : Nat → Int32) (t_keys : Nat → Int32) (t_key : Nat → Int32) (t_sum : Nat → UInt64) (t_least : Nat → UInt64) (t_greatest : Nat → UInt64) (t_count : Nat → Int32) (t_bins : Nat → Int32) (t_first : Nat → Int32) (x1 : Int32) {Q : Int32 → (Int32 × Int32 × Int32 × Int32 × (Nat → UInt64) × (Nat → UInt64) × (Nat → UInt64) × (Nat → UInt64) × (Nat → Int32) × (Nat → Int32) × (Nat → UInt64) × (Nat → UInt64) × (Nat → UInt64) × (Nat → Int32) × (Nat → Int32)) → Prop} (hp : WP_Mo_perform t_recorded t_lost t_dropped t_time t_thread t_failed t_kind t_second t_code t_pile t_handed t_globals t_own t_records t_target t_keys t_key t_sum t_least t_greatest t_count t_bins t_first x1 Q) : p_Mo_perform t_recorded t_lost t_dropped t_time t_thread t_failed t_kind t_second t_code t_pile t_handed t_globals t_own t_records t_target t_keys t_key t_sum t_least t_greatest t_count t_bins t_first x1 ∧ Q (s_Mo_perform t_recorded t_lost t_dropped t_time t_thread t_failed t_kind t_second t_code t_pile t_handed t_globals t_own t_records t_target t_keys t_key t_sum t_least t_greatest t_count t_bins t_first x1).1 (s_Mo_perform t_recorded t_lost t_dropped t_time t_thread t_failed t_kind t_second t_code t_pile t_handed t_globals t_own t_records t_target t_keys t_key t_sum t_least t_greatest t_count t_bins t_first x1).2 := ⟨pm_Mo_perform t_recorded t_lost t_dropped t_time t_thread t_failed t_kind t_second t_code t_pile t_handed t_globals t_own t_records t_target t_keys t_key t_sum t_least t_greatest t_count t_bins t_first x1 (fun _ _ _ => trivial) hp, qm_Mo_perform t_recorded t_lost t_dropped t_time t_thread t_failed t_kind t_second t_code t_pile t_handed t_globals t_own t_records t_target t_keys t_key t_sum t_least t_greatest t_count t_bins t_first x1 _ rfl hp⟩
set_option maxRecDepth 100000 in
theorem pm_Mo_doRule_L58 {Q Q2 : (Int32 × Int32 × Int32 × Int32 × (Nat → UInt64) × (Nat → UInt64) × (Nat → UInt64) × (Nat → Int32) × (Nat → UInt64) × (Nat → Int32) × (Nat → Int32) × (Nat → UInt64) × (Nat → UInt64) × (Nat → UInt64) × (Nat → Int32) × (Nat → Int32) × (Nat → Int32)) → Prop} (hQ : ∀ u, Q u → Q2 u) : ∀ (n : Nat) (y1 : Int32) (y2 : Int32) (y3 : Int32) (t_recorded : Int32) (t_lost : Int32) (t_dropped : Int32) (t_time : Int32) (t_thread : Int32) (t_failed : Int32) (t_condition : Nat → Int32) (t_code : Nat → Int32) (t_pile : Nat → UInt64) (t_handed : Nat → UInt64) (t_globals : Nat → UInt64) (t_own : Nat → UInt64) (t_met : Nat → Int32) (t_actions : Nat → Int32) (t_kind : Nat → Int32) (t_second : Nat → Int32) (t_records : Nat → UInt64) (t_target : Nat → Int32) (t_keys : Nat → Int32) (t_key : Nat → Int32) (t_sum : Nat → UInt64) (t_least : Nat → UInt64) (t_greatest : Nat → UInt64) (t_count : Nat → Int32) (t_bins : Nat → Int32) (t_first : Nat → Int32) (t_failures : Nat → Int32), WP_Mo_doRule_L58 n y1 y2 y3 t_recorded t_lost t_dropped t_time t_thread t_failed t_condition t_code t_pile t_handed t_globals t_own t_met t_actions t_kind t_second t_records t_target t_keys t_key t_sum t_least t_greatest t_count t_bins t_first t_failures Q → WP_Mo_doRule_L58 n y1 y2 y3 t_recorded t_lost t_dropped t_time t_thread t_failed t_condition t_code t_pile t_handed t_globals t_own t_met t_actions t_kind t_second t_records t_target t_keys t_key t_sum t_least t_greatest t_count t_bins t_first t_failures Q2 := by
  intro n
  induction n with
  | zero => intros; contradiction
  | succ n ih =>
    intro y1 y2 y3 t_recorded t_lost t_dropped t_time t_thread t_failed t_condition t_code t_pile t_handed t_globals t_own t_met t_actions t_kind t_second t_records t_target t_keys t_key t_sum t_least t_greatest t_count t_bins t_first t_failures hp
    unfold WP_Mo_doRule_L58 at hp ⊢
    refine ⟨hp.1, ?_⟩
    have g1 := hp.2
    refine ⟨fun c33 => ?_, fun c33 => ?_⟩
    · have g2 := g1.1 c33
      refine ⟨fun c35 => ?_, fun c35 => ?_⟩
      · have g3 := g2.1 c35
        exact hQ _ g3
      · have g3 := g2.2 c35
        refine ⟨g3.1, ?_⟩
        have g4 := g3.2
        refine ⟨g4.1, ?_⟩
        have g5 := g4.2
        exact hQ _ g5
    · have g2 := g1.2 c33
      refine ⟨fun c39 => ?_, fun c39 => ?_⟩
      · have g6 := g2.1 c39
        refine ⟨fun c41 => ?_, fun c41 => ?_⟩
        · have g7 := g6.1 c41
          exact hQ _ g7
        · have g7 := g6.2 c41
          refine ⟨g7.1, ?_⟩
          have g8 := g7.2
          refine ⟨g8.1, ?_⟩
          have g9 := g8.2
          exact hQ _ g9
      · have g6 := g2.2 c39
        refine ⟨g6.1, ?_⟩
        intro r45 m48 m49 m50 m51 m52 m53 m54 m55 m56 m57 m58 m59 m60 m61 m62 e47
        have g10 := g6.2 r45 m48 m49 m50 m51 m52 m53 m54 m55 m56 m57 m58 m59 m60 m61 m62 e47
        exact ih _ _ _ _ _ _ _ _ _ _ _ _ _ _ _ _ _ _ _ _ _ _ _ _ _ _ _ _ _ _ g10
set_option maxRecDepth 100000 in
theorem qm_Mo_doRule_L58 {Q : (Int32 × Int32 × Int32 × Int32 × (Nat → UInt64) × (Nat → UInt64) × (Nat → UInt64) × (Nat → Int32) × (Nat → UInt64) × (Nat → Int32) × (Nat → Int32) × (Nat → UInt64) × (Nat → UInt64) × (Nat → UInt64) × (Nat → Int32) × (Nat → Int32) × (Nat → Int32)) → Prop} : ∀ (n : Nat) (y1 : Int32) (y2 : Int32) (y3 : Int32) (t_recorded : Int32) (t_lost : Int32) (t_dropped : Int32) (t_time : Int32) (t_thread : Int32) (t_failed : Int32) (t_condition : Nat → Int32) (t_code : Nat → Int32) (t_pile : Nat → UInt64) (t_handed : Nat → UInt64) (t_globals : Nat → UInt64) (t_own : Nat → UInt64) (t_met : Nat → Int32) (t_actions : Nat → Int32) (t_kind : Nat → Int32) (t_second : Nat → Int32) (t_records : Nat → UInt64) (t_target : Nat → Int32) (t_keys : Nat → Int32) (t_key : Nat → Int32) (t_sum : Nat → UInt64) (t_least : Nat → UInt64) (t_greatest : Nat → UInt64) (t_count : Nat → Int32) (t_bins : Nat → Int32) (t_first : Nat → Int32) (t_failures : Nat → Int32) (tgt : Int32 × Int32 × Int32 × Int32 × (Nat → UInt64) × (Nat → UInt64) × (Nat → UInt64) × (Nat → Int32) × (Nat → UInt64) × (Nat → Int32) × (Nat → Int32) × (Nat → UInt64) × (Nat → UInt64) × (Nat → UInt64) × (Nat → Int32) × (Nat → Int32) × (Nat → Int32)), s_Mo_doRule_L58 n y1 y2 y3 t_recorded t_lost t_dropped t_time t_thread t_failed t_condition t_code t_pile t_handed t_globals t_own t_met t_actions t_kind t_second t_records t_target t_keys t_key t_sum t_least t_greatest t_count t_bins t_first t_failures = tgt → WP_Mo_doRule_L58 n y1 y2 y3 t_recorded t_lost t_dropped t_time t_thread t_failed t_condition t_code t_pile t_handed t_globals t_own t_met t_actions t_kind t_second t_records t_target t_keys t_key t_sum t_least t_greatest t_count t_bins t_first t_failures Q → Q tgt := by
  intro n
  induction n with
  | zero => intros; contradiction
  | succ n ih =>
    intro y1 y2 y3 t_recorded t_lost t_dropped t_time t_thread t_failed t_condition t_code t_pile t_handed t_globals t_own t_met t_actions t_kind t_second t_records t_target t_keys t_key t_sum t_least t_greatest t_count t_bins t_first t_failures tgt f0 hp
    unfold WP_Mo_doRule_L58 at hp
    unfold s_Mo_doRule_L58 at f0
    have g1 := hp.2
    by_cases c33 : (t_actions y1.toNatClampNeg) ≤ y3
    · have f2 := Eq.trans (Eq.symm (if_pos c33)) f0
      have g2 := g1.1 c33
      by_cases c35 : t_failed = 0
      · have f3 := Eq.trans (Eq.symm (if_pos c35)) f2
        have g3 := g2.1 c35
        subst f3; exact g3
      · have f3 := Eq.trans (Eq.symm (if_neg c35)) f2
        have g3 := g2.2 c35
        have g4 := g3.2
        have g5 := g4.2
        subst f3; exact g5
    · have f2 := Eq.trans (Eq.symm (if_neg c33)) f0
      have g2 := g1.2 c33
      by_cases c39 : y2 = 0
      · have f6 := Eq.trans (Eq.symm (if_pos c39)) f2
        have g6 := g2.1 c39
        by_cases c41 : t_failed = 0
        · have f7 := Eq.trans (Eq.symm (if_pos c41)) f6
          have g7 := g6.1 c41
          subst f7; exact g7
        · have f7 := Eq.trans (Eq.symm (if_neg c41)) f6
          have g7 := g6.2 c41
          have g8 := g7.2
          have g9 := g8.2
          subst f7; exact g9
      · have f6 := Eq.trans (Eq.symm (if_neg c39)) f2
        have g6 := g2.2 c39
        obtain ⟨r45, m48, m49, m50, m51, m52, m53, m54, m55, m56, m57, m58, m59, m60, m61, m62, e47⟩ := zex16 (s_Mo_perform t_recorded t_lost t_dropped t_time t_thread t_failed t_kind t_second t_code t_pile t_handed t_globals t_own t_records t_target t_keys t_key t_sum t_least t_greatest t_count t_bins t_first ((y1 * (48 : Int32)) + y3))
        have g10 := g6.2 r45 m48 m49 m50 m51 m52 m53 m54 m55 m56 m57 m58 m59 m60 m61 m62 e47
        have f10 := Eq.trans (Eq.symm (zl2_eq e47)) f6
        have f10 := Eq.trans (Eq.symm (zl2_eq (Eq.refl (m48, m49, m50, m51, m52, m53, m54, m55, m56, m57, m58, m59, m60, m61, m62)))) f10
        have f10 := Eq.trans (Eq.symm (zl2_eq (Eq.refl (m49, m50, m51, m52, m53, m54, m55, m56, m57, m58, m59, m60, m61, m62)))) f10
        have f10 := Eq.trans (Eq.symm (zl2_eq (Eq.refl (m50, m51, m52, m53, m54, m55, m56, m57, m58, m59, m60, m61, m62)))) f10
        have f10 := Eq.trans (Eq.symm (zl2_eq (Eq.refl (m51, m52, m53, m54, m55, m56, m57, m58, m59, m60, m61, m62)))) f10
        have f10 := Eq.trans (Eq.symm (zl2_eq (Eq.refl (m52, m53, m54, m55, m56, m57, m58, m59, m60, m61, m62)))) f10
        have f10 := Eq.trans (Eq.symm (zl2_eq (Eq.refl (m53, m54, m55, m56, m57, m58, m59, m60, m61, m62)))) f10
        have f10 := Eq.trans (Eq.symm (zl2_eq (Eq.refl (m54, m55, m56, m57, m58, m59, m60, m61, m62)))) f10
        have f10 := Eq.trans (Eq.symm (zl2_eq (Eq.refl (m55, m56, m57, m58, m59, m60, m61, m62)))) f10
        have f10 := Eq.trans (Eq.symm (zl2_eq (Eq.refl (m56, m57, m58, m59, m60, m61, m62)))) f10
        have f10 := Eq.trans (Eq.symm (zl2_eq (Eq.refl (m57, m58, m59, m60, m61, m62)))) f10
        have f10 := Eq.trans (Eq.symm (zl2_eq (Eq.refl (m58, m59, m60, m61, m62)))) f10
        have f10 := Eq.trans (Eq.symm (zl2_eq (Eq.refl (m59, m60, m61, m62)))) f10
        have f10 := Eq.trans (Eq.symm (zl2_eq (Eq.refl (m60, m61, m62)))) f10
        have f10 := Eq.trans (Eq.symm (zl2_eq (Eq.refl (m61, m62)))) f10
        exact ih _ _ _ _ _ _ _ _ _ _ _ _ _ _ _ _ _ _ _ _ _ _ _ _ _ _ _ _ _ _ _ f10 g10
set_option maxRecDepth 100000 in
theorem pm_Mo_doRule (t_recorded : Int32) (t_lost : Int32) (t_dropped : Int32) (t_time : Int32) (t_thread : Int32) (t_failed : Int32) (t_condition : Nat → Int32) (t_code : Nat → Int32) (t_pile : Nat → UInt64) (t_handed : Nat → UInt64) (t_globals : Nat → UInt64) (t_own : Nat → UInt64) (t_met : Nat → Int32) (t_actions : Nat → Int32) (t_kind : Nat → Int32) (t_second : Nat → Int32) (t_records : Nat → UInt64) (t_target : Nat → Int32) (t_keys : Nat → Int32) (t_key : Nat → Int32) (t_sum : Nat → UInt64) (t_least : Nat → UInt64) (t_greatest : Nat → UInt64) (t_count : Nat → Int32) (t_bins : Nat → Int32) (t_first : Nat → Int32) (t_failures : Nat → Int32) (x1 : Int32) {Q Q2 : (Int32 × Int32 × Int32 × Int32 × (Nat → UInt64) × (Nat → UInt64) × (Nat → UInt64) × (Nat → Int32) × (Nat → UInt64) × (Nat → Int32) × (Nat → Int32) × (Nat → UInt64) × (Nat → UInt64) × (Nat → UInt64) × (Nat → Int32) × (Nat → Int32) × (Nat → Int32)) → Prop} (hQ : ∀ u, Q u → Q2 u) (hp : WP_Mo_doRule t_recorded t_lost t_dropped t_time t_thread t_failed t_condition t_code t_pile t_handed t_globals t_own t_met t_actions t_kind t_second t_records t_target t_keys t_key t_sum t_least t_greatest t_count t_bins t_first t_failures x1 Q) : WP_Mo_doRule t_recorded t_lost t_dropped t_time t_thread t_failed t_condition t_code t_pile t_handed t_globals t_own t_met t_actions t_kind t_second t_records t_target t_keys t_key t_sum t_least t_greatest t_count t_bins t_first t_failures x1 Q2 := by
  unfold WP_Mo_doRule at hp ⊢
  refine ⟨hp.1, ?_⟩
  have g1 := hp.2
  refine ⟨fun c2 => ?_, fun c2 => ?_⟩
  · have g2 := g1.1 c2
    refine ⟨g2.1, ?_⟩
    have g3 := g2.2
    refine ⟨g3.1, ?_⟩
    have g4 := g3.2
    exact pm_Mo_doRule_L58 hQ _ _ _ _ _ _ _ _ _ _ _ _ _ _ _ _ _ _ _ _ _ _ _ _ _ _ _ _ _ _ _ g4
  · have g2 := g1.2 c2
    refine ⟨g2.1, ?_⟩
    have g5 := g2.2
    refine ⟨g5.1, ?_⟩
    intro r9 m12 m13 e11
    have g6 := g5.2 r9 m12 m13 e11
    refine ⟨fun c15 => ?_, fun c15 => ?_⟩
    · have g7 := g6.1 c15
      refine ⟨fun c17 => ?_, fun c17 => ?_⟩
      · have g8 := g7.1 c17
        refine ⟨g8.1, ?_⟩
        have g9 := g8.2
        refine ⟨g9.1, ?_⟩
        have g10 := g9.2
        exact hQ _ g10
      · have g8 := g7.2 c17
        exact hQ _ g8
    · have g7 := g6.2 c15
      refine ⟨fun c24 => ?_, fun c24 => ?_⟩
      · have g11 := g7.1 c24
        refine ⟨g11.1, ?_⟩
        have g12 := g11.2
        refine ⟨g12.1, ?_⟩
        have g13 := g12.2
        exact hQ _ g13
      · have g11 := g7.2 c24
        refine ⟨g11.1, ?_⟩
        have g14 := g11.2
        refine ⟨g14.1, ?_⟩
        have g15 := g14.2
        exact pm_Mo_doRule_L58 hQ _ _ _ _ _ _ _ _ _ _ _ _ _ _ _ _ _ _ _ _ _ _ _ _ _ _ _ _ _ _ _ g15
set_option maxRecDepth 100000 in
theorem qm_Mo_doRule (t_recorded : Int32) (t_lost : Int32) (t_dropped : Int32) (t_time : Int32) (t_thread : Int32) (t_failed : Int32) (t_condition : Nat → Int32) (t_code : Nat → Int32) (t_pile : Nat → UInt64) (t_handed : Nat → UInt64) (t_globals : Nat → UInt64) (t_own : Nat → UInt64) (t_met : Nat → Int32) (t_actions : Nat → Int32) (t_kind : Nat → Int32) (t_second : Nat → Int32) (t_records : Nat → UInt64) (t_target : Nat → Int32) (t_keys : Nat → Int32) (t_key : Nat → Int32) (t_sum : Nat → UInt64) (t_least : Nat → UInt64) (t_greatest : Nat → UInt64) (t_count : Nat → Int32) (t_bins : Nat → Int32) (t_first : Nat → Int32) (t_failures : Nat → Int32) (x1 : Int32) {Q : (Int32 × Int32 × Int32 × Int32 × (Nat → UInt64) × (Nat → UInt64) × (Nat → UInt64) × (Nat → Int32) × (Nat → UInt64) × (Nat → Int32) × (Nat → Int32) × (Nat → UInt64) × (Nat → UInt64) × (Nat → UInt64) × (Nat → Int32) × (Nat → Int32) × (Nat → Int32)) → Prop} (tgt : Int32 × Int32 × Int32 × Int32 × (Nat → UInt64) × (Nat → UInt64) × (Nat → UInt64) × (Nat → Int32) × (Nat → UInt64) × (Nat → Int32) × (Nat → Int32) × (Nat → UInt64) × (Nat → UInt64) × (Nat → UInt64) × (Nat → Int32) × (Nat → Int32) × (Nat → Int32)) (f0 : s_Mo_doRule t_recorded t_lost t_dropped t_time t_thread t_failed t_condition t_code t_pile t_handed t_globals t_own t_met t_actions t_kind t_second t_records t_target t_keys t_key t_sum t_least t_greatest t_count t_bins t_first t_failures x1 = tgt) (hp : WP_Mo_doRule t_recorded t_lost t_dropped t_time t_thread t_failed t_condition t_code t_pile t_handed t_globals t_own t_met t_actions t_kind t_second t_records t_target t_keys t_key t_sum t_least t_greatest t_count t_bins t_first t_failures x1 Q) : Q tgt := by
  unfold WP_Mo_doRule at hp
  unfold s_Mo_doRule at f0
  have g1 := hp.2
  by_cases c2 : (t_condition x1.toNatClampNeg) < 0
  · have f2 := Eq.trans (Eq.symm (if_pos c2)) f0
    have g2 := g1.1 c2
    have g3 := g2.2
    have g4 := g3.2
    exact qm_Mo_doRule_L58 _ _ _ _ _ _ _ _ _ _ _ _ _ _ _ _ _ _ _ _ _ _ _ _ _ _ _ _ _ _ _ _ f2 g4
  · have f2 := Eq.trans (Eq.symm (if_neg c2)) f0
    have g2 := g1.2 c2
    have g5 := g2.2
    obtain ⟨r9, m12, m13, e11⟩ := zex3 (s_Mo_value t_time t_thread (0 : Int32) t_code t_pile t_handed t_globals t_own (t_condition x1.toNatClampNeg))
    have g6 := g5.2 r9 m12 m13 e11
    have f6 := Eq.trans (Eq.symm (zl2_eq e11)) f2
    have f6 := Eq.trans (Eq.symm (zl2_eq (Eq.refl (m12, m13)))) f6
    by_cases c15 : (Op.cmpValue (FP.dcmp r9 FP.dconst0) .l) = 0
    · have f7 := Eq.trans (Eq.symm (if_pos c15)) f6
      have g7 := g6.1 c15
      by_cases c17 : m12 = 0
      · have f8 := Eq.trans (Eq.symm (if_pos c17)) f7
        have g8 := g7.2 c17
        subst f8; exact g8
      · have f8 := Eq.trans (Eq.symm (if_neg c17)) f7
        have g8 := g7.1 c17
        have g9 := g8.2
        have g10 := g9.2
        subst f8; exact g10
    · have f7 := Eq.trans (Eq.symm (if_neg c15)) f6
      have g7 := g6.2 c15
      by_cases c24 : m12 = 0
      · have f11 := Eq.trans (Eq.symm (if_pos c24)) f7
        have g11 := g7.2 c24
        have g12 := g11.2
        have g13 := g12.2
        exact qm_Mo_doRule_L58 _ _ _ _ _ _ _ _ _ _ _ _ _ _ _ _ _ _ _ _ _ _ _ _ _ _ _ _ _ _ _ _ f11 g13
      · have f11 := Eq.trans (Eq.symm (if_neg c24)) f7
        have g11 := g7.1 c24
        have g14 := g11.2
        have g15 := g14.2
        subst f11; exact g15
theorem e_Mo_doRule (t_recorded : Int32) (t_lost : Int32) (t_dropped : Int32) (t_time : Int32) (t_thread : Int32) (t_failed : Int32) (t_condition : Nat → Int32) (t_code : Nat → Int32) (t_pile : Nat → UInt64) (t_handed : Nat → UInt64) (t_globals : Nat → UInt64) (t_own : Nat → UInt64) (t_met : Nat → Int32) (t_actions : Nat → Int32) (t_kind : Nat → Int32) (t_second : Nat → Int32) (t_records : Nat → UInt64) (t_target : Nat → Int32) (t_keys : Nat → Int32) (t_key : Nat → Int32) (t_sum : Nat → UInt64) (t_least : Nat → UInt64) (t_greatest : Nat → UInt64) (t_count : Nat → Int32) (t_bins : Nat → Int32) (t_first : Nat → Int32) (t_failures : Nat → Int32) (x1 : Int32) {Q : (Int32 × Int32 × Int32 × Int32 × (Nat → UInt64) × (Nat → UInt64) × (Nat → UInt64) × (Nat → Int32) × (Nat → UInt64) × (Nat → Int32) × (Nat → Int32) × (Nat → UInt64) × (Nat → UInt64) × (Nat → UInt64) × (Nat → Int32) × (Nat → Int32) × (Nat → Int32)) → Prop} (hp : WP_Mo_doRule t_recorded t_lost t_dropped t_time t_thread t_failed t_condition t_code t_pile t_handed t_globals t_own t_met t_actions t_kind t_second t_records t_target t_keys t_key t_sum t_least t_greatest t_count t_bins t_first t_failures x1 Q) : p_Mo_doRule t_recorded t_lost t_dropped t_time t_thread t_failed t_condition t_code t_pile t_handed t_globals t_own t_met t_actions t_kind t_second t_records t_target t_keys t_key t_sum t_least t_greatest t_count t_bins t_first t_failures x1 ∧ Q (s_Mo_doRule t_recorded t_lost t_dropped t_time t_thread t_failed t_condition t_code t_pile t_handed t_globals t_own t_met t_actions t_kind t_second t_records t_target t_keys t_key t_sum t_least t_greatest t_count t_bins t_first t_failures x1) := ⟨pm_Mo_doRule t_recorded t_lost t_dropped t_time t_thread t_failed t_condition t_code t_pile t_handed t_globals t_own t_met t_actions t_kind t_second t_records t_target t_keys t_key t_sum t_least t_greatest t_count t_bins t_first t_failures x1 (fun _ _ => trivial) hp, qm_Mo_doRule t_recorded t_lost t_dropped t_time t_thread t_failed t_condition t_code t_pile t_handed t_globals t_own t_met t_actions t_kind t_second t_records t_target t_keys t_key t_sum t_least t_greatest t_count t_bins t_first t_failures x1 _ rfl hp⟩
set_option maxRecDepth 100000 in
theorem pm_Mo_fits (x0 : UInt64) {Q Q2 : Int32 → Unit → Prop} (hQ : ∀ r u, Q r u → Q2 r u) (hp : WP_Mo_fits x0 Q) : WP_Mo_fits x0 Q2 := by
  unfold WP_Mo_fits at hp ⊢
  refine ⟨fun c1 => ?_, fun c1 => ?_⟩
  · have g1 := hp.1 c1
    exact hQ _ _ g1
  · have g1 := hp.2 c1
    refine ⟨fun c3 => ?_, fun c3 => ?_⟩
    · have g2 := g1.1 c3
      exact hQ _ _ g2
    · have g2 := g1.2 c3
      exact hQ _ _ g2
set_option maxRecDepth 100000 in
theorem qm_Mo_fits (x0 : UInt64) {Q : Int32 → Unit → Prop} (tgt : Int32) (f0 : s_Mo_fits x0 = tgt) (hp : WP_Mo_fits x0 Q) : Q tgt () := by
  unfold WP_Mo_fits at hp
  unfold s_Mo_fits at f0
  by_cases c1 : (Op.cmpValue (FP.dcmp x0 (13875379345695965184 : UInt64)) .l) < 0
  · have f1 := Eq.trans (Eq.symm (if_pos c1)) f0
    have g1 := hp.1 c1
    subst f1; exact g1
  · have f1 := Eq.trans (Eq.symm (if_neg c1)) f0
    have g1 := hp.2 c1
    by_cases c3 : 0 < (Op.cmpValue (FP.dcmp x0 (4652007308841189376 : UInt64)) .g)
    · have f2 := Eq.trans (Eq.symm (if_pos c3)) f1
      have g2 := g1.1 c3
      subst f2; exact g2
    · have f2 := Eq.trans (Eq.symm (if_neg c3)) f1
      have g2 := g1.2 c3
      subst f2; exact g2
theorem e_Mo_fits (x0 : UInt64) {Q : Int32 → Unit → Prop} (hp : WP_Mo_fits x0 Q) : Q (s_Mo_fits x0) () := qm_Mo_fits x0 _ rfl hp
set_option maxRecDepth 100000 in
theorem pm_Mo_fire_L95 {Q Q2 : Int32 → (Int32 × Int32 × Int32 × Int32 × Int32 × Int32 × Int32 × (Nat → UInt64) × (Nat → Int32) × (Nat → UInt64) × (Nat → UInt64) × (Nat → UInt64) × (Nat → UInt64) × (Nat → Int32) × (Nat → Int32) × (Nat → UInt64) × (Nat → UInt64) × (Nat → UInt64) × (Nat → Int32) × (Nat → Int32) × (Nat → Int32)) → Prop} (hQ : ∀ r u, Q r u → Q2 r u) : ∀ (n : Nat) (y1 : Int32) (y2 : Int32) (y3 : Int32) (y4 : UInt64) (y6 : UInt64) (y8 : UInt64) (y10 : Int32) (y11 : Int32) (y12 : Int32) (t_recorded : Int32) (t_lost : Int32) (t_dropped : Int32) (t_firings : Int32) (t_time : Int32) (t_thread : Int32) (t_thrown : Int32) (t_failed : Int32) (t_handed : Nat → UInt64) (t_there : Nat → Int32) (t_on : Nat → Int32) (t_site : Nat → Int32) (t_met : Nat → Int32) (t_condition : Nat → Int32) (t_code : Nat → Int32) (t_pile : Nat → UInt64) (t_globals : Nat → UInt64) (t_own : Nat → UInt64) (t_actions : Nat → Int32) (t_kind : Nat → Int32) (t_second : Nat → Int32) (t_records : Nat → UInt64) (t_target : Nat → Int32) (t_keys : Nat → Int32) (t_key : Nat → Int32) (t_sum : Nat → UInt64) (t_least : Nat → UInt64) (t_greatest : Nat → UInt64) (t_count : Nat → Int32) (t_bins : Nat → Int32) (t_first : Nat → Int32) (t_failures : Nat → Int32), WP_Mo_fire_L95 n y1 y2 y3 y4 y6 y8 y10 y11 y12 t_recorded t_lost t_dropped t_firings t_time t_thread t_thrown t_failed t_handed t_there t_on t_site t_met t_condition t_code t_pile t_globals t_own t_actions t_kind t_second t_records t_target t_keys t_key t_sum t_least t_greatest t_count t_bins t_first t_failures Q → WP_Mo_fire_L95 n y1 y2 y3 y4 y6 y8 y10 y11 y12 t_recorded t_lost t_dropped t_firings t_time t_thread t_thrown t_failed t_handed t_there t_on t_site t_met t_condition t_code t_pile t_globals t_own t_actions t_kind t_second t_records t_target t_keys t_key t_sum t_least t_greatest t_count t_bins t_first t_failures Q2 := by
  intro n
  induction n with
  | zero => intros; contradiction
  | succ n ih =>
    intro y1 y2 y3 y4 y6 y8 y10 y11 y12 t_recorded t_lost t_dropped t_firings t_time t_thread t_thrown t_failed t_handed t_there t_on t_site t_met t_condition t_code t_pile t_globals t_own t_actions t_kind t_second t_records t_target t_keys t_key t_sum t_least t_greatest t_count t_bins t_first t_failures hp
    unfold WP_Mo_fire_L95 at hp ⊢
    refine ⟨fun c67 => ?_, fun c67 => ?_⟩
    · have g1 := hp.1 c67
      refine ⟨fun c69 => ?_, fun c69 => ?_⟩
      · have g2 := g1.1 c69
        exact hQ _ _ g2
      · have g2 := g1.2 c69
        exact hQ _ _ g2
    · have g1 := hp.2 c67
      refine ⟨g1.1, ?_⟩
      have g3 := g1.2
      refine ⟨fun c72 => ?_, fun c72 => ?_⟩
      · have g4 := g3.1 c72
        exact ih _ _ _ _ _ _ _ _ _ _ _ _ _ _ _ _ _ _ _ _ _ _ _ _ _ _ _ _ _ _ _ _ _ _ _ _ _ _ _ _ _ g4
      · have g4 := g3.2 c72
        refine ⟨g4.1, ?_⟩
        have g5 := g4.2
        refine ⟨fun c75 => ?_, fun c75 => ?_⟩
        · have g6 := g5.1 c75
          exact ih _ _ _ _ _ _ _ _ _ _ _ _ _ _ _ _ _ _ _ _ _ _ _ _ _ _ _ _ _ _ _ _ _ _ _ _ _ _ _ _ _ g6
        · have g6 := g5.2 c75
          refine ⟨g6.1, ?_⟩
          have g7 := g6.2
          refine ⟨fun c78 => ?_, fun c78 => ?_⟩
          · have g8 := g7.1 c78
            refine ⟨fun c80 => ?_, fun c80 => ?_⟩
            · have g9 := g8.1 c80
              refine ⟨g9.1, ?_⟩
              have g10 := g9.2
              refine ⟨g10.1, ?_⟩
              intro m86 m87 m88 m89 m90 m91 m92 m93 m94 m95 m96 m97 m98 m99 m100 m101 m102 e85
              have g11 := g10.2 m86 m87 m88 m89 m90 m91 m92 m93 m94 m95 m96 m97 m98 m99 m100 m101 m102 e85
              refine ⟨g11.1, ?_⟩
              have g12 := g11.2
              exact ih _ _ _ _ _ _ _ _ _ _ _ _ _ _ _ _ _ _ _ _ _ _ _ _ _ _ _ _ _ _ _ _ _ _ _ _ _ _ _ _ _ g12
            · have g9 := g8.2 c80
              exact ih _ _ _ _ _ _ _ _ _ _ _ _ _ _ _ _ _ _ _ _ _ _ _ _ _ _ _ _ _ _ _ _ _ _ _ _ _ _ _ _ _ g9
          · have g8 := g7.2 c78
            refine ⟨fun c105 => ?_, fun c105 => ?_⟩
            · have g13 := g8.1 c105
              refine ⟨g13.1, ?_⟩
              have g14 := g13.2
              refine ⟨g14.1, ?_⟩
              intro m111 m112 m113 m114 m115 m116 m117 m118 m119 m120 m121 m122 m123 m124 m125 m126 m127 e110
              have g15 := g14.2 m111 m112 m113 m114 m115 m116 m117 m118 m119 m120 m121 m122 m123 m124 m125 m126 m127 e110
              refine ⟨g15.1, ?_⟩
              have g16 := g15.2
              exact ih _ _ _ _ _ _ _ _ _ _ _ _ _ _ _ _ _ _ _ _ _ _ _ _ _ _ _ _ _ _ _ _ _ _ _ _ _ _ _ _ _ g16
            · have g13 := g8.2 c105
              exact ih _ _ _ _ _ _ _ _ _ _ _ _ _ _ _ _ _ _ _ _ _ _ _ _ _ _ _ _ _ _ _ _ _ _ _ _ _ _ _ _ _ g13
set_option maxRecDepth 100000 in
theorem qm_Mo_fire_L95 {Q : Int32 → (Int32 × Int32 × Int32 × Int32 × Int32 × Int32 × Int32 × (Nat → UInt64) × (Nat → Int32) × (Nat → UInt64) × (Nat → UInt64) × (Nat → UInt64) × (Nat → UInt64) × (Nat → Int32) × (Nat → Int32) × (Nat → UInt64) × (Nat → UInt64) × (Nat → UInt64) × (Nat → Int32) × (Nat → Int32) × (Nat → Int32)) → Prop} : ∀ (n : Nat) (y1 : Int32) (y2 : Int32) (y3 : Int32) (y4 : UInt64) (y6 : UInt64) (y8 : UInt64) (y10 : Int32) (y11 : Int32) (y12 : Int32) (t_recorded : Int32) (t_lost : Int32) (t_dropped : Int32) (t_firings : Int32) (t_time : Int32) (t_thread : Int32) (t_thrown : Int32) (t_failed : Int32) (t_handed : Nat → UInt64) (t_there : Nat → Int32) (t_on : Nat → Int32) (t_site : Nat → Int32) (t_met : Nat → Int32) (t_condition : Nat → Int32) (t_code : Nat → Int32) (t_pile : Nat → UInt64) (t_globals : Nat → UInt64) (t_own : Nat → UInt64) (t_actions : Nat → Int32) (t_kind : Nat → Int32) (t_second : Nat → Int32) (t_records : Nat → UInt64) (t_target : Nat → Int32) (t_keys : Nat → Int32) (t_key : Nat → Int32) (t_sum : Nat → UInt64) (t_least : Nat → UInt64) (t_greatest : Nat → UInt64) (t_count : Nat → Int32) (t_bins : Nat → Int32) (t_first : Nat → Int32) (t_failures : Nat → Int32) (tgt : Int32 × Int32 × Int32 × Int32 × Int32 × Int32 × Int32 × Int32 × (Nat → UInt64) × (Nat → Int32) × (Nat → UInt64) × (Nat → UInt64) × (Nat → UInt64) × (Nat → UInt64) × (Nat → Int32) × (Nat → Int32) × (Nat → UInt64) × (Nat → UInt64) × (Nat → UInt64) × (Nat → Int32) × (Nat → Int32) × (Nat → Int32)), s_Mo_fire_L95 n y1 y2 y3 y4 y6 y8 y10 y11 y12 t_recorded t_lost t_dropped t_firings t_time t_thread t_thrown t_failed t_handed t_there t_on t_site t_met t_condition t_code t_pile t_globals t_own t_actions t_kind t_second t_records t_target t_keys t_key t_sum t_least t_greatest t_count t_bins t_first t_failures = tgt → WP_Mo_fire_L95 n y1 y2 y3 y4 y6 y8 y10 y11 y12 t_recorded t_lost t_dropped t_firings t_time t_thread t_thrown t_failed t_handed t_there t_on t_site t_met t_condition t_code t_pile t_globals t_own t_actions t_kind t_second t_records t_target t_keys t_key t_sum t_least t_greatest t_count t_bins t_first t_failures Q → Q tgt.1 tgt.2 := by
  intro n
  induction n with
  | zero => intros; contradiction
  | succ n ih =>
    intro y1 y2 y3 y4 y6 y8 y10 y11 y12 t_recorded t_lost t_dropped t_firings t_time t_thread t_thrown t_failed t_handed t_there t_on t_site t_met t_condition t_code t_pile t_globals t_own t_actions t_kind t_second t_records t_target t_keys t_key t_sum t_least t_greatest t_count t_bins t_first t_failures tgt f0 hp
    unfold WP_Mo_fire_L95 at hp
    unfold s_Mo_fire_L95 at f0
    by_cases c67 : (6 : Int32) ≤ y12
    · have f1 := Eq.trans (Eq.symm (if_pos c67)) f0
      have g1 := hp.1 c67
      by_cases c69 : y11 = 0
      · have f2 := Eq.trans (Eq.symm (if_pos c69)) f1
        have g2 := g1.1 c69
        subst f2; exact g2
      · have f2 := Eq.trans (Eq.symm (if_neg c69)) f1
        have g2 := g1.2 c69
        subst f2; exact g2
    · have f1 := Eq.trans (Eq.symm (if_neg c67)) f0
      have g1 := hp.2 c67
      have g3 := g1.2
      by_cases c72 : (t_there y12.toNatClampNeg) = 0
      · have f4 := Eq.trans (Eq.symm (if_pos c72)) f1
        have g4 := g3.1 c72
        exact ih _ _ _ _ _ _ _ _ _ _ _ _ _ _ _ _ _ _ _ _ _ _ _ _ _ _ _ _ _ _ _ _ _ _ _ _ _ _ _ _ _ _ f4 g4
      · have f4 := Eq.trans (Eq.symm (if_neg c72)) f1
        have g4 := g3.2 c72
        have g5 := g4.2
        by_cases c75 : (t_on y12.toNatClampNeg) = 0
        · have f6 := Eq.trans (Eq.symm (if_pos c75)) f4
          have g6 := g5.1 c75
          exact ih _ _ _ _ _ _ _ _ _ _ _ _ _ _ _ _ _ _ _ _ _ _ _ _ _ _ _ _ _ _ _ _ _ _ _ _ _ _ _ _ _ _ f6 g6
        · have f6 := Eq.trans (Eq.symm (if_neg c75)) f4
          have g6 := g5.2 c75
          have g7 := g6.2
          by_cases c78 : y2 = 0
          · have f8 := Eq.trans (Eq.symm (if_pos c78)) f6
            have g8 := g7.1 c78
            by_cases c80 : (t_site y12.toNatClampNeg) = (y1 + (0 : Int32))
            · have f9 := Eq.trans (Eq.symm (if_pos c80)) f8
              have g9 := g8.1 c80
              have g10 := g9.2
              obtain ⟨m86, m87, m88, m89, m90, m91, m92, m93, m94, m95, m96, m97, m98, m99, m100, m101, m102, e85⟩ := zex17 (s_Mo_doRule t_recorded t_lost t_dropped t_time t_thread t_failed t_condition t_code t_pile t_handed t_globals t_own t_met t_actions t_kind t_second t_records t_target t_keys t_key t_sum t_least t_greatest t_count t_bins t_first t_failures y12)
              have g11 := g10.2 m86 m87 m88 m89 m90 m91 m92 m93 m94 m95 m96 m97 m98 m99 m100 m101 m102 e85
              have f11 := Eq.trans (Eq.symm (zl2_eq e85)) f9
              have f11 := Eq.trans (Eq.symm (zl2_eq (Eq.refl (m87, m88, m89, m90, m91, m92, m93, m94, m95, m96, m97, m98, m99, m100, m101, m102)))) f11
              have f11 := Eq.trans (Eq.symm (zl2_eq (Eq.refl (m88, m89, m90, m91, m92, m93, m94, m95, m96, m97, m98, m99, m100, m101, m102)))) f11
              have f11 := Eq.trans (Eq.symm (zl2_eq (Eq.refl (m89, m90, m91, m92, m93, m94, m95, m96, m97, m98, m99, m100, m101, m102)))) f11
              have f11 := Eq.trans (Eq.symm (zl2_eq (Eq.refl (m90, m91, m92, m93, m94, m95, m96, m97, m98, m99, m100, m101, m102)))) f11
              have f11 := Eq.trans (Eq.symm (zl2_eq (Eq.refl (m91, m92, m93, m94, m95, m96, m97, m98, m99, m100, m101, m102)))) f11
              have f11 := Eq.trans (Eq.symm (zl2_eq (Eq.refl (m92, m93, m94, m95, m96, m97, m98, m99, m100, m101, m102)))) f11
              have f11 := Eq.trans (Eq.symm (zl2_eq (Eq.refl (m93, m94, m95, m96, m97, m98, m99, m100, m101, m102)))) f11
              have f11 := Eq.trans (Eq.symm (zl2_eq (Eq.refl (m94, m95, m96, m97, m98, m99, m100, m101, m102)))) f11
              have f11 := Eq.trans (Eq.symm (zl2_eq (Eq.refl (m95, m96, m97, m98, m99, m100, m101, m102)))) f11
              have f11 := Eq.trans (Eq.symm (zl2_eq (Eq.refl (m96, m97, m98, m99, m100, m101, m102)))) f11
              have f11 := Eq.trans (Eq.symm (zl2_eq (Eq.refl (m97, m98, m99, m100, m101, m102)))) f11
              have f11 := Eq.trans (Eq.symm (zl2_eq (Eq.refl (m98, m99, m100, m101, m102)))) f11
              have f11 := Eq.trans (Eq.symm (zl2_eq (Eq.refl (m99, m100, m101, m102)))) f11
              have f11 := Eq.trans (Eq.symm (zl2_eq (Eq.refl (m100, m101, m102)))) f11
              have f11 := Eq.trans (Eq.symm (zl2_eq (Eq.refl (m101, m102)))) f11
              have g12 := g11.2
              exact ih _ _ _ _ _ _ _ _ _ _ _ _ _ _ _ _ _ _ _ _ _ _ _ _ _ _ _ _ _ _ _ _ _ _ _ _ _ _ _ _ _ _ f11 g12
            · have f9 := Eq.trans (Eq.symm (if_neg c80)) f8
              have g9 := g8.2 c80
              exact ih _ _ _ _ _ _ _ _ _ _ _ _ _ _ _ _ _ _ _ _ _ _ _ _ _ _ _ _ _ _ _ _ _ _ _ _ _ _ _ _ _ _ f9 g9
          · have f8 := Eq.trans (Eq.symm (if_neg c78)) f6
            have g8 := g7.2 c78
            by_cases c105 : (t_site y12.toNatClampNeg) = (y1 + (8 : Int32))
            · have f13 := Eq.trans (Eq.symm (if_pos c105)) f8
              have g13 := g8.1 c105
              have g14 := g13.2
              obtain ⟨m111, m112, m113, m114, m115, m116, m117, m118, m119, m120, m121, m122, m123, m124, m125, m126, m127, e110⟩ := zex17 (s_Mo_doRule t_recorded t_lost t_dropped t_time t_thread t_failed t_condition t_code t_pile t_handed t_globals t_own t_met t_actions t_kind t_second t_records t_target t_keys t_key t_sum t_least t_greatest t_count t_bins t_first t_failures y12)
              have g15 := g14.2 m111 m112 m113 m114 m115 m116 m117 m118 m119 m120 m121 m122 m123 m124 m125 m126 m127 e110
              have f15 := Eq.trans (Eq.symm (zl2_eq e110)) f13
              have f15 := Eq.trans (Eq.symm (zl2_eq (Eq.refl (m112, m113, m114, m115, m116, m117, m118, m119, m120, m121, m122, m123, m124, m125, m126, m127)))) f15
              have f15 := Eq.trans (Eq.symm (zl2_eq (Eq.refl (m113, m114, m115, m116, m117, m118, m119, m120, m121, m122, m123, m124, m125, m126, m127)))) f15
              have f15 := Eq.trans (Eq.symm (zl2_eq (Eq.refl (m114, m115, m116, m117, m118, m119, m120, m121, m122, m123, m124, m125, m126, m127)))) f15
              have f15 := Eq.trans (Eq.symm (zl2_eq (Eq.refl (m115, m116, m117, m118, m119, m120, m121, m122, m123, m124, m125, m126, m127)))) f15
              have f15 := Eq.trans (Eq.symm (zl2_eq (Eq.refl (m116, m117, m118, m119, m120, m121, m122, m123, m124, m125, m126, m127)))) f15
              have f15 := Eq.trans (Eq.symm (zl2_eq (Eq.refl (m117, m118, m119, m120, m121, m122, m123, m124, m125, m126, m127)))) f15
              have f15 := Eq.trans (Eq.symm (zl2_eq (Eq.refl (m118, m119, m120, m121, m122, m123, m124, m125, m126, m127)))) f15
              have f15 := Eq.trans (Eq.symm (zl2_eq (Eq.refl (m119, m120, m121, m122, m123, m124, m125, m126, m127)))) f15
              have f15 := Eq.trans (Eq.symm (zl2_eq (Eq.refl (m120, m121, m122, m123, m124, m125, m126, m127)))) f15
              have f15 := Eq.trans (Eq.symm (zl2_eq (Eq.refl (m121, m122, m123, m124, m125, m126, m127)))) f15
              have f15 := Eq.trans (Eq.symm (zl2_eq (Eq.refl (m122, m123, m124, m125, m126, m127)))) f15
              have f15 := Eq.trans (Eq.symm (zl2_eq (Eq.refl (m123, m124, m125, m126, m127)))) f15
              have f15 := Eq.trans (Eq.symm (zl2_eq (Eq.refl (m124, m125, m126, m127)))) f15
              have f15 := Eq.trans (Eq.symm (zl2_eq (Eq.refl (m125, m126, m127)))) f15
              have f15 := Eq.trans (Eq.symm (zl2_eq (Eq.refl (m126, m127)))) f15
              have g16 := g15.2
              exact ih _ _ _ _ _ _ _ _ _ _ _ _ _ _ _ _ _ _ _ _ _ _ _ _ _ _ _ _ _ _ _ _ _ _ _ _ _ _ _ _ _ _ f15 g16
            · have f13 := Eq.trans (Eq.symm (if_neg c105)) f8
              have g13 := g8.2 c105
              exact ih _ _ _ _ _ _ _ _ _ _ _ _ _ _ _ _ _ _ _ _ _ _ _ _ _ _ _ _ _ _ _ _ _ _ _ _ _ _ _ _ _ _ f13 g13
set_option maxRecDepth 100000 in
theorem pm_Mo_fire (t_recorded : Int32) (t_lost : Int32) (t_dropped : Int32) (t_firings : Int32) (t_time : Int32) (t_thread : Int32) (t_thrown : Int32) (t_failed : Int32) (t_handed : Nat → UInt64) (t_there : Nat → Int32) (t_on : Nat → Int32) (t_site : Nat → Int32) (t_met : Nat → Int32) (t_condition : Nat → Int32) (t_code : Nat → Int32) (t_pile : Nat → UInt64) (t_globals : Nat → UInt64) (t_own : Nat → UInt64) (t_actions : Nat → Int32) (t_kind : Nat → Int32) (t_second : Nat → Int32) (t_records : Nat → UInt64) (t_target : Nat → Int32) (t_keys : Nat → Int32) (t_key : Nat → Int32) (t_sum : Nat → UInt64) (t_least : Nat → UInt64) (t_greatest : Nat → UInt64) (t_count : Nat → Int32) (t_bins : Nat → Int32) (t_first : Nat → Int32) (t_failures : Nat → Int32) (x1 : Int32) (x2 : Int32) (x3 : Int32) (x4 : UInt64) (x6 : UInt64) (x8 : UInt64) {Q Q2 : Int32 → (Int32 × Int32 × Int32 × Int32 × Int32 × Int32 × Int32 × (Nat → UInt64) × (Nat → Int32) × (Nat → UInt64) × (Nat → UInt64) × (Nat → UInt64) × (Nat → UInt64) × (Nat → Int32) × (Nat → Int32) × (Nat → UInt64) × (Nat → UInt64) × (Nat → UInt64) × (Nat → Int32) × (Nat → Int32) × (Nat → Int32)) → Prop} (hQ : ∀ r u, Q r u → Q2 r u) (hp : WP_Mo_fire t_recorded t_lost t_dropped t_firings t_time t_thread t_thrown t_failed t_handed t_there t_on t_site t_met t_condition t_code t_pile t_globals t_own t_actions t_kind t_second t_records t_target t_keys t_key t_sum t_least t_greatest t_count t_bins t_first t_failures x1 x2 x3 x4 x6 x8 Q) : WP_Mo_fire t_recorded t_lost t_dropped t_firings t_time t_thread t_thrown t_failed t_handed t_there t_on t_site t_met t_condition t_code t_pile t_globals t_own t_actions t_kind t_second t_records t_target t_keys t_key t_sum t_least t_greatest t_count t_bins t_first t_failures x1 x2 x3 x4 x6 x8 Q2 := by
  unfold WP_Mo_fire at hp ⊢
  intro r1 e3
  have g1 := hp r1 e3
  refine ⟨fun c5 => ?_, fun c5 => ?_⟩
  · have g2 := g1.1 c5
    intro r7 u8 e9
    have g3 := g2 r7 u8 e9
    refine ⟨fun c11 => ?_, fun c11 => ?_⟩
    · have g4 := g3.1 c11
      exact pm_Mo_fire_L95 hQ _ _ _ _ _ _ _ _ _ _ _ _ _ _ _ _ _ _ _ _ _ _ _ _ _ _ _ _ _ _ _ _ _ _ _ _ _ _ _ _ _ _ g4
    · have g4 := g3.2 c11
      exact hQ _ _ g4
  · have g2 := g1.2 c5
    intro r13 e15
    have g5 := g2 r13 e15
    refine ⟨fun c17 => ?_, fun c17 => ?_⟩
    · have g6 := g5.1 c17
      intro r19 u20 e21
      have g7 := g6 r19 u20 e21
      refine ⟨fun c23 => ?_, fun c23 => ?_⟩
      · have g8 := g7.1 c23
        exact pm_Mo_fire_L95 hQ _ _ _ _ _ _ _ _ _ _ _ _ _ _ _ _ _ _ _ _ _ _ _ _ _ _ _ _ _ _ _ _ _ _ _ _ _ _ _ _ _ _ g8
      · have g8 := g7.2 c23
        exact hQ _ _ g8
    · have g6 := g5.2 c17
      intro r25 e27
      have g9 := g6 r25 e27
      refine ⟨fun c29 => ?_, fun c29 => ?_⟩
      · have g10 := g9.1 c29
        intro r31 u32 e33
        have g11 := g10 r31 u32 e33
        refine ⟨fun c35 => ?_, fun c35 => ?_⟩
        · have g12 := g11.1 c35
          exact pm_Mo_fire_L95 hQ _ _ _ _ _ _ _ _ _ _ _ _ _ _ _ _ _ _ _ _ _ _ _ _ _ _ _ _ _ _ _ _ _ _ _ _ _ _ _ _ _ _ g12
        · have g12 := g11.2 c35
          exact hQ _ _ g12
      · have g10 := g9.2 c29
        intro r37 e39
        have g13 := g10 r37 e39
        refine ⟨fun c41 => ?_, fun c41 => ?_⟩
        · have g14 := g13.1 c41
          intro r43 u44 e45
          have g15 := g14 r43 u44 e45
          refine ⟨fun c47 => ?_, fun c47 => ?_⟩
          · have g16 := g15.1 c47
            exact pm_Mo_fire_L95 hQ _ _ _ _ _ _ _ _ _ _ _ _ _ _ _ _ _ _ _ _ _ _ _ _ _ _ _ _ _ _ _ _ _ _ _ _ _ _ _ _ _ _ g16
          · have g16 := g15.2 c47
            exact hQ _ _ g16
        · have g14 := g13.2 c41
          intro r49 e51
          have g17 := g14 r49 e51
          refine ⟨fun c53 => ?_, fun c53 => ?_⟩
          · have g18 := g17.1 c53
            intro r55 u56 e57
            have g19 := g18 r55 u56 e57
            refine ⟨fun c59 => ?_, fun c59 => ?_⟩
            · have g20 := g19.1 c59
              exact pm_Mo_fire_L95 hQ _ _ _ _ _ _ _ _ _ _ _ _ _ _ _ _ _ _ _ _ _ _ _ _ _ _ _ _ _ _ _ _ _ _ _ _ _ _ _ _ _ _ g20
            · have g20 := g19.2 c59
              exact hQ _ _ g20
          · have g18 := g17.2 c53
            intro r61 u62 e63
            have g21 := g18 r61 u62 e63
            refine ⟨fun c65 => ?_, fun c65 => ?_⟩
            · have g22 := g21.1 c65
              exact pm_Mo_fire_L95 hQ _ _ _ _ _ _ _ _ _ _ _ _ _ _ _ _ _ _ _ _ _ _ _ _ _ _ _ _ _ _ _ _ _ _ _ _ _ _ _ _ _ _ g22
            · have g22 := g21.2 c65
              exact hQ _ _ g22
set_option maxRecDepth 100000 in
theorem qm_Mo_fire (t_recorded : Int32) (t_lost : Int32) (t_dropped : Int32) (t_firings : Int32) (t_time : Int32) (t_thread : Int32) (t_thrown : Int32) (t_failed : Int32) (t_handed : Nat → UInt64) (t_there : Nat → Int32) (t_on : Nat → Int32) (t_site : Nat → Int32) (t_met : Nat → Int32) (t_condition : Nat → Int32) (t_code : Nat → Int32) (t_pile : Nat → UInt64) (t_globals : Nat → UInt64) (t_own : Nat → UInt64) (t_actions : Nat → Int32) (t_kind : Nat → Int32) (t_second : Nat → Int32) (t_records : Nat → UInt64) (t_target : Nat → Int32) (t_keys : Nat → Int32) (t_key : Nat → Int32) (t_sum : Nat → UInt64) (t_least : Nat → UInt64) (t_greatest : Nat → UInt64) (t_count : Nat → Int32) (t_bins : Nat → Int32) (t_first : Nat → Int32) (t_failures : Nat → Int32) (x1 : Int32) (x2 : Int32) (x3 : Int32) (x4 : UInt64) (x6 : UInt64) (x8 : UInt64) {Q : Int32 → (Int32 × Int32 × Int32 × Int32 × Int32 × Int32 × Int32 × (Nat → UInt64) × (Nat → Int32) × (Nat → UInt64) × (Nat → UInt64) × (Nat → UInt64) × (Nat → UInt64) × (Nat → Int32) × (Nat → Int32) × (Nat → UInt64) × (Nat → UInt64) × (Nat → UInt64) × (Nat → Int32) × (Nat → Int32) × (Nat → Int32)) → Prop} (tgt : Int32 × Int32 × Int32 × Int32 × Int32 × Int32 × Int32 × Int32 × (Nat → UInt64) × (Nat → Int32) × (Nat → UInt64) × (Nat → UInt64) × (Nat → UInt64) × (Nat → UInt64) × (Nat → Int32) × (Nat → Int32) × (Nat → UInt64) × (Nat → UInt64) × (Nat → UInt64) × (Nat → Int32) × (Nat → Int32) × (Nat → Int32)) (f0 : s_Mo_fire t_recorded t_lost t_dropped t_firings t_time t_thread t_thrown t_failed t_handed t_there t_on t_site t_met t_condition t_code t_pile t_globals t_own t_actions t_kind t_second t_records t_target t_keys t_key t_sum t_least t_greatest t_count t_bins t_first t_failures x1 x2 x3 x4 x6 x8 = tgt) (hp : WP_Mo_fire t_recorded t_lost t_dropped t_firings t_time t_thread t_thrown t_failed t_handed t_there t_on t_site t_met t_condition t_code t_pile t_globals t_own t_actions t_kind t_second t_records t_target t_keys t_key t_sum t_least t_greatest t_count t_bins t_first t_failures x1 x2 x3 x4 x6 x8 Q) : Q tgt.1 tgt.2 := by
  unfold WP_Mo_fire at hp
  unfold s_Mo_fire at f0
  obtain ⟨r1, e3⟩ := zex1 (s_Mo_in x1 (0 : Int32) (7 : Int32))
  have g1 := hp r1 e3
  have f1 := Eq.trans (Eq.symm (zl1_eq e3)) f0
  by_cases c5 : r1 = 0
  · have f2 := Eq.trans (Eq.symm (if_pos c5)) f1
    have g2 := g1.1 c5
    obtain ⟨r7, u8, e9⟩ := zex2 (s_Mo_bad t_thrown (0 : Int32))
    have g3 := g2 r7 u8 e9
    have f3 := Eq.trans (Eq.symm (zl2_eq e9)) f2
    by_cases c11 : r7 = 0
    · have f4 := Eq.trans (Eq.symm (if_pos c11)) f3
      have g4 := g3.1 c11
      exact qm_Mo_fire_L95 _ _ _ _ _ _ _ _ _ _ _ _ _ _ _ _ _ _ _ _ _ _ _ _ _ _ _ _ _ _ _ _ _ _ _ _ _ _ _ _ _ _ _ f4 g4
    · have f4 := Eq.trans (Eq.symm (if_neg c11)) f3
      have g4 := g3.2 c11
      subst f4; exact g4
  · have f2 := Eq.trans (Eq.symm (if_neg c5)) f1
    have g2 := g1.2 c5
    obtain ⟨r13, e15⟩ := zex1 (s_Mo_in x3 (0 : Int32) (3 : Int32))
    have g5 := g2 r13 e15
    have f5 := Eq.trans (Eq.symm (zl1_eq e15)) f2
    by_cases c17 : r13 = 0
    · have f6 := Eq.trans (Eq.symm (if_pos c17)) f5
      have g6 := g5.1 c17
      obtain ⟨r19, u20, e21⟩ := zex2 (s_Mo_bad t_thrown (0 : Int32))
      have g7 := g6 r19 u20 e21
      have f7 := Eq.trans (Eq.symm (zl2_eq e21)) f6
      by_cases c23 : r19 = 0
      · have f8 := Eq.trans (Eq.symm (if_pos c23)) f7
        have g8 := g7.1 c23
        exact qm_Mo_fire_L95 _ _ _ _ _ _ _ _ _ _ _ _ _ _ _ _ _ _ _ _ _ _ _ _ _ _ _ _ _ _ _ _ _ _ _ _ _ _ _ _ _ _ _ f8 g8
      · have f8 := Eq.trans (Eq.symm (if_neg c23)) f7
        have g8 := g7.2 c23
        subst f8; exact g8
    · have f6 := Eq.trans (Eq.symm (if_neg c17)) f5
      have g6 := g5.2 c17
      obtain ⟨r25, e27⟩ := zex1 (s_Mo_fits x4)
      have g9 := g6 r25 e27
      have f9 := Eq.trans (Eq.symm (zl1_eq e27)) f6
      by_cases c29 : r25 = 0
      · have f10 := Eq.trans (Eq.symm (if_pos c29)) f9
        have g10 := g9.1 c29
        obtain ⟨r31, u32, e33⟩ := zex2 (s_Mo_bad t_thrown (0 : Int32))
        have g11 := g10 r31 u32 e33
        have f11 := Eq.trans (Eq.symm (zl2_eq e33)) f10
        by_cases c35 : r31 = 0
        · have f12 := Eq.trans (Eq.symm (if_pos c35)) f11
          have g12 := g11.1 c35
          exact qm_Mo_fire_L95 _ _ _ _ _ _ _ _ _ _ _ _ _ _ _ _ _ _ _ _ _ _ _ _ _ _ _ _ _ _ _ _ _ _ _ _ _ _ _ _ _ _ _ f12 g12
        · have f12 := Eq.trans (Eq.symm (if_neg c35)) f11
          have g12 := g11.2 c35
          subst f12; exact g12
      · have f10 := Eq.trans (Eq.symm (if_neg c29)) f9
        have g10 := g9.2 c29
        obtain ⟨r37, e39⟩ := zex1 (s_Mo_fits x6)
        have g13 := g10 r37 e39
        have f13 := Eq.trans (Eq.symm (zl1_eq e39)) f10
        by_cases c41 : r37 = 0
        · have f14 := Eq.trans (Eq.symm (if_pos c41)) f13
          have g14 := g13.1 c41
          obtain ⟨r43, u44, e45⟩ := zex2 (s_Mo_bad t_thrown (0 : Int32))
          have g15 := g14 r43 u44 e45
          have f15 := Eq.trans (Eq.symm (zl2_eq e45)) f14
          by_cases c47 : r43 = 0
          · have f16 := Eq.trans (Eq.symm (if_pos c47)) f15
            have g16 := g15.1 c47
            exact qm_Mo_fire_L95 _ _ _ _ _ _ _ _ _ _ _ _ _ _ _ _ _ _ _ _ _ _ _ _ _ _ _ _ _ _ _ _ _ _ _ _ _ _ _ _ _ _ _ f16 g16
          · have f16 := Eq.trans (Eq.symm (if_neg c47)) f15
            have g16 := g15.2 c47
            subst f16; exact g16
        · have f14 := Eq.trans (Eq.symm (if_neg c41)) f13
          have g14 := g13.2 c41
          obtain ⟨r49, e51⟩ := zex1 (s_Mo_fits x8)
          have g17 := g14 r49 e51
          have f17 := Eq.trans (Eq.symm (zl1_eq e51)) f14
          by_cases c53 : r49 = 0
          · have f18 := Eq.trans (Eq.symm (if_pos c53)) f17
            have g18 := g17.1 c53
            obtain ⟨r55, u56, e57⟩ := zex2 (s_Mo_bad t_thrown (0 : Int32))
            have g19 := g18 r55 u56 e57
            have f19 := Eq.trans (Eq.symm (zl2_eq e57)) f18
            by_cases c59 : r55 = 0
            · have f20 := Eq.trans (Eq.symm (if_pos c59)) f19
              have g20 := g19.1 c59
              exact qm_Mo_fire_L95 _ _ _ _ _ _ _ _ _ _ _ _ _ _ _ _ _ _ _ _ _ _ _ _ _ _ _ _ _ _ _ _ _ _ _ _ _ _ _ _ _ _ _ f20 g20
            · have f20 := Eq.trans (Eq.symm (if_neg c59)) f19
              have g20 := g19.2 c59
              subst f20; exact g20
          · have f18 := Eq.trans (Eq.symm (if_neg c53)) f17
            have g18 := g17.2 c53
            obtain ⟨r61, u62, e63⟩ := zex2 (s_Mo_bad t_thrown (1 : Int32))
            have g21 := g18 r61 u62 e63
            have f21 := Eq.trans (Eq.symm (zl2_eq e63)) f18
            by_cases c65 : r61 = 0
            · have f22 := Eq.trans (Eq.symm (if_pos c65)) f21
              have g22 := g21.1 c65
              exact qm_Mo_fire_L95 _ _ _ _ _ _ _ _ _ _ _ _ _ _ _ _ _ _ _ _ _ _ _ _ _ _ _ _ _ _ _ _ _ _ _ _ _ _ _ _ _ _ _ f22 g22
            · have f22 := Eq.trans (Eq.symm (if_neg c65)) f21
              have g22 := g21.2 c65
              subst f22; exact g22
theorem e_Mo_fire (t_recorded : Int32) (t_lost : Int32) (t_dropped : Int32) (t_firings : Int32) (t_time : Int32) (t_thread : Int32) (t_thrown : Int32) (t_failed : Int32) (t_handed : Nat → UInt64) (t_there : Nat → Int32) (t_on : Nat → Int32) (t_site : Nat → Int32) (t_met : Nat → Int32) (t_condition : Nat → Int32) (t_code : Nat → Int32) (t_pile : Nat → UInt64) (t_globals : Nat → UInt64) (t_own : Nat → UInt64) (t_actions : Nat → Int32) (t_kind : Nat → Int32) (t_second : Nat → Int32) (t_records : Nat → UInt64) (t_target : Nat → Int32) (t_keys : Nat → Int32) (t_key : Nat → Int32) (t_sum : Nat → UInt64) (t_least : Nat → UInt64) (t_greatest : Nat → UInt64) (t_count : Nat → Int32) (t_bins : Nat → Int32) (t_first : Nat → Int32) (t_failures : Nat → Int32) (x1 : Int32) (x2 : Int32) (x3 : Int32) (x4 : UInt64) (x6 : UInt64) (x8 : UInt64) {Q : Int32 → (Int32 × Int32 × Int32 × Int32 × Int32 × Int32 × Int32 × (Nat → UInt64) × (Nat → Int32) × (Nat → UInt64) × (Nat → UInt64) × (Nat → UInt64) × (Nat → UInt64) × (Nat → Int32) × (Nat → Int32) × (Nat → UInt64) × (Nat → UInt64) × (Nat → UInt64) × (Nat → Int32) × (Nat → Int32) × (Nat → Int32)) → Prop} (hp : WP_Mo_fire t_recorded t_lost t_dropped t_firings t_time t_thread t_thrown t_failed t_handed t_there t_on t_site t_met t_condition t_code t_pile t_globals t_own t_actions t_kind t_second t_records t_target t_keys t_key t_sum t_least t_greatest t_count t_bins t_first t_failures x1 x2 x3 x4 x6 x8 Q) : p_Mo_fire t_recorded t_lost t_dropped t_firings t_time t_thread t_thrown t_failed t_handed t_there t_on t_site t_met t_condition t_code t_pile t_globals t_own t_actions t_kind t_second t_records t_target t_keys t_key t_sum t_least t_greatest t_count t_bins t_first t_failures x1 x2 x3 x4 x6 x8 ∧ Q (s_Mo_fire t_recorded t_lost t_dropped t_firings t_time t_thread t_thrown t_failed t_handed t_there t_on t_site t_met t_condition t_code t_pile t_globals t_own t_actions t_kind t_second t_records t_target t_keys t_key t_sum t_least t_greatest t_count t_bins t_first t_failures x1 x2 x3 x4 x6 x8).1 (s_Mo_fire t_recorded t_lost t_dropped t_firings t_time t_thread t_thrown t_failed t_handed t_there t_on t_site t_met t_condition t_code t_pile t_globals t_own t_actions t_kind t_second t_records t_target t_keys t_key t_sum t_least t_greatest t_count t_bins t_first t_failures x1 x2 x3 x4 x6 x8).2 := ⟨pm_Mo_fire t_recorded t_lost t_dropped t_firings t_time t_thread t_thrown t_failed t_handed t_there t_on t_site t_met t_condition t_code t_pile t_globals t_own t_actions t_kind t_second t_records t_target t_keys t_key t_sum t_least t_greatest t_count t_bins t_first t_failures x1 x2 x3 x4 x6 x8 (fun _ _ _ => trivial) hp, qm_Mo_fire t_recorded t_lost t_dropped t_firings t_time t_thread t_thrown t_failed t_handed t_there t_on t_site t_met t_condition t_code t_pile t_globals t_own t_actions t_kind t_second t_records t_target t_keys t_key t_sum t_least t_greatest t_count t_bins t_first t_failures x1 x2 x3 x4 x6 x8 _ rfl hp⟩
set_option maxRecDepth 100000 in
theorem pm_Mo_rulesOn_L4 {Q Q2 : Int32 → Unit → Prop} (hQ : ∀ r u, Q r u → Q2 r u) : ∀ (n : Nat) (y1 : Int32) (y2 : Int32) (t_there : Nat → Int32) (t_on : Nat → Int32), WP_Mo_rulesOn_L4 n y1 y2 t_there t_on Q → WP_Mo_rulesOn_L4 n y1 y2 t_there t_on Q2 := by
  intro n
  induction n with
  | zero => intros; contradiction
  | succ n ih =>
    intro y1 y2 t_there t_on hp
    unfold WP_Mo_rulesOn_L4 at hp ⊢
    refine ⟨fun c1 => ?_, fun c1 => ?_⟩
    · have g1 := hp.1 c1
      exact hQ _ _ g1
    · have g1 := hp.2 c1
      refine ⟨g1.1, ?_⟩
      have g2 := g1.2
      refine ⟨fun c4 => ?_, fun c4 => ?_⟩
      · have g3 := g2.1 c4
        exact ih _ _ _ _ g3
      · have g3 := g2.2 c4
        refine ⟨g3.1, ?_⟩
        have g4 := g3.2
        refine ⟨fun c7 => ?_, fun c7 => ?_⟩
        · have g5 := g4.1 c7
          exact ih _ _ _ _ g5
        · have g5 := g4.2 c7
          exact ih _ _ _ _ g5
set_option maxRecDepth 100000 in
theorem qm_Mo_rulesOn_L4 {Q : Int32 → Unit → Prop} : ∀ (n : Nat) (y1 : Int32) (y2 : Int32) (t_there : Nat → Int32) (t_on : Nat → Int32) (tgt : Int32), s_Mo_rulesOn_L4 n y1 y2 t_there t_on = tgt → WP_Mo_rulesOn_L4 n y1 y2 t_there t_on Q → Q tgt () := by
  intro n
  induction n with
  | zero => intros; contradiction
  | succ n ih =>
    intro y1 y2 t_there t_on tgt f0 hp
    unfold WP_Mo_rulesOn_L4 at hp
    unfold s_Mo_rulesOn_L4 at f0
    by_cases c1 : (6 : Int32) ≤ y2
    · have f1 := Eq.trans (Eq.symm (if_pos c1)) f0
      have g1 := hp.1 c1
      subst f1; exact g1
    · have f1 := Eq.trans (Eq.symm (if_neg c1)) f0
      have g1 := hp.2 c1
      have g2 := g1.2
      by_cases c4 : (t_there y2.toNatClampNeg) = 0
      · have f3 := Eq.trans (Eq.symm (if_pos c4)) f1
        have g3 := g2.1 c4
        exact ih _ _ _ _ _ f3 g3
      · have f3 := Eq.trans (Eq.symm (if_neg c4)) f1
        have g3 := g2.2 c4
        have g4 := g3.2
        by_cases c7 : (t_on y2.toNatClampNeg) = 0
        · have f5 := Eq.trans (Eq.symm (if_pos c7)) f3
          have g5 := g4.1 c7
          exact ih _ _ _ _ _ f5 g5
        · have f5 := Eq.trans (Eq.symm (if_neg c7)) f3
          have g5 := g4.2 c7
          exact ih _ _ _ _ _ f5 g5
set_option maxRecDepth 100000 in
theorem pm_Mo_rulesOn (t_there : Nat → Int32) (t_on : Nat → Int32) {Q Q2 : Int32 → Unit → Prop} (hQ : ∀ r u, Q r u → Q2 r u) (hp : WP_Mo_rulesOn t_there t_on Q) : WP_Mo_rulesOn t_there t_on Q2 := by
  unfold WP_Mo_rulesOn at hp ⊢
  exact pm_Mo_rulesOn_L4 hQ _ _ _ _ _ hp
set_option maxRecDepth 100000 in
theorem qm_Mo_rulesOn (t_there : Nat → Int32) (t_on : Nat → Int32) {Q : Int32 → Unit → Prop} (tgt : Int32) (f0 : s_Mo_rulesOn t_there t_on = tgt) (hp : WP_Mo_rulesOn t_there t_on Q) : Q tgt () := by
  unfold WP_Mo_rulesOn at hp
  unfold s_Mo_rulesOn at f0
  exact qm_Mo_rulesOn_L4 _ _ _ _ _ _ f0 hp
theorem e_Mo_rulesOn (t_there : Nat → Int32) (t_on : Nat → Int32) {Q : Int32 → Unit → Prop} (hp : WP_Mo_rulesOn t_there t_on Q) : p_Mo_rulesOn t_there t_on ∧ Q (s_Mo_rulesOn t_there t_on) () := ⟨pm_Mo_rulesOn t_there t_on (fun _ _ _ => trivial) hp, qm_Mo_rulesOn t_there t_on _ rfl hp⟩
set_option maxRecDepth 100000 in
theorem pm_Mo_turn (t_thrown : Int32) (t_there : Nat → Int32) (t_on : Nat → Int32) (x1 : Int32) (x2 : Int32) {Q Q2 : Int32 → (Int32 × (Nat → Int32)) → Prop} (hQ : ∀ r u, Q r u → Q2 r u) (hp : WP_Mo_turn t_thrown t_there t_on x1 x2 Q) : WP_Mo_turn t_thrown t_there t_on x1 x2 Q2 := by
  unfold WP_Mo_turn at hp ⊢
  intro r1 e3
  have g1 := hp r1 e3
  intro r5 u6 e7
  have g2 := g1 r5 u6 e7
  refine ⟨fun c9 => ?_, fun c9 => ?_⟩
  · have g3 := g2.1 c9
    refine ⟨g3.1, ?_⟩
    have g4 := g3.2
    refine ⟨fun c12 => ?_, fun c12 => ?_⟩
    · have g5 := g4.1 c12
      refine ⟨g5.1, ?_⟩
      have g6 := g5.2
      refine ⟨g6.1, ?_⟩
      intro r15 e17
      have g7 := g6.2 r15 e17
      exact hQ _ _ g7
    · have g5 := g4.2 c12
      exact hQ _ _ g5
  · have g3 := g2.2 c9
    exact hQ _ _ g3
set_option maxRecDepth 100000 in
theorem qm_Mo_turn (t_thrown : Int32) (t_there : Nat → Int32) (t_on : Nat → Int32) (x1 : Int32) (x2 : Int32) {Q : Int32 → (Int32 × (Nat → Int32)) → Prop} (tgt : Int32 × Int32 × (Nat → Int32)) (f0 : s_Mo_turn t_thrown t_there t_on x1 x2 = tgt) (hp : WP_Mo_turn t_thrown t_there t_on x1 x2 Q) : Q tgt.1 tgt.2 := by
  unfold WP_Mo_turn at hp
  unfold s_Mo_turn at f0
  obtain ⟨r1, e3⟩ := zex1 (s_Mo_in x1 (0 : Int32) (5 : Int32))
  have g1 := hp r1 e3
  have f1 := Eq.trans (Eq.symm (zl1_eq e3)) f0
  obtain ⟨r5, u6, e7⟩ := zex2 (s_Mo_bad t_thrown r1)
  have g2 := g1 r5 u6 e7
  have f2 := Eq.trans (Eq.symm (zl2_eq e7)) f1
  by_cases c9 : r5 = 0
  · have f3 := Eq.trans (Eq.symm (if_pos c9)) f2
    have g3 := g2.1 c9
    have g4 := g3.2
    by_cases c12 : (t_there x1.toNatClampNeg) = 0
    · have f5 := Eq.trans (Eq.symm (if_pos c12)) f3
      have g5 := g4.2 c12
      subst f5; exact g5
    · have f5 := Eq.trans (Eq.symm (if_neg c12)) f3
      have g5 := g4.1 c12
      have g6 := g5.2
      obtain ⟨r15, e17⟩ := zex1 (s_Mo_rulesOn t_there (upd t_on x1.toNatClampNeg (vp_nar .boolean x2)))
      have g7 := g6.2 r15 e17
      have f7 := Eq.trans (Eq.symm (zl1_eq e17)) f5
      subst f7; exact g7
  · have f3 := Eq.trans (Eq.symm (if_neg c9)) f2
    have g3 := g2.2 c9
    subst f3; exact g3
theorem e_Mo_turn (t_thrown : Int32) (t_there : Nat → Int32) (t_on : Nat → Int32) (x1 : Int32) (x2 : Int32) {Q : Int32 → (Int32 × (Nat → Int32)) → Prop} (hp : WP_Mo_turn t_thrown t_there t_on x1 x2 Q) : p_Mo_turn t_thrown t_there t_on x1 x2 ∧ Q (s_Mo_turn t_thrown t_there t_on x1 x2).1 (s_Mo_turn t_thrown t_there t_on x1 x2).2 := ⟨pm_Mo_turn t_thrown t_there t_on x1 x2 (fun _ _ _ => trivial) hp, qm_Mo_turn t_thrown t_there t_on x1 x2 _ rfl hp⟩
set_option maxRecDepth 100000 in
theorem pm_Mo_tick (t_time : Int32) (t_thrown : Int32) (x1 : Int32) {Q Q2 : Int32 → (Int32 × Int32) → Prop} (hQ : ∀ r u, Q r u → Q2 r u) (hp : WP_Mo_tick t_time t_thrown x1 Q) : WP_Mo_tick t_time t_thrown x1 Q2 := by
  unfold WP_Mo_tick at hp ⊢
  intro r1 e3
  have g1 := hp r1 e3
  intro r5 u6 e7
  have g2 := g1 r5 u6 e7
  refine ⟨fun c9 => ?_, fun c9 => ?_⟩
  · have g3 := g2.1 c9
    exact hQ _ _ g3
  · have g3 := g2.2 c9
    exact hQ _ _ g3
set_option maxRecDepth 100000 in
theorem qm_Mo_tick (t_time : Int32) (t_thrown : Int32) (x1 : Int32) {Q : Int32 → (Int32 × Int32) → Prop} (tgt : Int32 × Int32 × Int32) (f0 : s_Mo_tick t_time t_thrown x1 = tgt) (hp : WP_Mo_tick t_time t_thrown x1 Q) : Q tgt.1 tgt.2 := by
  unfold WP_Mo_tick at hp
  unfold s_Mo_tick at f0
  obtain ⟨r1, e3⟩ := zex1 (s_Mo_in x1 (1 : Int32) (100 : Int32))
  have g1 := hp r1 e3
  have f1 := Eq.trans (Eq.symm (zl1_eq e3)) f0
  obtain ⟨r5, u6, e7⟩ := zex2 (s_Mo_bad t_thrown r1)
  have g2 := g1 r5 u6 e7
  have f2 := Eq.trans (Eq.symm (zl2_eq e7)) f1
  by_cases c9 : r5 = 0
  · have f3 := Eq.trans (Eq.symm (if_pos c9)) f2
    have g3 := g2.1 c9
    subst f3; exact g3
  · have f3 := Eq.trans (Eq.symm (if_neg c9)) f2
    have g3 := g2.2 c9
    subst f3; exact g3
theorem e_Mo_tick (t_time : Int32) (t_thrown : Int32) (x1 : Int32) {Q : Int32 → (Int32 × Int32) → Prop} (hp : WP_Mo_tick t_time t_thrown x1 Q) : Q (s_Mo_tick t_time t_thrown x1).1 (s_Mo_tick t_time t_thrown x1).2 := qm_Mo_tick t_time t_thrown x1 _ rfl hp
set_option maxRecDepth 100000 in
theorem pm_Mo_variable (t_thrown : Int32) (t_globals : Nat → UInt64) (t_own : Nat → UInt64) (x1 : Int32) (x2 : Int32) {Q Q2 : UInt64 → Int32 → Prop} (hQ : ∀ r u, Q r u → Q2 r u) (hp : WP_Mo_variable t_thrown t_globals t_own x1 x2 Q) : WP_Mo_variable t_thrown t_globals t_own x1 x2 Q2 := by
  unfold WP_Mo_variable at hp ⊢
  intro r1 e3
  have g1 := hp r1 e3
  refine ⟨fun c5 => ?_, fun c5 => ?_⟩
  · have g2 := g1.1 c5
    intro r7 u8 e9
    have g3 := g2 r7 u8 e9
    refine ⟨fun c11 => ?_, fun c11 => ?_⟩
    · have g4 := g3.1 c11
      refine ⟨fun c13 => ?_, fun c13 => ?_⟩
      · have g5 := g4.1 c13
        refine ⟨g5.1, ?_⟩
        have g6 := g5.2
        exact hQ _ _ g6
      · have g5 := g4.2 c13
        refine ⟨g5.1, ?_⟩
        have g7 := g5.2
        exact hQ _ _ g7
    · have g4 := g3.2 c11
      exact hQ _ _ g4
  · have g2 := g1.2 c5
    intro r17 e19
    have g8 := g2 r17 e19
    refine ⟨fun c21 => ?_, fun c21 => ?_⟩
    · have g9 := g8.1 c21
      intro r23 u24 e25
      have g10 := g9 r23 u24 e25
      refine ⟨fun c27 => ?_, fun c27 => ?_⟩
      · have g11 := g10.1 c27
        refine ⟨fun c29 => ?_, fun c29 => ?_⟩
        · have g12 := g11.1 c29
          refine ⟨g12.1, ?_⟩
          have g13 := g12.2
          exact hQ _ _ g13
        · have g12 := g11.2 c29
          refine ⟨g12.1, ?_⟩
          have g14 := g12.2
          exact hQ _ _ g14
      · have g11 := g10.2 c27
        exact hQ _ _ g11
    · have g9 := g8.2 c21
      intro r33 e35
      have g15 := g9 r33 e35
      refine ⟨fun c37 => ?_, fun c37 => ?_⟩
      · have g16 := g15.1 c37
        intro r39 u40 e41
        have g17 := g16 r39 u40 e41
        refine ⟨fun c43 => ?_, fun c43 => ?_⟩
        · have g18 := g17.1 c43
          refine ⟨fun c45 => ?_, fun c45 => ?_⟩
          · have g19 := g18.1 c45
            refine ⟨g19.1, ?_⟩
            have g20 := g19.2
            exact hQ _ _ g20
          · have g19 := g18.2 c45
            refine ⟨g19.1, ?_⟩
            have g21 := g19.2
            exact hQ _ _ g21
        · have g18 := g17.2 c43
          exact hQ _ _ g18
      · have g16 := g15.2 c37
        intro r49 u50 e51
        have g22 := g16 r49 u50 e51
        refine ⟨fun c53 => ?_, fun c53 => ?_⟩
        · have g23 := g22.1 c53
          refine ⟨fun c55 => ?_, fun c55 => ?_⟩
          · have g24 := g23.1 c55
            refine ⟨g24.1, ?_⟩
            have g25 := g24.2
            exact hQ _ _ g25
          · have g24 := g23.2 c55
            refine ⟨g24.1, ?_⟩
            have g26 := g24.2
            exact hQ _ _ g26
        · have g23 := g22.2 c53
          exact hQ _ _ g23
set_option maxRecDepth 100000 in
theorem qm_Mo_variable (t_thrown : Int32) (t_globals : Nat → UInt64) (t_own : Nat → UInt64) (x1 : Int32) (x2 : Int32) {Q : UInt64 → Int32 → Prop} (tgt : UInt64 × Int32) (f0 : s_Mo_variable t_thrown t_globals t_own x1 x2 = tgt) (hp : WP_Mo_variable t_thrown t_globals t_own x1 x2 Q) : Q tgt.1 tgt.2 := by
  unfold WP_Mo_variable at hp
  unfold s_Mo_variable at f0
  obtain ⟨r1, e3⟩ := zex1 (s_Mo_in x1 (0 : Int32) (2 : Int32))
  have g1 := hp r1 e3
  have f1 := Eq.trans (Eq.symm (zl1_eq e3)) f0
  by_cases c5 : r1 = 0
  · have f2 := Eq.trans (Eq.symm (if_pos c5)) f1
    have g2 := g1.2 c5
    obtain ⟨r17, e19⟩ := zex1 (s_Mo_in x1 (3 : Int32) (5 : Int32))
    have g3 := g2 r17 e19
    have f3 := Eq.trans (Eq.symm (zl1_eq e19)) f2
    by_cases c21 : r17 = 0
    · have f4 := Eq.trans (Eq.symm (if_pos c21)) f3
      have g4 := g3.1 c21
      obtain ⟨r23, u24, e25⟩ := zex2 (s_Mo_bad t_thrown (0 : Int32))
      have g5 := g4 r23 u24 e25
      have f5 := Eq.trans (Eq.symm (zl2_eq e25)) f4
      by_cases c27 : r23 = 0
      · have f6 := Eq.trans (Eq.symm (if_pos c27)) f5
        have g6 := g5.1 c27
        by_cases c29 : (3 : Int32) ≤ x1
        · have f7 := Eq.trans (Eq.symm (if_pos c29)) f6
          have g7 := g6.1 c29
          have g8 := g7.2
          subst f7; exact g8
        · have f7 := Eq.trans (Eq.symm (if_neg c29)) f6
          have g7 := g6.2 c29
          have g9 := g7.2
          subst f7; exact g9
      · have f6 := Eq.trans (Eq.symm (if_neg c27)) f5
        have g6 := g5.2 c27
        subst f6; exact g6
    · have f4 := Eq.trans (Eq.symm (if_neg c21)) f3
      have g4 := g3.2 c21
      obtain ⟨r33, e35⟩ := zex1 (s_Mo_in x2 (0 : Int32) (3 : Int32))
      have g10 := g4 r33 e35
      have f10 := Eq.trans (Eq.symm (zl1_eq e35)) f4
      by_cases c37 : r33 = 0
      · have f11 := Eq.trans (Eq.symm (if_pos c37)) f10
        have g11 := g10.1 c37
        obtain ⟨r39, u40, e41⟩ := zex2 (s_Mo_bad t_thrown (0 : Int32))
        have g12 := g11 r39 u40 e41
        have f12 := Eq.trans (Eq.symm (zl2_eq e41)) f11
        by_cases c43 : r39 = 0
        · have f13 := Eq.trans (Eq.symm (if_pos c43)) f12
          have g13 := g12.1 c43
          by_cases c45 : (3 : Int32) ≤ x1
          · have f14 := Eq.trans (Eq.symm (if_pos c45)) f13
            have g14 := g13.1 c45
            have g15 := g14.2
            subst f14; exact g15
          · have f14 := Eq.trans (Eq.symm (if_neg c45)) f13
            have g14 := g13.2 c45
            have g16 := g14.2
            subst f14; exact g16
        · have f13 := Eq.trans (Eq.symm (if_neg c43)) f12
          have g13 := g12.2 c43
          subst f13; exact g13
      · have f11 := Eq.trans (Eq.symm (if_neg c37)) f10
        have g11 := g10.2 c37
        obtain ⟨r49, u50, e51⟩ := zex2 (s_Mo_bad t_thrown (1 : Int32))
        have g17 := g11 r49 u50 e51
        have f17 := Eq.trans (Eq.symm (zl2_eq e51)) f11
        by_cases c53 : r49 = 0
        · have f18 := Eq.trans (Eq.symm (if_pos c53)) f17
          have g18 := g17.1 c53
          by_cases c55 : (3 : Int32) ≤ x1
          · have f19 := Eq.trans (Eq.symm (if_pos c55)) f18
            have g19 := g18.1 c55
            have g20 := g19.2
            subst f19; exact g20
          · have f19 := Eq.trans (Eq.symm (if_neg c55)) f18
            have g19 := g18.2 c55
            have g21 := g19.2
            subst f19; exact g21
        · have f18 := Eq.trans (Eq.symm (if_neg c53)) f17
          have g18 := g17.2 c53
          subst f18; exact g18
  · have f2 := Eq.trans (Eq.symm (if_neg c5)) f1
    have g2 := g1.1 c5
    obtain ⟨r7, u8, e9⟩ := zex2 (s_Mo_bad t_thrown (1 : Int32))
    have g22 := g2 r7 u8 e9
    have f22 := Eq.trans (Eq.symm (zl2_eq e9)) f2
    by_cases c11 : r7 = 0
    · have f23 := Eq.trans (Eq.symm (if_pos c11)) f22
      have g23 := g22.1 c11
      by_cases c13 : (3 : Int32) ≤ x1
      · have f24 := Eq.trans (Eq.symm (if_pos c13)) f23
        have g24 := g23.1 c13
        have g25 := g24.2
        subst f24; exact g25
      · have f24 := Eq.trans (Eq.symm (if_neg c13)) f23
        have g24 := g23.2 c13
        have g26 := g24.2
        subst f24; exact g26
    · have f23 := Eq.trans (Eq.symm (if_neg c11)) f22
      have g23 := g22.2 c11
      subst f23; exact g23
theorem e_Mo_variable (t_thrown : Int32) (t_globals : Nat → UInt64) (t_own : Nat → UInt64) (x1 : Int32) (x2 : Int32) {Q : UInt64 → Int32 → Prop} (hp : WP_Mo_variable t_thrown t_globals t_own x1 x2 Q) : p_Mo_variable t_thrown t_globals t_own x1 x2 ∧ Q (s_Mo_variable t_thrown t_globals t_own x1 x2).1 (s_Mo_variable t_thrown t_globals t_own x1 x2).2 := ⟨pm_Mo_variable t_thrown t_globals t_own x1 x2 (fun _ _ _ => trivial) hp, qm_Mo_variable t_thrown t_globals t_own x1 x2 _ rfl hp⟩
set_option maxRecDepth 100000 in
theorem pm_Mo_gathered (t_thrown : Int32) (t_keys : Nat → Int32) (t_key : Nat → Int32) (t_sum : Nat → UInt64) (t_least : Nat → UInt64) (t_greatest : Nat → UInt64) (t_count : Nat → Int32) (x1 : Int32) (x2 : Int32) (x3 : Int32) {Q Q2 : UInt64 → Int32 → Prop} (hQ : ∀ r u, Q r u → Q2 r u) (hp : WP_Mo_gathered t_thrown t_keys t_key t_sum t_least t_greatest t_count x1 x2 x3 Q) : WP_Mo_gathered t_thrown t_keys t_key t_sum t_least t_greatest t_count x1 x2 x3 Q2 := by
  unfold WP_Mo_gathered at hp ⊢
  intro r1 e3
  have g1 := hp r1 e3
  refine ⟨fun c5 => ?_, fun c5 => ?_⟩
  · have g2 := g1.1 c5
    intro r7 u8 e9
    have g3 := g2 r7 u8 e9
    refine ⟨fun c11 => ?_, fun c11 => ?_⟩
    · have g4 := g3.1 c11
      refine ⟨g4.1, ?_⟩
      intro r13 e15
      have g5 := g4.2 r13 e15
      refine ⟨fun c17 => ?_, fun c17 => ?_⟩
      · have g6 := g5.1 c17
        refine ⟨fun c19 => ?_, fun c19 => ?_⟩
        · have g7 := g6.1 c19
          refine ⟨fun c21 => ?_, fun c21 => ?_⟩
          · have g8 := g7.1 c21
            refine ⟨fun c23 => ?_, fun c23 => ?_⟩
            · have g9 := g8.1 c23
              refine ⟨g9.1, ?_⟩
              have g10 := g9.2
              refine ⟨g10.1, ?_⟩
              have g11 := g10.2
              refine ⟨g11.1, ?_⟩
              have g12 := g11.2
              exact hQ _ _ g12
            · have g9 := g8.2 c23
              refine ⟨g9.1, ?_⟩
              have g13 := g9.2
              exact hQ _ _ g13
          · have g8 := g7.2 c21
            refine ⟨g8.1, ?_⟩
            have g14 := g8.2
            exact hQ _ _ g14
        · have g7 := g6.2 c19
          refine ⟨g7.1, ?_⟩
          have g15 := g7.2
          exact hQ _ _ g15
      · have g6 := g5.2 c17
        intro r31 u32 e33
        have g16 := g6 r31 u32 e33
        exact hQ _ _ g16
    · have g4 := g3.2 c11
      exact hQ _ _ g4
  · have g2 := g1.2 c5
    intro r35 e37
    have g17 := g2 r35 e37
    refine ⟨fun c39 => ?_, fun c39 => ?_⟩
    · have g18 := g17.1 c39
      intro r41 u42 e43
      have g19 := g18 r41 u42 e43
      refine ⟨fun c45 => ?_, fun c45 => ?_⟩
      · have g20 := g19.1 c45
        refine ⟨g20.1, ?_⟩
        intro r47 e49
        have g21 := g20.2 r47 e49
        refine ⟨fun c51 => ?_, fun c51 => ?_⟩
        · have g22 := g21.1 c51
          refine ⟨fun c53 => ?_, fun c53 => ?_⟩
          · have g23 := g22.1 c53
            refine ⟨fun c55 => ?_, fun c55 => ?_⟩
            · have g24 := g23.1 c55
              refine ⟨fun c57 => ?_, fun c57 => ?_⟩
              · have g25 := g24.1 c57
                refine ⟨g25.1, ?_⟩
                have g26 := g25.2
                refine ⟨g26.1, ?_⟩
                have g27 := g26.2
                refine ⟨g27.1, ?_⟩
                have g28 := g27.2
                exact hQ _ _ g28
              · have g25 := g24.2 c57
                refine ⟨g25.1, ?_⟩
                have g29 := g25.2
                exact hQ _ _ g29
            · have g24 := g23.2 c55
              refine ⟨g24.1, ?_⟩
              have g30 := g24.2
              exact hQ _ _ g30
          · have g23 := g22.2 c53
            refine ⟨g23.1, ?_⟩
            have g31 := g23.2
            exact hQ _ _ g31
        · have g22 := g21.2 c51
          intro r65 u66 e67
          have g32 := g22 r65 u66 e67
          exact hQ _ _ g32
      · have g20 := g19.2 c45
        exact hQ _ _ g20
    · have g18 := g17.2 c39
      intro r69 u70 e71
      have g33 := g18 r69 u70 e71
      refine ⟨fun c73 => ?_, fun c73 => ?_⟩
      · have g34 := g33.1 c73
        refine ⟨g34.1, ?_⟩
        intro r75 e77
        have g35 := g34.2 r75 e77
        refine ⟨fun c79 => ?_, fun c79 => ?_⟩
        · have g36 := g35.1 c79
          refine ⟨fun c81 => ?_, fun c81 => ?_⟩
          · have g37 := g36.1 c81
            refine ⟨fun c83 => ?_, fun c83 => ?_⟩
            · have g38 := g37.1 c83
              refine ⟨fun c85 => ?_, fun c85 => ?_⟩
              · have g39 := g38.1 c85
                refine ⟨g39.1, ?_⟩
                have g40 := g39.2
                refine ⟨g40.1, ?_⟩
                have g41 := g40.2
                refine ⟨g41.1, ?_⟩
                have g42 := g41.2
                exact hQ _ _ g42
              · have g39 := g38.2 c85
                refine ⟨g39.1, ?_⟩
                have g43 := g39.2
                exact hQ _ _ g43
            · have g38 := g37.2 c83
              refine ⟨g38.1, ?_⟩
              have g44 := g38.2
              exact hQ _ _ g44
          · have g37 := g36.2 c81
            refine ⟨g37.1, ?_⟩
            have g45 := g37.2
            exact hQ _ _ g45
        · have g36 := g35.2 c79
          intro r93 u94 e95
          have g46 := g36 r93 u94 e95
          exact hQ _ _ g46
      · have g34 := g33.2 c73
        exact hQ _ _ g34
set_option maxRecDepth 100000 in
theorem qm_Mo_gathered (t_thrown : Int32) (t_keys : Nat → Int32) (t_key : Nat → Int32) (t_sum : Nat → UInt64) (t_least : Nat → UInt64) (t_greatest : Nat → UInt64) (t_count : Nat → Int32) (x1 : Int32) (x2 : Int32) (x3 : Int32) {Q : UInt64 → Int32 → Prop} (tgt : UInt64 × Int32) (f0 : s_Mo_gathered t_thrown t_keys t_key t_sum t_least t_greatest t_count x1 x2 x3 = tgt) (hp : WP_Mo_gathered t_thrown t_keys t_key t_sum t_least t_greatest t_count x1 x2 x3 Q) : Q tgt.1 tgt.2 := by
  unfold WP_Mo_gathered at hp
  unfold s_Mo_gathered at f0
  obtain ⟨r1, e3⟩ := zex1 (s_Mo_in x1 (0 : Int32) (2 : Int32))
  have g1 := hp r1 e3
  have f1 := Eq.trans (Eq.symm (zl1_eq e3)) f0
  by_cases c5 : r1 = 0
  · have f2 := Eq.trans (Eq.symm (if_pos c5)) f1
    have g2 := g1.1 c5
    obtain ⟨r7, u8, e9⟩ := zex2 (s_Mo_bad t_thrown (0 : Int32))
    have g3 := g2 r7 u8 e9
    have f3 := Eq.trans (Eq.symm (zl2_eq e9)) f2
    by_cases c11 : r7 = 0
    · have f4 := Eq.trans (Eq.symm (if_pos c11)) f3
      have g4 := g3.1 c11
      obtain ⟨r13, e15⟩ := zex1 (s_Mo_find t_keys t_key x1 x2)
      have g5 := g4.2 r13 e15
      have f5 := Eq.trans (Eq.symm (zl1_eq e15)) f4
      by_cases c17 : 0 ≤ r13
      · have f6 := Eq.trans (Eq.symm (if_pos c17)) f5
        have g6 := g5.1 c17
        by_cases c19 : x3 = 0
        · have f7 := Eq.trans (Eq.symm (if_pos c19)) f6
          have g7 := g6.2 c19
          have g8 := g7.2
          subst f7; exact g8
        · have f7 := Eq.trans (Eq.symm (if_neg c19)) f6
          have g7 := g6.1 c19
          by_cases c21 : x3 = (1 : Int32)
          · have f9 := Eq.trans (Eq.symm (if_pos c21)) f7
            have g9 := g7.2 c21
            have g10 := g9.2
            subst f9; exact g10
          · have f9 := Eq.trans (Eq.symm (if_neg c21)) f7
            have g9 := g7.1 c21
            by_cases c23 : x3 = (2 : Int32)
            · have f11 := Eq.trans (Eq.symm (if_pos c23)) f9
              have g11 := g9.2 c23
              have g12 := g11.2
              subst f11; exact g12
            · have f11 := Eq.trans (Eq.symm (if_neg c23)) f9
              have g11 := g9.1 c23
              have g13 := g11.2
              have g14 := g13.2
              have g15 := g14.2
              subst f11; exact g15
      · have f6 := Eq.trans (Eq.symm (if_neg c17)) f5
        have g6 := g5.2 c17
        obtain ⟨r31, u32, e33⟩ := zex2 (s_Mo_fail u8 (2 : Int32))
        have g16 := g6 r31 u32 e33
        have f16 := Eq.trans (Eq.symm (zl2_eq e33)) f6
        subst f16; exact g16
    · have f4 := Eq.trans (Eq.symm (if_neg c11)) f3
      have g4 := g3.2 c11
      subst f4; exact g4
  · have f2 := Eq.trans (Eq.symm (if_neg c5)) f1
    have g2 := g1.2 c5
    obtain ⟨r35, e37⟩ := zex1 (s_Mo_in x3 (0 : Int32) (3 : Int32))
    have g17 := g2 r35 e37
    have f17 := Eq.trans (Eq.symm (zl1_eq e37)) f2
    by_cases c39 : r35 = 0
    · have f18 := Eq.trans (Eq.symm (if_pos c39)) f17
      have g18 := g17.1 c39
      obtain ⟨r41, u42, e43⟩ := zex2 (s_Mo_bad t_thrown (0 : Int32))
      have g19 := g18 r41 u42 e43
      have f19 := Eq.trans (Eq.symm (zl2_eq e43)) f18
      by_cases c45 : r41 = 0
      · have f20 := Eq.trans (Eq.symm (if_pos c45)) f19
        have g20 := g19.1 c45
        obtain ⟨r47, e49⟩ := zex1 (s_Mo_find t_keys t_key x1 x2)
        have g21 := g20.2 r47 e49
        have f21 := Eq.trans (Eq.symm (zl1_eq e49)) f20
        by_cases c51 : 0 ≤ r47
        · have f22 := Eq.trans (Eq.symm (if_pos c51)) f21
          have g22 := g21.1 c51
          by_cases c53 : x3 = 0
          · have f23 := Eq.trans (Eq.symm (if_pos c53)) f22
            have g23 := g22.2 c53
            have g24 := g23.2
            subst f23; exact g24
          · have f23 := Eq.trans (Eq.symm (if_neg c53)) f22
            have g23 := g22.1 c53
            by_cases c55 : x3 = (1 : Int32)
            · have f25 := Eq.trans (Eq.symm (if_pos c55)) f23
              have g25 := g23.2 c55
              have g26 := g25.2
              subst f25; exact g26
            · have f25 := Eq.trans (Eq.symm (if_neg c55)) f23
              have g25 := g23.1 c55
              by_cases c57 : x3 = (2 : Int32)
              · have f27 := Eq.trans (Eq.symm (if_pos c57)) f25
                have g27 := g25.2 c57
                have g28 := g27.2
                subst f27; exact g28
              · have f27 := Eq.trans (Eq.symm (if_neg c57)) f25
                have g27 := g25.1 c57
                have g29 := g27.2
                have g30 := g29.2
                have g31 := g30.2
                subst f27; exact g31
        · have f22 := Eq.trans (Eq.symm (if_neg c51)) f21
          have g22 := g21.2 c51
          obtain ⟨r65, u66, e67⟩ := zex2 (s_Mo_fail u42 (2 : Int32))
          have g32 := g22 r65 u66 e67
          have f32 := Eq.trans (Eq.symm (zl2_eq e67)) f22
          subst f32; exact g32
      · have f20 := Eq.trans (Eq.symm (if_neg c45)) f19
        have g20 := g19.2 c45
        subst f20; exact g20
    · have f18 := Eq.trans (Eq.symm (if_neg c39)) f17
      have g18 := g17.2 c39
      obtain ⟨r69, u70, e71⟩ := zex2 (s_Mo_bad t_thrown (1 : Int32))
      have g33 := g18 r69 u70 e71
      have f33 := Eq.trans (Eq.symm (zl2_eq e71)) f18
      by_cases c73 : r69 = 0
      · have f34 := Eq.trans (Eq.symm (if_pos c73)) f33
        have g34 := g33.1 c73
        obtain ⟨r75, e77⟩ := zex1 (s_Mo_find t_keys t_key x1 x2)
        have g35 := g34.2 r75 e77
        have f35 := Eq.trans (Eq.symm (zl1_eq e77)) f34
        by_cases c79 : 0 ≤ r75
        · have f36 := Eq.trans (Eq.symm (if_pos c79)) f35
          have g36 := g35.1 c79
          by_cases c81 : x3 = 0
          · have f37 := Eq.trans (Eq.symm (if_pos c81)) f36
            have g37 := g36.2 c81
            have g38 := g37.2
            subst f37; exact g38
          · have f37 := Eq.trans (Eq.symm (if_neg c81)) f36
            have g37 := g36.1 c81
            by_cases c83 : x3 = (1 : Int32)
            · have f39 := Eq.trans (Eq.symm (if_pos c83)) f37
              have g39 := g37.2 c83
              have g40 := g39.2
              subst f39; exact g40
            · have f39 := Eq.trans (Eq.symm (if_neg c83)) f37
              have g39 := g37.1 c83
              by_cases c85 : x3 = (2 : Int32)
              · have f41 := Eq.trans (Eq.symm (if_pos c85)) f39
                have g41 := g39.2 c85
                have g42 := g41.2
                subst f41; exact g42
              · have f41 := Eq.trans (Eq.symm (if_neg c85)) f39
                have g41 := g39.1 c85
                have g43 := g41.2
                have g44 := g43.2
                have g45 := g44.2
                subst f41; exact g45
        · have f36 := Eq.trans (Eq.symm (if_neg c79)) f35
          have g36 := g35.2 c79
          obtain ⟨r93, u94, e95⟩ := zex2 (s_Mo_fail u70 (2 : Int32))
          have g46 := g36 r93 u94 e95
          have f46 := Eq.trans (Eq.symm (zl2_eq e95)) f36
          subst f46; exact g46
      · have f34 := Eq.trans (Eq.symm (if_neg c73)) f33
        have g34 := g33.2 c73
        subst f34; exact g34
theorem e_Mo_gathered (t_thrown : Int32) (t_keys : Nat → Int32) (t_key : Nat → Int32) (t_sum : Nat → UInt64) (t_least : Nat → UInt64) (t_greatest : Nat → UInt64) (t_count : Nat → Int32) (x1 : Int32) (x2 : Int32) (x3 : Int32) {Q : UInt64 → Int32 → Prop} (hp : WP_Mo_gathered t_thrown t_keys t_key t_sum t_least t_greatest t_count x1 x2 x3 Q) : p_Mo_gathered t_thrown t_keys t_key t_sum t_least t_greatest t_count x1 x2 x3 ∧ Q (s_Mo_gathered t_thrown t_keys t_key t_sum t_least t_greatest t_count x1 x2 x3).1 (s_Mo_gathered t_thrown t_keys t_key t_sum t_least t_greatest t_count x1 x2 x3).2 := ⟨pm_Mo_gathered t_thrown t_keys t_key t_sum t_least t_greatest t_count x1 x2 x3 (fun _ _ _ => trivial) hp, qm_Mo_gathered t_thrown t_keys t_key t_sum t_least t_greatest t_count x1 x2 x3 _ rfl hp⟩
set_option maxRecDepth 100000 in
theorem pm_Mo_many (t_thrown : Int32) (t_keys : Nat → Int32) (t_key : Nat → Int32) (t_bins : Nat → Int32) (t_count : Nat → Int32) (x1 : Int32) (x2 : Int32) (x3 : Int32) {Q Q2 : Int32 → Int32 → Prop} (hQ : ∀ r u, Q r u → Q2 r u) (hp : WP_Mo_many t_thrown t_keys t_key t_bins t_count x1 x2 x3 Q) : WP_Mo_many t_thrown t_keys t_key t_bins t_count x1 x2 x3 Q2 := by
  unfold WP_Mo_many at hp ⊢
  intro r1 e3
  have g1 := hp r1 e3
  refine ⟨fun c5 => ?_, fun c5 => ?_⟩
  · have g2 := g1.1 c5
    intro r7 u8 e9
    have g3 := g2 r7 u8 e9
    refine ⟨fun c11 => ?_, fun c11 => ?_⟩
    · have g4 := g3.1 c11
      refine ⟨g4.1, ?_⟩
      intro r13 e15
      have g5 := g4.2 r13 e15
      refine ⟨fun c17 => ?_, fun c17 => ?_⟩
      · have g6 := g5.1 c17
        refine ⟨fun c20 => ?_, fun c20 => ?_⟩
        · have g7 := g6.1 c20
          refine ⟨g7.1, ?_⟩
          have g8 := g7.2
          exact hQ _ _ g8
        · have g7 := g6.2 c20
          refine ⟨g7.1, ?_⟩
          have g9 := g7.2
          exact hQ _ _ g9
      · have g6 := g5.2 c17
        exact hQ _ _ g6
    · have g4 := g3.2 c11
      exact hQ _ _ g4
  · have g2 := g1.2 c5
    intro r25 e27
    have g10 := g2 r25 e27
    refine ⟨fun c29 => ?_, fun c29 => ?_⟩
    · have g11 := g10.1 c29
      intro r31 u32 e33
      have g12 := g11 r31 u32 e33
      refine ⟨fun c35 => ?_, fun c35 => ?_⟩
      · have g13 := g12.1 c35
        refine ⟨g13.1, ?_⟩
        intro r37 e39
        have g14 := g13.2 r37 e39
        refine ⟨fun c41 => ?_, fun c41 => ?_⟩
        · have g15 := g14.1 c41
          refine ⟨fun c44 => ?_, fun c44 => ?_⟩
          · have g16 := g15.1 c44
            refine ⟨g16.1, ?_⟩
            have g17 := g16.2
            exact hQ _ _ g17
          · have g16 := g15.2 c44
            refine ⟨g16.1, ?_⟩
            have g18 := g16.2
            exact hQ _ _ g18
        · have g15 := g14.2 c41
          exact hQ _ _ g15
      · have g13 := g12.2 c35
        exact hQ _ _ g13
    · have g11 := g10.2 c29
      intro r49 u50 e51
      have g19 := g11 r49 u50 e51
      refine ⟨fun c53 => ?_, fun c53 => ?_⟩
      · have g20 := g19.1 c53
        refine ⟨g20.1, ?_⟩
        intro r55 e57
        have g21 := g20.2 r55 e57
        refine ⟨fun c59 => ?_, fun c59 => ?_⟩
        · have g22 := g21.1 c59
          refine ⟨fun c62 => ?_, fun c62 => ?_⟩
          · have g23 := g22.1 c62
            refine ⟨g23.1, ?_⟩
            have g24 := g23.2
            exact hQ _ _ g24
          · have g23 := g22.2 c62
            refine ⟨g23.1, ?_⟩
            have g25 := g23.2
            exact hQ _ _ g25
        · have g22 := g21.2 c59
          exact hQ _ _ g22
      · have g20 := g19.2 c53
        exact hQ _ _ g20
set_option maxRecDepth 100000 in
theorem qm_Mo_many (t_thrown : Int32) (t_keys : Nat → Int32) (t_key : Nat → Int32) (t_bins : Nat → Int32) (t_count : Nat → Int32) (x1 : Int32) (x2 : Int32) (x3 : Int32) {Q : Int32 → Int32 → Prop} (tgt : Int32 × Int32) (f0 : s_Mo_many t_thrown t_keys t_key t_bins t_count x1 x2 x3 = tgt) (hp : WP_Mo_many t_thrown t_keys t_key t_bins t_count x1 x2 x3 Q) : Q tgt.1 tgt.2 := by
  unfold WP_Mo_many at hp
  unfold s_Mo_many at f0
  obtain ⟨r1, e3⟩ := zex1 (s_Mo_in x1 (0 : Int32) (2 : Int32))
  have g1 := hp r1 e3
  have f1 := Eq.trans (Eq.symm (zl1_eq e3)) f0
  by_cases c5 : r1 = 0
  · have f2 := Eq.trans (Eq.symm (if_pos c5)) f1
    have g2 := g1.1 c5
    obtain ⟨r7, u8, e9⟩ := zex2 (s_Mo_bad t_thrown (0 : Int32))
    have g3 := g2 r7 u8 e9
    have f3 := Eq.trans (Eq.symm (zl2_eq e9)) f2
    by_cases c11 : r7 = 0
    · have f4 := Eq.trans (Eq.symm (if_pos c11)) f3
      have g4 := g3.1 c11
      obtain ⟨r13, e15⟩ := zex1 (s_Mo_find t_keys t_key x1 x2)
      have g5 := g4.2 r13 e15
      have f5 := Eq.trans (Eq.symm (zl1_eq e15)) f4
      by_cases c17 : 0 ≤ r13
      · have f6 := Eq.trans (Eq.symm (if_pos c17)) f5
        have g6 := g5.1 c17
        by_cases c20 : (8 : Int32) ≤ x3
        · have f7 := Eq.trans (Eq.symm (if_pos c20)) f6
          have g7 := g6.1 c20
          have g8 := g7.2
          subst f7; exact g8
        · have f7 := Eq.trans (Eq.symm (if_neg c20)) f6
          have g7 := g6.2 c20
          have g9 := g7.2
          subst f7; exact g9
      · have f6 := Eq.trans (Eq.symm (if_neg c17)) f5
        have g6 := g5.2 c17
        subst f6; exact g6
    · have f4 := Eq.trans (Eq.symm (if_neg c11)) f3
      have g4 := g3.2 c11
      subst f4; exact g4
  · have f2 := Eq.trans (Eq.symm (if_neg c5)) f1
    have g2 := g1.2 c5
    obtain ⟨r25, e27⟩ := zex1 (s_Mo_in x3 (0 : Int32) (8 : Int32))
    have g10 := g2 r25 e27
    have f10 := Eq.trans (Eq.symm (zl1_eq e27)) f2
    by_cases c29 : r25 = 0
    · have f11 := Eq.trans (Eq.symm (if_pos c29)) f10
      have g11 := g10.1 c29
      obtain ⟨r31, u32, e33⟩ := zex2 (s_Mo_bad t_thrown (0 : Int32))
      have g12 := g11 r31 u32 e33
      have f12 := Eq.trans (Eq.symm (zl2_eq e33)) f11
      by_cases c35 : r31 = 0
      · have f13 := Eq.trans (Eq.symm (if_pos c35)) f12
        have g13 := g12.1 c35
        obtain ⟨r37, e39⟩ := zex1 (s_Mo_find t_keys t_key x1 x2)
        have g14 := g13.2 r37 e39
        have f14 := Eq.trans (Eq.symm (zl1_eq e39)) f13
        by_cases c41 : 0 ≤ r37
        · have f15 := Eq.trans (Eq.symm (if_pos c41)) f14
          have g15 := g14.1 c41
          by_cases c44 : (8 : Int32) ≤ x3
          · have f16 := Eq.trans (Eq.symm (if_pos c44)) f15
            have g16 := g15.1 c44
            have g17 := g16.2
            subst f16; exact g17
          · have f16 := Eq.trans (Eq.symm (if_neg c44)) f15
            have g16 := g15.2 c44
            have g18 := g16.2
            subst f16; exact g18
        · have f15 := Eq.trans (Eq.symm (if_neg c41)) f14
          have g15 := g14.2 c41
          subst f15; exact g15
      · have f13 := Eq.trans (Eq.symm (if_neg c35)) f12
        have g13 := g12.2 c35
        subst f13; exact g13
    · have f11 := Eq.trans (Eq.symm (if_neg c29)) f10
      have g11 := g10.2 c29
      obtain ⟨r49, u50, e51⟩ := zex2 (s_Mo_bad t_thrown (1 : Int32))
      have g19 := g11 r49 u50 e51
      have f19 := Eq.trans (Eq.symm (zl2_eq e51)) f11
      by_cases c53 : r49 = 0
      · have f20 := Eq.trans (Eq.symm (if_pos c53)) f19
        have g20 := g19.1 c53
        obtain ⟨r55, e57⟩ := zex1 (s_Mo_find t_keys t_key x1 x2)
        have g21 := g20.2 r55 e57
        have f21 := Eq.trans (Eq.symm (zl1_eq e57)) f20
        by_cases c59 : 0 ≤ r55
        · have f22 := Eq.trans (Eq.symm (if_pos c59)) f21
          have g22 := g21.1 c59
          by_cases c62 : (8 : Int32) ≤ x3
          · have f23 := Eq.trans (Eq.symm (if_pos c62)) f22
            have g23 := g22.1 c62
            have g24 := g23.2
            subst f23; exact g24
          · have f23 := Eq.trans (Eq.symm (if_neg c62)) f22
            have g23 := g22.2 c62
            have g25 := g23.2
            subst f23; exact g25
        · have f22 := Eq.trans (Eq.symm (if_neg c59)) f21
          have g22 := g21.2 c59
          subst f22; exact g22
      · have f20 := Eq.trans (Eq.symm (if_neg c53)) f19
        have g20 := g19.2 c53
        subst f20; exact g20
theorem e_Mo_many (t_thrown : Int32) (t_keys : Nat → Int32) (t_key : Nat → Int32) (t_bins : Nat → Int32) (t_count : Nat → Int32) (x1 : Int32) (x2 : Int32) (x3 : Int32) {Q : Int32 → Int32 → Prop} (hp : WP_Mo_many t_thrown t_keys t_key t_bins t_count x1 x2 x3 Q) : p_Mo_many t_thrown t_keys t_key t_bins t_count x1 x2 x3 ∧ Q (s_Mo_many t_thrown t_keys t_key t_bins t_count x1 x2 x3).1 (s_Mo_many t_thrown t_keys t_key t_bins t_count x1 x2 x3).2 := ⟨pm_Mo_many t_thrown t_keys t_key t_bins t_count x1 x2 x3 (fun _ _ _ => trivial) hp, qm_Mo_many t_thrown t_keys t_key t_bins t_count x1 x2 x3 _ rfl hp⟩
set_option maxRecDepth 100000 in
theorem pm_Mo_record_L44 {Q Q2 : UInt64 → (Int32 × Int32 × (Nat → UInt64)) → Prop} (hQ : ∀ r u, Q r u → Q2 r u) : ∀ (n : Nat) (y1 : UInt64) (y3 : Int32) (t_recorded : Int32) (t_thrown : Int32) (t_records : Nat → UInt64), WP_Mo_record_L44 n y1 y3 t_recorded t_thrown t_records Q → WP_Mo_record_L44 n y1 y3 t_recorded t_thrown t_records Q2 := by
  intro n
  induction n with
  | zero => intros; contradiction
  | succ n ih =>
    intro y1 y3 t_recorded t_thrown t_records hp
    unfold WP_Mo_record_L44 at hp ⊢
    refine ⟨fun c5 => ?_, fun c5 => ?_⟩
    · have g1 := hp.1 c5
      exact hQ _ _ g1
    · have g1 := hp.2 c5
      refine ⟨g1.1, ?_⟩
      have g2 := g1.2
      refine ⟨g2.1, ?_⟩
      have g3 := g2.2
      exact ih _ _ _ _ _ g3
set_option maxRecDepth 100000 in
theorem qm_Mo_record_L44 {Q : UInt64 → (Int32 × Int32 × (Nat → UInt64)) → Prop} : ∀ (n : Nat) (y1 : UInt64) (y3 : Int32) (t_recorded : Int32) (t_thrown : Int32) (t_records : Nat → UInt64) (tgt : UInt64 × Int32 × Int32 × (Nat → UInt64)), s_Mo_record_L44 n y1 y3 t_recorded t_thrown t_records = tgt → WP_Mo_record_L44 n y1 y3 t_recorded t_thrown t_records Q → Q tgt.1 tgt.2 := by
  intro n
  induction n with
  | zero => intros; contradiction
  | succ n ih =>
    intro y1 y3 t_recorded t_thrown t_records tgt f0 hp
    unfold WP_Mo_record_L44 at hp
    unfold s_Mo_record_L44 at f0
    by_cases c5 : t_recorded ≤ y3
    · have f1 := Eq.trans (Eq.symm (if_pos c5)) f0
      have g1 := hp.1 c5
      subst f1; exact g1
    · have f1 := Eq.trans (Eq.symm (if_neg c5)) f0
      have g1 := hp.2 c5
      have g2 := g1.2
      have g3 := g2.2
      exact ih _ _ _ _ _ _ f1 g3
set_option maxRecDepth 100000 in
theorem pm_Mo_record (t_recorded : Int32) (t_thrown : Int32) (t_records : Nat → UInt64) {Q Q2 : UInt64 → (Int32 × Int32 × (Nat → UInt64)) → Prop} (hQ : ∀ r u, Q r u → Q2 r u) (hp : WP_Mo_record t_recorded t_thrown t_records Q) : WP_Mo_record t_recorded t_thrown t_records Q2 := by
  unfold WP_Mo_record at hp ⊢
  refine ⟨fun c1 => ?_, fun c1 => ?_⟩
  · have g1 := hp.1 c1
    exact pm_Mo_record_L44 hQ _ _ _ _ _ _ g1
  · have g1 := hp.2 c1
    exact hQ _ _ g1
set_option maxRecDepth 100000 in
theorem qm_Mo_record (t_recorded : Int32) (t_thrown : Int32) (t_records : Nat → UInt64) {Q : UInt64 → (Int32 × Int32 × (Nat → UInt64)) → Prop} (tgt : UInt64 × Int32 × Int32 × (Nat → UInt64)) (f0 : s_Mo_record t_recorded t_thrown t_records = tgt) (hp : WP_Mo_record t_recorded t_thrown t_records Q) : Q tgt.1 tgt.2 := by
  unfold WP_Mo_record at hp
  unfold s_Mo_record at f0
  by_cases c1 : t_recorded = 0
  · have f1 := Eq.trans (Eq.symm (if_pos c1)) f0
    have g1 := hp.2 c1
    subst f1; exact g1
  · have f1 := Eq.trans (Eq.symm (if_neg c1)) f0
    have g1 := hp.1 c1
    exact qm_Mo_record_L44 _ _ _ _ _ _ _ f1 g1
theorem e_Mo_record (t_recorded : Int32) (t_thrown : Int32) (t_records : Nat → UInt64) {Q : UInt64 → (Int32 × Int32 × (Nat → UInt64)) → Prop} (hp : WP_Mo_record t_recorded t_thrown t_records Q) : p_Mo_record t_recorded t_thrown t_records ∧ Q (s_Mo_record t_recorded t_thrown t_records).1 (s_Mo_record t_recorded t_thrown t_records).2 := ⟨pm_Mo_record t_recorded t_thrown t_records (fun _ _ _ => trivial) hp, qm_Mo_record t_recorded t_thrown t_records _ rfl hp⟩
set_option maxRecDepth 100000 in
theorem pm_Mo_count_L9 {Q Q2 : Int32 → Int32 → Prop} (hQ : ∀ r u, Q r u → Q2 r u) : ∀ (n : Nat) (y1 : Int32) (y2 : Int32) (y3 : Int32) (t_size : Int32) (t_place : Int32) (t_recorded : Int32) (t_lost : Int32) (t_dropped : Int32) (t_firings : Int32) (t_thrown : Int32) (t_there : Nat → Int32) (t_failures : Nat → Int32) (t_met : Nat → Int32) (t_keys : Nat → Int32) (t_on : Nat → Int32), WP_Mo_count_L9 n y1 y2 y3 t_size t_place t_recorded t_lost t_dropped t_firings t_thrown t_there t_failures t_met t_keys t_on Q → WP_Mo_count_L9 n y1 y2 y3 t_size t_place t_recorded t_lost t_dropped t_firings t_thrown t_there t_failures t_met t_keys t_on Q2 := by
  intro n
  induction n with
  | zero => intros; contradiction
  | succ n ih =>
    intro y1 y2 y3 t_size t_place t_recorded t_lost t_dropped t_firings t_thrown t_there t_failures t_met t_keys t_on hp
    unfold WP_Mo_count_L9 at hp ⊢
    refine ⟨fun c1 => ?_, fun c1 => ?_⟩
    · have g1 := hp.1 c1
      intro r3 e5
      have g2 := g1 r3 e5
      refine ⟨fun c7 => ?_, fun c7 => ?_⟩
      · have g3 := g2.1 c7
        intro r9 e11
        have g4 := g3 r9 e11
        refine ⟨fun c13 => ?_, fun c13 => ?_⟩
        · have g5 := g4.1 c13
          refine ⟨fun c15_0 => ?_, fun c15_0 => ?_⟩
          · have g6 := g5.1 c15_0
            exact hQ _ _ g6
          · have g6 := g5.2 c15_0
            refine ⟨fun c15_1 => ?_, fun c15_1 => ?_⟩
            · have g7 := g6.1 c15_1
              exact hQ _ _ g7
            · have g7 := g6.2 c15_1
              refine ⟨fun c15_2 => ?_, fun c15_2 => ?_⟩
              · have g8 := g7.1 c15_2
                exact hQ _ _ g8
              · have g8 := g7.2 c15_2
                refine ⟨fun c15_3 => ?_, fun c15_3 => ?_⟩
                · have g9 := g8.1 c15_3
                  refine ⟨g9.1, ?_⟩
                  intro r23 e25
                  have g10 := g9.2 r23 e25
                  exact hQ _ _ g10
                · have g9 := g8.2 c15_3
                  refine ⟨fun c15_4 => ?_, fun c15_4 => ?_⟩
                  · have g11 := g9.1 c15_4
                    exact hQ _ _ g11
                  · have g11 := g9.2 c15_4
                    refine ⟨fun c15_5 => ?_, fun c15_5 => ?_⟩
                    · have g12 := g11.1 c15_5
                      exact hQ _ _ g12
                    · have g12 := g11.2 c15_5
                      refine ⟨fun c15_6 => ?_, fun c15_6 => ?_⟩
                      · have g13 := g12.1 c15_6
                        exact hQ _ _ g13
                      · have g13 := g12.2 c15_6
                        refine ⟨fun c15_7 => ?_, fun c15_7 => ?_⟩
                        · have g14 := g13.1 c15_7
                          exact hQ _ _ g14
                        · have g14 := g13.2 c15_7
                          refine ⟨fun c15_8 => ?_, fun c15_8 => ?_⟩
                          · have g15 := g14.1 c15_8
                            refine ⟨g15.1, ?_⟩
                            have g16 := g15.2
                            exact hQ _ _ g16
                          · have g15 := g14.2 c15_8
                            refine ⟨fun c15_9 => ?_, fun c15_9 => ?_⟩
                            · have g17 := g15.1 c15_9
                              refine ⟨g17.1, ?_⟩
                              have g18 := g17.2
                              exact hQ _ _ g18
                            · have g17 := g15.2 c15_9
                              refine ⟨fun c15_10 => ?_, fun c15_10 => ?_⟩
                              · have g19 := g17.1 c15_10
                                refine ⟨g19.1, ?_⟩
                                have g20 := g19.2
                                exact hQ _ _ g20
                              · have g19 := g17.2 c15_10
                                exact hQ _ _ g19
        · have g5 := g4.2 c13
          refine ⟨g5.1, ?_⟩
          have g21 := g5.2
          refine ⟨fun c46 => ?_, fun c46 => ?_⟩
          · have g22 := g21.1 c46
            exact hQ _ _ g22
          · have g22 := g21.2 c46
            refine ⟨g22.1, ?_⟩
            have g23 := g22.2
            exact hQ _ _ g23
      · have g3 := g2.2 c7
        refine ⟨g3.1, ?_⟩
        have g24 := g3.2
        refine ⟨fun c50 => ?_, fun c50 => ?_⟩
        · have g25 := g24.1 c50
          exact hQ _ _ g25
        · have g25 := g24.2 c50
          refine ⟨g25.1, ?_⟩
          have g26 := g25.2
          exact hQ _ _ g26
    · have g1 := hp.2 c1
      refine ⟨g1.1, ?_⟩
      have g27 := g1.2
      refine ⟨fun c54 => ?_, fun c54 => ?_⟩
      · have g28 := g27.1 c54
        exact ih _ _ _ _ _ _ _ _ _ _ _ _ _ _ _ g28
      · have g28 := g27.2 c54
        exact ih _ _ _ _ _ _ _ _ _ _ _ _ _ _ _ g28
set_option maxRecDepth 100000 in
theorem qm_Mo_count_L9 {Q : Int32 → Int32 → Prop} : ∀ (n : Nat) (y1 : Int32) (y2 : Int32) (y3 : Int32) (t_size : Int32) (t_place : Int32) (t_recorded : Int32) (t_lost : Int32) (t_dropped : Int32) (t_firings : Int32) (t_thrown : Int32) (t_there : Nat → Int32) (t_failures : Nat → Int32) (t_met : Nat → Int32) (t_keys : Nat → Int32) (t_on : Nat → Int32) (tgt : Int32 × Int32), s_Mo_count_L9 n y1 y2 y3 t_size t_place t_recorded t_lost t_dropped t_firings t_thrown t_there t_failures t_met t_keys t_on = tgt → WP_Mo_count_L9 n y1 y2 y3 t_size t_place t_recorded t_lost t_dropped t_firings t_thrown t_there t_failures t_met t_keys t_on Q → Q tgt.1 tgt.2 := by
  intro n
  induction n with
  | zero => intros; contradiction
  | succ n ih =>
    intro y1 y2 y3 t_size t_place t_recorded t_lost t_dropped t_firings t_thrown t_there t_failures t_met t_keys t_on tgt f0 hp
    unfold WP_Mo_count_L9 at hp
    unfold s_Mo_count_L9 at f0
    by_cases c1 : (6 : Int32) ≤ y3
    · have f1 := Eq.trans (Eq.symm (if_pos c1)) f0
      have g1 := hp.1 c1
      obtain ⟨r3, e5⟩ := zex1 (s_Mo_in y1 (20 : Int32) (25 : Int32))
      have g2 := g1 r3 e5
      have f2 := Eq.trans (Eq.symm (zl1_eq e5)) f1
      by_cases c7 : r3 = 0
      · have f3 := Eq.trans (Eq.symm (if_pos c7)) f2
        have g3 := g2.1 c7
        obtain ⟨r9, e11⟩ := zex1 (s_Mo_in y1 (30 : Int32) (35 : Int32))
        have g4 := g3 r9 e11
        have f4 := Eq.trans (Eq.symm (zl1_eq e11)) f3
        by_cases c13 : r9 = 0
        · have f5 := Eq.trans (Eq.symm (if_pos c13)) f4
          have g5 := g4.1 c13
          by_cases c15_0 : y1 = (0 : Int32)
          · have f6 := Eq.trans (Eq.symm (if_pos c15_0)) f5
            have g6 := g5.1 c15_0
            subst f6; exact g6
          · have f6 := Eq.trans (Eq.symm (if_neg c15_0)) f5
            have g6 := g5.2 c15_0
            by_cases c15_1 : y1 = (1 : Int32)
            · have f7 := Eq.trans (Eq.symm (if_pos c15_1)) f6
              have g7 := g6.1 c15_1
              subst f7; exact g7
            · have f7 := Eq.trans (Eq.symm (if_neg c15_1)) f6
              have g7 := g6.2 c15_1
              by_cases c15_2 : y1 = (2 : Int32)
              · have f8 := Eq.trans (Eq.symm (if_pos c15_2)) f7
                have g8 := g7.1 c15_2
                subst f8; exact g8
              · have f8 := Eq.trans (Eq.symm (if_neg c15_2)) f7
                have g8 := g7.2 c15_2
                by_cases c15_3 : y1 = (3 : Int32)
                · have f9 := Eq.trans (Eq.symm (if_pos c15_3)) f8
                  have g9 := g8.1 c15_3
                  obtain ⟨r23, e25⟩ := zex1 (s_Mo_rulesOn t_there t_on)
                  have g10 := g9.2 r23 e25
                  have f10 := Eq.trans (Eq.symm (zl1_eq e25)) f9
                  subst f10; exact g10
                · have f9 := Eq.trans (Eq.symm (if_neg c15_3)) f8
                  have g9 := g8.2 c15_3
                  by_cases c15_4 : y1 = (4 : Int32)
                  · have f11 := Eq.trans (Eq.symm (if_pos c15_4)) f9
                    have g11 := g9.1 c15_4
                    subst f11; exact g11
                  · have f11 := Eq.trans (Eq.symm (if_neg c15_4)) f9
                    have g11 := g9.2 c15_4
                    by_cases c15_5 : y1 = (5 : Int32)
                    · have f12 := Eq.trans (Eq.symm (if_pos c15_5)) f11
                      have g12 := g11.1 c15_5
                      subst f12; exact g12
                    · have f12 := Eq.trans (Eq.symm (if_neg c15_5)) f11
                      have g12 := g11.2 c15_5
                      by_cases c15_6 : y1 = (6 : Int32)
                      · have f13 := Eq.trans (Eq.symm (if_pos c15_6)) f12
                        have g13 := g12.1 c15_6
                        subst f13; exact g13
                      · have f13 := Eq.trans (Eq.symm (if_neg c15_6)) f12
                        have g13 := g12.2 c15_6
                        by_cases c15_7 : y1 = (7 : Int32)
                        · have f14 := Eq.trans (Eq.symm (if_pos c15_7)) f13
                          have g14 := g13.1 c15_7
                          subst f14; exact g14
                        · have f14 := Eq.trans (Eq.symm (if_neg c15_7)) f13
                          have g14 := g13.2 c15_7
                          by_cases c15_8 : y1 = (8 : Int32)
                          · have f15 := Eq.trans (Eq.symm (if_pos c15_8)) f14
                            have g15 := g14.1 c15_8
                            have g16 := g15.2
                            subst f15; exact g16
                          · have f15 := Eq.trans (Eq.symm (if_neg c15_8)) f14
                            have g15 := g14.2 c15_8
                            by_cases c15_9 : y1 = (9 : Int32)
                            · have f17 := Eq.trans (Eq.symm (if_pos c15_9)) f15
                              have g17 := g15.1 c15_9
                              have g18 := g17.2
                              subst f17; exact g18
                            · have f17 := Eq.trans (Eq.symm (if_neg c15_9)) f15
                              have g17 := g15.2 c15_9
                              by_cases c15_10 : y1 = (10 : Int32)
                              · have f19 := Eq.trans (Eq.symm (if_pos c15_10)) f17
                                have g19 := g17.1 c15_10
                                have g20 := g19.2
                                subst f19; exact g20
                              · have f19 := Eq.trans (Eq.symm (if_neg c15_10)) f17
                                have g19 := g17.2 c15_10
                                subst f19; exact g19
        · have f5 := Eq.trans (Eq.symm (if_neg c13)) f4
          have g5 := g4.2 c13
          have g21 := g5.2
          by_cases c46 : (t_there (y1 - (30 : Int32)).toNatClampNeg) = 0
          · have f22 := Eq.trans (Eq.symm (if_pos c46)) f5
            have g22 := g21.1 c46
            subst f22; exact g22
          · have f22 := Eq.trans (Eq.symm (if_neg c46)) f5
            have g22 := g21.2 c46
            have g23 := g22.2
            subst f22; exact g23
      · have f3 := Eq.trans (Eq.symm (if_neg c7)) f2
        have g3 := g2.2 c7
        have g24 := g3.2
        by_cases c50 : (t_there (y1 - (20 : Int32)).toNatClampNeg) = 0
        · have f25 := Eq.trans (Eq.symm (if_pos c50)) f3
          have g25 := g24.1 c50
          subst f25; exact g25
        · have f25 := Eq.trans (Eq.symm (if_neg c50)) f3
          have g25 := g24.2 c50
          have g26 := g25.2
          subst f25; exact g26
    · have f1 := Eq.trans (Eq.symm (if_neg c1)) f0
      have g1 := hp.2 c1
      have g27 := g1.2
      by_cases c54 : (t_there y3.toNatClampNeg) = 0
      · have f28 := Eq.trans (Eq.symm (if_pos c54)) f1
        have g28 := g27.1 c54
        exact ih _ _ _ _ _ _ _ _ _ _ _ _ _ _ _ _ f28 g28
      · have f28 := Eq.trans (Eq.symm (if_neg c54)) f1
        have g28 := g27.2 c54
        exact ih _ _ _ _ _ _ _ _ _ _ _ _ _ _ _ _ f28 g28
set_option maxRecDepth 100000 in
theorem pm_Mo_count (t_size : Int32) (t_place : Int32) (t_recorded : Int32) (t_lost : Int32) (t_dropped : Int32) (t_firings : Int32) (t_thrown : Int32) (t_there : Nat → Int32) (t_failures : Nat → Int32) (t_met : Nat → Int32) (t_keys : Nat → Int32) (t_on : Nat → Int32) (x1 : Int32) {Q Q2 : Int32 → Int32 → Prop} (hQ : ∀ r u, Q r u → Q2 r u) (hp : WP_Mo_count t_size t_place t_recorded t_lost t_dropped t_firings t_thrown t_there t_failures t_met t_keys t_on x1 Q) : WP_Mo_count t_size t_place t_recorded t_lost t_dropped t_firings t_thrown t_there t_failures t_met t_keys t_on x1 Q2 := by
  unfold WP_Mo_count at hp ⊢
  exact pm_Mo_count_L9 hQ _ _ _ _ _ _ _ _ _ _ _ _ _ _ _ _ hp
set_option maxRecDepth 100000 in
theorem qm_Mo_count (t_size : Int32) (t_place : Int32) (t_recorded : Int32) (t_lost : Int32) (t_dropped : Int32) (t_firings : Int32) (t_thrown : Int32) (t_there : Nat → Int32) (t_failures : Nat → Int32) (t_met : Nat → Int32) (t_keys : Nat → Int32) (t_on : Nat → Int32) (x1 : Int32) {Q : Int32 → Int32 → Prop} (tgt : Int32 × Int32) (f0 : s_Mo_count t_size t_place t_recorded t_lost t_dropped t_firings t_thrown t_there t_failures t_met t_keys t_on x1 = tgt) (hp : WP_Mo_count t_size t_place t_recorded t_lost t_dropped t_firings t_thrown t_there t_failures t_met t_keys t_on x1 Q) : Q tgt.1 tgt.2 := by
  unfold WP_Mo_count at hp
  unfold s_Mo_count at f0
  exact qm_Mo_count_L9 _ _ _ _ _ _ _ _ _ _ _ _ _ _ _ _ _ f0 hp
theorem e_Mo_count (t_size : Int32) (t_place : Int32) (t_recorded : Int32) (t_lost : Int32) (t_dropped : Int32) (t_firings : Int32) (t_thrown : Int32) (t_there : Nat → Int32) (t_failures : Nat → Int32) (t_met : Nat → Int32) (t_keys : Nat → Int32) (t_on : Nat → Int32) (x1 : Int32) {Q : Int32 → Int32 → Prop} (hp : WP_Mo_count t_size t_place t_recorded t_lost t_dropped t_firings t_thrown t_there t_failures t_met t_keys t_on x1 Q) : p_Mo_count t_size t_place t_recorded t_lost t_dropped t_firings t_thrown t_there t_failures t_met t_keys t_on x1 ∧ Q (s_Mo_count t_size t_place t_recorded t_lost t_dropped t_firings t_thrown t_there t_failures t_met t_keys t_on x1).1 (s_Mo_count t_size t_place t_recorded t_lost t_dropped t_firings t_thrown t_there t_failures t_met t_keys t_on x1).2 := ⟨pm_Mo_count t_size t_place t_recorded t_lost t_dropped t_firings t_thrown t_there t_failures t_met t_keys t_on x1 (fun _ _ _ => trivial) hp, qm_Mo_count t_size t_place t_recorded t_lost t_dropped t_firings t_thrown t_there t_failures t_met t_keys t_on x1 _ rfl hp⟩
set_option maxRecDepth 100000 in
theorem pm_Mo_compile_L150 {Q Q2 : Int32 → (Int32 × Int32 × Int32 × Int32 × Int32 × Int32 × Int32 × Int32 × Int32 × (Nat → Int32) × (Nat → Int32) × (Nat → Int32) × (Nat → Int32) × (Nat → Int32) × (Nat → Int32) × (Nat → Int32) × (Nat → Int32) × (Nat → Int32) × (Nat → Int32) × (Nat → Int32) × (Nat → Int32) × (Nat → Int32) × (Nat → Int32) × (Nat → Int32)) → Prop} (hQ : ∀ r u, Q r u → Q2 r u) : ∀ (n : Nat) (y1 : Int32) (y2 : Int32) (y3 : Int32) (y4 : Int32) (t_newSite : Int32) (t_newCondition : Int32) (t_newActions : Int32) (t_size : Int32) (t_place : Int32) (t_pos : Int32) (t_at : Int32) (t_operators : Int32) (t_thrown : Int32) (t_text : Nat → Int32) (t_starts : Nat → Int32) (t_compared : Nat → Int32) (t_code : Nat → Int32) (t_operator : Nat → Int32) (t_kind : Nat → Int32) (t_target : Nat → Int32) (t_first : Nat → Int32) (t_second : Nat → Int32) (t_site : Nat → Int32) (t_condition : Nat → Int32) (t_actions : Nat → Int32) (t_there : Nat → Int32) (t_on : Nat → Int32) (t_failures : Nat → Int32) (t_met : Nat → Int32), WP_Mo_compile_L150 n y1 y2 y3 y4 t_newSite t_newCondition t_newActions t_size t_place t_pos t_at t_operators t_thrown t_text t_starts t_compared t_code t_operator t_kind t_target t_first t_second t_site t_condition t_actions t_there t_on t_failures t_met Q → WP_Mo_compile_L150 n y1 y2 y3 y4 t_newSite t_newCondition t_newActions t_size t_place t_pos t_at t_operators t_thrown t_text t_starts t_compared t_code t_operator t_kind t_target t_first t_second t_site t_condition t_actions t_there t_on t_failures t_met Q2 := by
  intro n
  induction n with
  | zero => intros; contradiction
  | succ n ih =>
    intro y1 y2 y3 y4 t_newSite t_newCondition t_newActions t_size t_place t_pos t_at t_operators t_thrown t_text t_starts t_compared t_code t_operator t_kind t_target t_first t_second t_site t_condition t_actions t_there t_on t_failures t_met hp
    unfold WP_Mo_compile_L150 at hp ⊢
    refine ⟨fun c54 => ?_, fun c54 => ?_⟩
    · have g1 := hp.1 c54
      refine ⟨g1.1, ?_⟩
      have g2 := g1.2
      refine ⟨g2.1, ?_⟩
      have g3 := g2.2
      refine ⟨g3.1, ?_⟩
      have g4 := g3.2
      refine ⟨g4.1, ?_⟩
      have g5 := g4.2
      exact hQ _ _ g5
    · have g1 := hp.2 c54
      refine ⟨g1.1, ?_⟩
      have g6 := g1.2
      refine ⟨g6.1, ?_⟩
      have g7 := g6.2
      refine ⟨g7.1, ?_⟩
      have g8 := g7.2
      refine ⟨g8.1, ?_⟩
      have g9 := g8.2
      refine ⟨g9.1, ?_⟩
      have g10 := g9.2
      refine ⟨g10.1, ?_⟩
      have g11 := g10.2
      refine ⟨g11.1, ?_⟩
      have g12 := g11.2
      refine ⟨g12.1, ?_⟩
      have g13 := g12.2
      exact ih _ _ _ _ _ _ _ _ _ _ _ _ _ _ _ _ _ _ _ _ _ _ _ _ _ _ _ _ _ g13
set_option maxRecDepth 100000 in
theorem qm_Mo_compile_L150 {Q : Int32 → (Int32 × Int32 × Int32 × Int32 × Int32 × Int32 × Int32 × Int32 × Int32 × (Nat → Int32) × (Nat → Int32) × (Nat → Int32) × (Nat → Int32) × (Nat → Int32) × (Nat → Int32) × (Nat → Int32) × (Nat → Int32) × (Nat → Int32) × (Nat → Int32) × (Nat → Int32) × (Nat → Int32) × (Nat → Int32) × (Nat → Int32) × (Nat → Int32)) → Prop} : ∀ (n : Nat) (y1 : Int32) (y2 : Int32) (y3 : Int32) (y4 : Int32) (t_newSite : Int32) (t_newCondition : Int32) (t_newActions : Int32) (t_size : Int32) (t_place : Int32) (t_pos : Int32) (t_at : Int32) (t_operators : Int32) (t_thrown : Int32) (t_text : Nat → Int32) (t_starts : Nat → Int32) (t_compared : Nat → Int32) (t_code : Nat → Int32) (t_operator : Nat → Int32) (t_kind : Nat → Int32) (t_target : Nat → Int32) (t_first : Nat → Int32) (t_second : Nat → Int32) (t_site : Nat → Int32) (t_condition : Nat → Int32) (t_actions : Nat → Int32) (t_there : Nat → Int32) (t_on : Nat → Int32) (t_failures : Nat → Int32) (t_met : Nat → Int32) (tgt : Int32 × Int32 × Int32 × Int32 × Int32 × Int32 × Int32 × Int32 × Int32 × Int32 × (Nat → Int32) × (Nat → Int32) × (Nat → Int32) × (Nat → Int32) × (Nat → Int32) × (Nat → Int32) × (Nat → Int32) × (Nat → Int32) × (Nat → Int32) × (Nat → Int32) × (Nat → Int32) × (Nat → Int32) × (Nat → Int32) × (Nat → Int32) × (Nat → Int32)), s_Mo_compile_L150 n y1 y2 y3 y4 t_newSite t_newCondition t_newActions t_size t_place t_pos t_at t_operators t_thrown t_text t_starts t_compared t_code t_operator t_kind t_target t_first t_second t_site t_condition t_actions t_there t_on t_failures t_met = tgt → WP_Mo_compile_L150 n y1 y2 y3 y4 t_newSite t_newCondition t_newActions t_size t_place t_pos t_at t_operators t_thrown t_text t_starts t_compared t_code t_operator t_kind t_target t_first t_second t_site t_condition t_actions t_there t_on t_failures t_met Q → Q tgt.1 tgt.2 := by
  intro n
  induction n with
  | zero => intros; contradiction
  | succ n ih =>
    intro y1 y2 y3 y4 t_newSite t_newCondition t_newActions t_size t_place t_pos t_at t_operators t_thrown t_text t_starts t_compared t_code t_operator t_kind t_target t_first t_second t_site t_condition t_actions t_there t_on t_failures t_met tgt f0 hp
    unfold WP_Mo_compile_L150 at hp
    unfold s_Mo_compile_L150 at f0
    by_cases c54 : t_newActions ≤ y4
    · have f1 := Eq.trans (Eq.symm (if_pos c54)) f0
      have g1 := hp.1 c54
      have g2 := g1.2
      have g3 := g2.2
      have g4 := g3.2
      have g5 := g4.2
      subst f1; exact g5
    · have f1 := Eq.trans (Eq.symm (if_neg c54)) f0
      have g1 := hp.2 c54
      have g6 := g1.2
      have g7 := g6.2
      have g8 := g7.2
      have g9 := g8.2
      have g10 := g9.2
      have g11 := g10.2
      have g12 := g11.2
      have g13 := g12.2
      exact ih _ _ _ _ _ _ _ _ _ _ _ _ _ _ _ _ _ _ _ _ _ _ _ _ _ _ _ _ _ _ f1 g13
set_option maxRecDepth 100000 in
theorem pm_Mo_compile_L73 {Q Q2 : Int32 → (Int32 × Int32 × Int32 × Int32 × Int32 × Int32 × Int32 × Int32 × Int32 × (Nat → Int32) × (Nat → Int32) × (Nat → Int32) × (Nat → Int32) × (Nat → Int32) × (Nat → Int32) × (Nat → Int32) × (Nat → Int32) × (Nat → Int32) × (Nat → Int32) × (Nat → Int32) × (Nat → Int32) × (Nat → Int32) × (Nat → Int32) × (Nat → Int32)) → Prop} (hQ : ∀ r u, Q r u → Q2 r u) : ∀ (n : Nat) (y1 : Int32) (y2 : Int32) (y3 : Int32) (y4 : Int32) (t_newSite : Int32) (t_newCondition : Int32) (t_newActions : Int32) (t_size : Int32) (t_place : Int32) (t_pos : Int32) (t_at : Int32) (t_operators : Int32) (t_thrown : Int32) (t_text : Nat → Int32) (t_starts : Nat → Int32) (t_compared : Nat → Int32) (t_code : Nat → Int32) (t_operator : Nat → Int32) (t_kind : Nat → Int32) (t_target : Nat → Int32) (t_first : Nat → Int32) (t_second : Nat → Int32) (t_site : Nat → Int32) (t_condition : Nat → Int32) (t_actions : Nat → Int32) (t_there : Nat → Int32) (t_on : Nat → Int32) (t_failures : Nat → Int32) (t_met : Nat → Int32), WP_Mo_compile_L73 n y1 y2 y3 y4 t_newSite t_newCondition t_newActions t_size t_place t_pos t_at t_operators t_thrown t_text t_starts t_compared t_code t_operator t_kind t_target t_first t_second t_site t_condition t_actions t_there t_on t_failures t_met Q → WP_Mo_compile_L73 n y1 y2 y3 y4 t_newSite t_newCondition t_newActions t_size t_place t_pos t_at t_operators t_thrown t_text t_starts t_compared t_code t_operator t_kind t_target t_first t_second t_site t_condition t_actions t_there t_on t_failures t_met Q2 := by
  intro n
  induction n with
  | zero => intros; contradiction
  | succ n ih =>
    intro y1 y2 y3 y4 t_newSite t_newCondition t_newActions t_size t_place t_pos t_at t_operators t_thrown t_text t_starts t_compared t_code t_operator t_kind t_target t_first t_second t_site t_condition t_actions t_there t_on t_failures t_met hp
    unfold WP_Mo_compile_L73 at hp ⊢
    refine ⟨fun c43 => ?_, fun c43 => ?_⟩
    · have g1 := hp.1 c43
      refine ⟨g1.1, ?_⟩
      have g2 := g1.2
      refine ⟨fun c46 => ?_, fun c46 => ?_⟩
      · have g3 := g2.1 c46
        refine ⟨g3.1, ?_⟩
        have g4 := g3.2
        refine ⟨g4.1, ?_⟩
        have g5 := g4.2
        exact pm_Mo_compile_L150 hQ _ _ _ _ _ _ _ _ _ _ _ _ _ _ _ _ _ _ _ _ _ _ _ _ _ _ _ _ _ _ g5
      · have g3 := g2.2 c46
        refine ⟨g3.1, ?_⟩
        have g6 := g3.2
        refine ⟨g6.1, ?_⟩
        have g7 := g6.2
        exact pm_Mo_compile_L150 hQ _ _ _ _ _ _ _ _ _ _ _ _ _ _ _ _ _ _ _ _ _ _ _ _ _ _ _ _ _ _ g7
    · have g1 := hp.2 c43
      refine ⟨g1.1, ?_⟩
      have g8 := g1.2
      refine ⟨g8.1, ?_⟩
      have g9 := g8.2
      exact ih _ _ _ _ _ _ _ _ _ _ _ _ _ _ _ _ _ _ _ _ _ _ _ _ _ _ _ _ _ g9
set_option maxRecDepth 100000 in
theorem qm_Mo_compile_L73 {Q : Int32 → (Int32 × Int32 × Int32 × Int32 × Int32 × Int32 × Int32 × Int32 × Int32 × (Nat → Int32) × (Nat → Int32) × (Nat → Int32) × (Nat → Int32) × (Nat → Int32) × (Nat → Int32) × (Nat → Int32) × (Nat → Int32) × (Nat → Int32) × (Nat → Int32) × (Nat → Int32) × (Nat → Int32) × (Nat → Int32) × (Nat → Int32) × (Nat → Int32)) → Prop} : ∀ (n : Nat) (y1 : Int32) (y2 : Int32) (y3 : Int32) (y4 : Int32) (t_newSite : Int32) (t_newCondition : Int32) (t_newActions : Int32) (t_size : Int32) (t_place : Int32) (t_pos : Int32) (t_at : Int32) (t_operators : Int32) (t_thrown : Int32) (t_text : Nat → Int32) (t_starts : Nat → Int32) (t_compared : Nat → Int32) (t_code : Nat → Int32) (t_operator : Nat → Int32) (t_kind : Nat → Int32) (t_target : Nat → Int32) (t_first : Nat → Int32) (t_second : Nat → Int32) (t_site : Nat → Int32) (t_condition : Nat → Int32) (t_actions : Nat → Int32) (t_there : Nat → Int32) (t_on : Nat → Int32) (t_failures : Nat → Int32) (t_met : Nat → Int32) (tgt : Int32 × Int32 × Int32 × Int32 × Int32 × Int32 × Int32 × Int32 × Int32 × Int32 × (Nat → Int32) × (Nat → Int32) × (Nat → Int32) × (Nat → Int32) × (Nat → Int32) × (Nat → Int32) × (Nat → Int32) × (Nat → Int32) × (Nat → Int32) × (Nat → Int32) × (Nat → Int32) × (Nat → Int32) × (Nat → Int32) × (Nat → Int32) × (Nat → Int32)), s_Mo_compile_L73 n y1 y2 y3 y4 t_newSite t_newCondition t_newActions t_size t_place t_pos t_at t_operators t_thrown t_text t_starts t_compared t_code t_operator t_kind t_target t_first t_second t_site t_condition t_actions t_there t_on t_failures t_met = tgt → WP_Mo_compile_L73 n y1 y2 y3 y4 t_newSite t_newCondition t_newActions t_size t_place t_pos t_at t_operators t_thrown t_text t_starts t_compared t_code t_operator t_kind t_target t_first t_second t_site t_condition t_actions t_there t_on t_failures t_met Q → Q tgt.1 tgt.2 := by
  intro n
  induction n with
  | zero => intros; contradiction
  | succ n ih =>
    intro y1 y2 y3 y4 t_newSite t_newCondition t_newActions t_size t_place t_pos t_at t_operators t_thrown t_text t_starts t_compared t_code t_operator t_kind t_target t_first t_second t_site t_condition t_actions t_there t_on t_failures t_met tgt f0 hp
    unfold WP_Mo_compile_L73 at hp
    unfold s_Mo_compile_L73 at f0
    by_cases c43 : t_at ≤ y4
    · have f1 := Eq.trans (Eq.symm (if_pos c43)) f0
      have g1 := hp.1 c43
      have g2 := g1.2
      by_cases c46 : 0 ≤ t_newCondition
      · have f3 := Eq.trans (Eq.symm (if_pos c46)) f1
        have g3 := g2.1 c46
        have g4 := g3.2
        have g5 := g4.2
        exact qm_Mo_compile_L150 _ _ _ _ _ _ _ _ _ _ _ _ _ _ _ _ _ _ _ _ _ _ _ _ _ _ _ _ _ _ _ f3 g5
      · have f3 := Eq.trans (Eq.symm (if_neg c46)) f1
        have g3 := g2.2 c46
        have g6 := g3.2
        have g7 := g6.2
        exact qm_Mo_compile_L150 _ _ _ _ _ _ _ _ _ _ _ _ _ _ _ _ _ _ _ _ _ _ _ _ _ _ _ _ _ _ _ f3 g7
    · have f1 := Eq.trans (Eq.symm (if_neg c43)) f0
      have g1 := hp.2 c43
      have g8 := g1.2
      have g9 := g8.2
      exact ih _ _ _ _ _ _ _ _ _ _ _ _ _ _ _ _ _ _ _ _ _ _ _ _ _ _ _ _ _ _ f1 g9
set_option maxRecDepth 100000 in
theorem pm_Mo_compile (t_newSite : Int32) (t_newCondition : Int32) (t_newActions : Int32) (t_size : Int32) (t_place : Int32) (t_pos : Int32) (t_at : Int32) (t_operators : Int32) (t_thrown : Int32) (t_text : Nat → Int32) (t_starts : Nat → Int32) (t_compared : Nat → Int32) (t_code : Nat → Int32) (t_operator : Nat → Int32) (t_kind : Nat → Int32) (t_target : Nat → Int32) (t_first : Nat → Int32) (t_second : Nat → Int32) (t_site : Nat → Int32) (t_condition : Nat → Int32) (t_actions : Nat → Int32) (t_there : Nat → Int32) (t_on : Nat → Int32) (t_failures : Nat → Int32) (t_met : Nat → Int32) (x1 : Int32) {Q Q2 : Int32 → (Int32 × Int32 × Int32 × Int32 × Int32 × Int32 × Int32 × Int32 × Int32 × (Nat → Int32) × (Nat → Int32) × (Nat → Int32) × (Nat → Int32) × (Nat → Int32) × (Nat → Int32) × (Nat → Int32) × (Nat → Int32) × (Nat → Int32) × (Nat → Int32) × (Nat → Int32) × (Nat → Int32) × (Nat → Int32) × (Nat → Int32) × (Nat → Int32)) → Prop} (hQ : ∀ r u, Q r u → Q2 r u) (hp : WP_Mo_compile t_newSite t_newCondition t_newActions t_size t_place t_pos t_at t_operators t_thrown t_text t_starts t_compared t_code t_operator t_kind t_target t_first t_second t_site t_condition t_actions t_there t_on t_failures t_met x1 Q) : WP_Mo_compile t_newSite t_newCondition t_newActions t_size t_place t_pos t_at t_operators t_thrown t_text t_starts t_compared t_code t_operator t_kind t_target t_first t_second t_site t_condition t_actions t_there t_on t_failures t_met x1 Q2 := by
  unfold WP_Mo_compile at hp ⊢
  intro r1 e3
  have g1 := hp r1 e3
  intro r5 u6 e7
  have g2 := g1 r5 u6 e7
  refine ⟨fun c9 => ?_, fun c9 => ?_⟩
  · have g3 := g2.1 c9
    refine ⟨g3.1, ?_⟩
    intro r11 m14 m15 m16 m17 m18 m19 m20 m21 m22 m23 m24 m25 m26 m27 e13
    have g4 := g3.2 r11 m14 m15 m16 m17 m18 m19 m20 m21 m22 m23 m24 m25 m26 m27 e13
    refine ⟨fun c29 => ?_, fun c29 => ?_⟩
    · have g5 := g4.1 c29
      intro r31 u32 e33
      have g6 := g5 r31 u32 e33
      refine ⟨fun c35 => ?_, fun c35 => ?_⟩
      · have g7 := g6.1 c35
        exact pm_Mo_compile_L73 hQ _ _ _ _ _ _ _ _ _ _ _ _ _ _ _ _ _ _ _ _ _ _ _ _ _ _ _ _ _ _ g7
      · have g7 := g6.2 c35
        exact hQ _ _ g7
    · have g5 := g4.2 c29
      intro r37 u38 e39
      have g8 := g5 r37 u38 e39
      refine ⟨fun c41 => ?_, fun c41 => ?_⟩
      · have g9 := g8.1 c41
        exact pm_Mo_compile_L73 hQ _ _ _ _ _ _ _ _ _ _ _ _ _ _ _ _ _ _ _ _ _ _ _ _ _ _ _ _ _ _ g9
      · have g9 := g8.2 c41
        exact hQ _ _ g9
  · have g3 := g2.2 c9
    exact hQ _ _ g3
set_option maxRecDepth 100000 in
theorem qm_Mo_compile (t_newSite : Int32) (t_newCondition : Int32) (t_newActions : Int32) (t_size : Int32) (t_place : Int32) (t_pos : Int32) (t_at : Int32) (t_operators : Int32) (t_thrown : Int32) (t_text : Nat → Int32) (t_starts : Nat → Int32) (t_compared : Nat → Int32) (t_code : Nat → Int32) (t_operator : Nat → Int32) (t_kind : Nat → Int32) (t_target : Nat → Int32) (t_first : Nat → Int32) (t_second : Nat → Int32) (t_site : Nat → Int32) (t_condition : Nat → Int32) (t_actions : Nat → Int32) (t_there : Nat → Int32) (t_on : Nat → Int32) (t_failures : Nat → Int32) (t_met : Nat → Int32) (x1 : Int32) {Q : Int32 → (Int32 × Int32 × Int32 × Int32 × Int32 × Int32 × Int32 × Int32 × Int32 × (Nat → Int32) × (Nat → Int32) × (Nat → Int32) × (Nat → Int32) × (Nat → Int32) × (Nat → Int32) × (Nat → Int32) × (Nat → Int32) × (Nat → Int32) × (Nat → Int32) × (Nat → Int32) × (Nat → Int32) × (Nat → Int32) × (Nat → Int32) × (Nat → Int32)) → Prop} (tgt : Int32 × Int32 × Int32 × Int32 × Int32 × Int32 × Int32 × Int32 × Int32 × Int32 × (Nat → Int32) × (Nat → Int32) × (Nat → Int32) × (Nat → Int32) × (Nat → Int32) × (Nat → Int32) × (Nat → Int32) × (Nat → Int32) × (Nat → Int32) × (Nat → Int32) × (Nat → Int32) × (Nat → Int32) × (Nat → Int32) × (Nat → Int32) × (Nat → Int32)) (f0 : s_Mo_compile t_newSite t_newCondition t_newActions t_size t_place t_pos t_at t_operators t_thrown t_text t_starts t_compared t_code t_operator t_kind t_target t_first t_second t_site t_condition t_actions t_there t_on t_failures t_met x1 = tgt) (hp : WP_Mo_compile t_newSite t_newCondition t_newActions t_size t_place t_pos t_at t_operators t_thrown t_text t_starts t_compared t_code t_operator t_kind t_target t_first t_second t_site t_condition t_actions t_there t_on t_failures t_met x1 Q) : Q tgt.1 tgt.2 := by
  unfold WP_Mo_compile at hp
  unfold s_Mo_compile at f0
  obtain ⟨r1, e3⟩ := zex1 (s_Mo_in x1 (0 : Int32) (5 : Int32))
  have g1 := hp r1 e3
  have f1 := Eq.trans (Eq.symm (zl1_eq e3)) f0
  obtain ⟨r5, u6, e7⟩ := zex2 (s_Mo_bad t_thrown r1)
  have g2 := g1 r5 u6 e7
  have f2 := Eq.trans (Eq.symm (zl2_eq e7)) f1
  by_cases c9 : r5 = 0
  · have f3 := Eq.trans (Eq.symm (if_pos c9)) f2
    have g3 := g2.1 c9
    obtain ⟨r11, m14, m15, m16, m17, m18, m19, m20, m21, m22, m23, m24, m25, m26, m27, e13⟩ := zex15 (s_Mo_rule t_newSite t_newCondition t_newActions t_size (0 : Int32) (1200 : Int32) t_operators t_text t_starts t_compared t_code t_operator t_kind t_target t_first t_second)
    have g4 := g3.2 r11 m14 m15 m16 m17 m18 m19 m20 m21 m22 m23 m24 m25 m26 m27 e13
    have f4 := Eq.trans (Eq.symm (zl2_eq e13)) f3
    have f4 := Eq.trans (Eq.symm (zl2_eq (Eq.refl (m14, m15, m16, m17, m18, m19, m20, m21, m22, m23, m24, m25, m26, m27)))) f4
    have f4 := Eq.trans (Eq.symm (zl2_eq (Eq.refl (m15, m16, m17, m18, m19, m20, m21, m22, m23, m24, m25, m26, m27)))) f4
    have f4 := Eq.trans (Eq.symm (zl2_eq (Eq.refl (m16, m17, m18, m19, m20, m21, m22, m23, m24, m25, m26, m27)))) f4
    have f4 := Eq.trans (Eq.symm (zl2_eq (Eq.refl (m17, m18, m19, m20, m21, m22, m23, m24, m25, m26, m27)))) f4
    have f4 := Eq.trans (Eq.symm (zl2_eq (Eq.refl (m18, m19, m20, m21, m22, m23, m24, m25, m26, m27)))) f4
    have f4 := Eq.trans (Eq.symm (zl2_eq (Eq.refl (m19, m20, m21, m22, m23, m24, m25, m26, m27)))) f4
    have f4 := Eq.trans (Eq.symm (zl2_eq (Eq.refl (m20, m21, m22, m23, m24, m25, m26, m27)))) f4
    have f4 := Eq.trans (Eq.symm (zl2_eq (Eq.refl (m21, m22, m23, m24, m25, m26, m27)))) f4
    have f4 := Eq.trans (Eq.symm (zl2_eq (Eq.refl (m22, m23, m24, m25, m26, m27)))) f4
    have f4 := Eq.trans (Eq.symm (zl2_eq (Eq.refl (m23, m24, m25, m26, m27)))) f4
    have f4 := Eq.trans (Eq.symm (zl2_eq (Eq.refl (m24, m25, m26, m27)))) f4
    have f4 := Eq.trans (Eq.symm (zl2_eq (Eq.refl (m25, m26, m27)))) f4
    have f4 := Eq.trans (Eq.symm (zl2_eq (Eq.refl (m26, m27)))) f4
    by_cases c29 : r11 = 0
    · have f5 := Eq.trans (Eq.symm (if_pos c29)) f4
      have g5 := g4.2 c29
      obtain ⟨r37, u38, e39⟩ := zex2 (s_Mo_bad u6 r11)
      have g6 := g5 r37 u38 e39
      have f6 := Eq.trans (Eq.symm (zl2_eq e39)) f5
      by_cases c41 : r37 = 0
      · have f7 := Eq.trans (Eq.symm (if_pos c41)) f6
        have g7 := g6.1 c41
        exact qm_Mo_compile_L73 _ _ _ _ _ _ _ _ _ _ _ _ _ _ _ _ _ _ _ _ _ _ _ _ _ _ _ _ _ _ _ f7 g7
      · have f7 := Eq.trans (Eq.symm (if_neg c41)) f6
        have g7 := g6.2 c41
        subst f7; exact g7
    · have f5 := Eq.trans (Eq.symm (if_neg c29)) f4
      have g5 := g4.1 c29
      obtain ⟨r31, u32, e33⟩ := zex2 (s_Mo_bad u6 r11)
      have g8 := g5 r31 u32 e33
      have f8 := Eq.trans (Eq.symm (zl2_eq e33)) f5
      by_cases c35 : r31 = 0
      · have f9 := Eq.trans (Eq.symm (if_pos c35)) f8
        have g9 := g8.1 c35
        exact qm_Mo_compile_L73 _ _ _ _ _ _ _ _ _ _ _ _ _ _ _ _ _ _ _ _ _ _ _ _ _ _ _ _ _ _ _ f9 g9
      · have f9 := Eq.trans (Eq.symm (if_neg c35)) f8
        have g9 := g8.2 c35
        subst f9; exact g9
  · have f3 := Eq.trans (Eq.symm (if_neg c9)) f2
    have g3 := g2.2 c9
    subst f3; exact g3
theorem e_Mo_compile (t_newSite : Int32) (t_newCondition : Int32) (t_newActions : Int32) (t_size : Int32) (t_place : Int32) (t_pos : Int32) (t_at : Int32) (t_operators : Int32) (t_thrown : Int32) (t_text : Nat → Int32) (t_starts : Nat → Int32) (t_compared : Nat → Int32) (t_code : Nat → Int32) (t_operator : Nat → Int32) (t_kind : Nat → Int32) (t_target : Nat → Int32) (t_first : Nat → Int32) (t_second : Nat → Int32) (t_site : Nat → Int32) (t_condition : Nat → Int32) (t_actions : Nat → Int32) (t_there : Nat → Int32) (t_on : Nat → Int32) (t_failures : Nat → Int32) (t_met : Nat → Int32) (x1 : Int32) {Q : Int32 → (Int32 × Int32 × Int32 × Int32 × Int32 × Int32 × Int32 × Int32 × Int32 × (Nat → Int32) × (Nat → Int32) × (Nat → Int32) × (Nat → Int32) × (Nat → Int32) × (Nat → Int32) × (Nat → Int32) × (Nat → Int32) × (Nat → Int32) × (Nat → Int32) × (Nat → Int32) × (Nat → Int32) × (Nat → Int32) × (Nat → Int32) × (Nat → Int32)) → Prop} (hp : WP_Mo_compile t_newSite t_newCondition t_newActions t_size t_place t_pos t_at t_operators t_thrown t_text t_starts t_compared t_code t_operator t_kind t_target t_first t_second t_site t_condition t_actions t_there t_on t_failures t_met x1 Q) : p_Mo_compile t_newSite t_newCondition t_newActions t_size t_place t_pos t_at t_operators t_thrown t_text t_starts t_compared t_code t_operator t_kind t_target t_first t_second t_site t_condition t_actions t_there t_on t_failures t_met x1 ∧ Q (s_Mo_compile t_newSite t_newCondition t_newActions t_size t_place t_pos t_at t_operators t_thrown t_text t_starts t_compared t_code t_operator t_kind t_target t_first t_second t_site t_condition t_actions t_there t_on t_failures t_met x1).1 (s_Mo_compile t_newSite t_newCondition t_newActions t_size t_place t_pos t_at t_operators t_thrown t_text t_starts t_compared t_code t_operator t_kind t_target t_first t_second t_site t_condition t_actions t_there t_on t_failures t_met x1).2 := ⟨pm_Mo_compile t_newSite t_newCondition t_newActions t_size t_place t_pos t_at t_operators t_thrown t_text t_starts t_compared t_code t_operator t_kind t_target t_first t_second t_site t_condition t_actions t_there t_on t_failures t_met x1 (fun _ _ _ => trivial) hp, qm_Mo_compile t_newSite t_newCondition t_newActions t_size t_place t_pos t_at t_operators t_thrown t_text t_starts t_compared t_code t_operator t_kind t_target t_first t_second t_site t_condition t_actions t_there t_on t_failures t_met x1 _ rfl hp⟩
