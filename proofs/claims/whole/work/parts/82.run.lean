/-! the class runs tokens -/
theorem zI0 : (0 : Int32) = nI 0 := rfl
/-- the stack, its top first -/
def zst (f : Nat → UInt64) : List UInt64 → Prop
  | [] => True
  | x :: S => f S.length = x ∧ zst f S
theorem zst_upd {f : Nat → UInt64} {x : UInt64} : ∀ {S : List UInt64} {n : Nat}, zst f S → S.length ≤ n → zst (vf_upd f n x) S
  | [], _, _, _ => trivial
  | y :: S, n, h, hn => ⟨by
      have : ¬ S.length = n := by simp at hn; omega
      unfold vf_upd
      rw [if_neg this]; exact h.1, zst_upd h.2 (by simp at hn; omega)⟩
theorem zst_push {f : Nat → UInt64} {x : UInt64} {S : List UInt64} (h : zst f S) : zst (vf_upd f S.length x) (x :: S) := ⟨if_pos rfl, zst_upd h (Nat.le_refl _)⟩
theorem f_push {n : Nat} (h : n < 48) (st : Nat → UInt64) (x : UInt64) : p_Rn_push (nI n) st x ∧ s_Rn_push (nI n) st x = (nI (n + 1), vf_upd st n x) :=
  e_Rn_push (nI n) st x (Q := fun r => r = (nI (n + 1), vf_upd st n x)) (pk_le 48 n (fun q => absurd q (by omega)) (fun _ => ⟨pk_in n 48 h, by rw [nI_clamp (by omega)]; exact congrArg (·, _) (nI_1 n)⟩))
theorem f_pop {n : Nat} (h : n < 48) (st : Nat → UInt64) : p_Rn_pop (nI (n + 1)) st ∧ s_Rn_pop (nI (n + 1)) st = (st n, nI n) :=
  e_Rn_pop (nI (n + 1)) st (Q := fun a b => (a, b) = (st n, nI n)) (pk_lt 0 (n + 1) (fun _ => by
    have e : nI (n + 1) - 1 = nI n := nI_pred n
    rw [e, nI_clamp (by omega)]
    exact ⟨pk_in n 48 h, rfl⟩) (fun q => absurd q (by omega)))
def zbd (v : UInt64) : Option UInt64 := if s_Rn_isOutOfBounds v = 0 then some v else none
/-- an operator's answer, or none where it fails -/
def zrk (c : Nat) (x y : UInt64) : Option UInt64 :=
  if c = 60 then some (if 0 ≤ Op.cmpValue (FP.dcmp x y) .g then FP.dconst0 else FP.dconst1)
  else if c = 62 then some (if Op.cmpValue (FP.dcmp x y) .l ≤ 0 then FP.dconst0 else FP.dconst1)
  else if c = 61 then some (if Op.cmpValue (FP.dcmp x y) .l = 0 then FP.dconst1 else FP.dconst0)
  else if c = 43 then zbd (FP.dadd x y) else if c = 45 then zbd (FP.dsub x y) else if c = 42 then zbd (FP.dmul x y)
  else if Op.cmpValue (FP.dcmp y FP.dconst0) .l = 0 then none else zbd (FP.ddiv x y)
theorem zbd_g {v w : UInt64} (h : vf_n64 v) (q : zbd v = some w) : zg w := by
  unfold zbd at q
  split at q
  · rename_i h0
    cases q
    exact zg_out h h0
  · cases q
theorem zrk_g {c : Nat} {x y v : UInt64} (hx : zg x) (hy : zg y) (h : zrk c x y = some v) : zg v := by
  unfold zrk at h
  split at h
  · cases h; split
    · exact zg_c0
    · exact zg_c1
  split at h
  · cases h; split
    · exact zg_c0
    · exact zg_c1
  split at h
  · cases h; split
    · exact zg_c1
    · exact zg_c0
  split at h
  · exact zbd_g (z64_add hx hy) h
  split at h
  · exact zbd_g (z64_sub hx hy) h
  split at h
  · exact zbd_g (z64_mul (zg_fin hx) (zg_fin hy)) h
  split at h
  · cases h
  · rename_i h0
    exact zbd_g (z64_div hx (zg_fin hy) h0) h
theorem f_pushOutcome {n : Nat} (h : n < 48) (st : Nat → UInt64) (x : UInt64) (ov fl : Int32) : p_Rn_pushOutcome (nI n) ov fl st x ∧ s_Rn_pushOutcome (nI n) ov fl st x = (match zbd x with | some v => (nI (n + 1), ov, fl, vf_upd st n v) | none => (nI n, 1, 1, st)) := by
  refine e_Rn_pushOutcome (nI n) ov fl st x (Q := fun r => r = (match zbd x with | some v => (nI (n + 1), ov, fl, vf_upd st n v) | none => (nI n, 1, 1, st))) ?_
  intro r hr
  refine ⟨fun h0 => ⟨(f_push h st x).1, fun m1 m2 q => ?_⟩, fun h0 => fun m1 m2 q => ?_⟩
  · rw [(f_push h st x).2] at q
    cases q
    rw [← hr] at h0
    simp only [zbd, if_pos h0]
  · rw [← hr] at h0
    simp only [s_Rn_fail] at q
    cases q
    simp only [zbd, if_neg h0]
theorem f_operate {c : Nat} (hc : zOp c) {x y : UInt64} {S : List UInt64} (hx : zg x) (hy : zg y) {st : Nat → UInt64} (hS : zst st (y :: x :: S)) (hl : S.length + 2 ≤ 48) (ov fl : Int32) :
    p_Rn_operate (nI (S.length + 2)) ov fl st (nI c) ∧ s_Rn_operate (nI (S.length + 2)) ov fl st (nI c) = (match zrk c x y with | some v => (nI (S.length + 1), ov, fl, vf_upd st S.length v) | none => (nI S.length, 1, 1, st)) := by
  have h1 : st (S.length + 1) = y := hS.1
  have h2 : st S.length = x := hS.2.1
  have a1 := f_pop (n := S.length + 1) (by omega) st
  have a2 := f_pop (n := S.length) (by omega) st
  rw [h1] at a1
  rw [h2] at a2
  refine e_Rn_operate _ ov fl st (nI c) (Q := fun r => r = (match zrk c x y with | some v => (nI (S.length + 1), ov, fl, vf_upd st S.length v) | none => (nI S.length, 1, 1, st))) ?_
  refine ⟨a1.1, fun r1 u2 q => ?_⟩
  rw [a1.2] at q
  cases q
  refine ⟨a2.1, fun r5 u6 q => ?_⟩
  rw [a2.2] at q
  cases q
  have pu := fun v => f_push (n := S.length) (by omega) st v
  have po := fun v => f_pushOutcome (n := S.length) (by omega) st v ov fl
  rcases hc with rfl | rfl | rfl | rfl | rfl | rfl | rfl
  · simp only [show nI 60 = (60 : Int32) from rfl, zrk]
    simp
    refine ⟨fun h0 => ⟨(pu _).1, fun m1 m2 q => ?_⟩, fun h0 => ⟨(pu _).1, fun m1 m2 q => ?_⟩⟩ <;> rw [(pu _).2] at q <;> cases q
    · simp [h0]
    · simp [Int32.not_le.mpr h0]
  · simp only [show nI 62 = (62 : Int32) from rfl, zrk]
    simp
    refine ⟨fun h0 => ⟨(pu _).1, fun m1 m2 q => ?_⟩, fun h0 => ⟨(pu _).1, fun m1 m2 q => ?_⟩⟩ <;> rw [(pu _).2] at q <;> cases q
    · simp [h0]
    · simp [Int32.not_le.mpr h0]
  · simp only [show nI 61 = (61 : Int32) from rfl, zrk]
    simp
    refine ⟨fun h0 => ⟨(pu _).1, fun m1 m2 q => ?_⟩, fun h0 => ⟨(pu _).1, fun m1 m2 q => ?_⟩⟩ <;> rw [(pu _).2] at q <;> cases q
    · simp [h0]
    · simp [h0]
  · simp only [show nI 43 = (43 : Int32) from rfl, zrk]
    simp
    refine ⟨z64_add hx hy, (po _).1, fun m1 m2 m3 m4 q => ?_⟩
    rw [(po _).2] at q
    exact q.symm
  · simp only [show nI 45 = (45 : Int32) from rfl, zrk]
    simp
    refine ⟨z64_sub hx hy, (po _).1, fun m1 m2 m3 m4 q => ?_⟩
    rw [(po _).2] at q
    exact q.symm
  · simp only [show nI 42 = (42 : Int32) from rfl, zrk]
    simp
    refine ⟨z64_mul (zg_fin hx) (zg_fin hy), (po _).1, fun m1 m2 m3 m4 q => ?_⟩
    rw [(po _).2] at q
    exact q.symm
  · simp only [show nI 58 = (58 : Int32) from rfl, zrk]
    simp
    refine ⟨fun h0 => ⟨z64_div hx (zg_fin hy) h0, (po _).1, fun m1 m2 m3 m4 q => ?_⟩, fun h0 m1 m2 q => ?_⟩
    · rw [(po _).2] at q
      rw [if_neg h0]
      exact q.symm
    · simp only [s_Rn_fail] at q
      cases q
      simp [h0]
/-- one token on a stack -/
def evs (ld : Nat → UInt64) (t : zTok) (S : List UInt64) : Option (List UInt64) :=
  if t.1 = 1 then some (FP.i2d (nI t.2) :: S) else if t.1 = 2 then some (ld t.2 :: S) else
  match S with
  | [] => none
  | y :: S => if t.1 = 4 then some (FP.dneg y :: S) else
    match S with
    | [] => none
    | x :: S => (zrk t.2 x y).map (· :: S)
def ev (ld : Nat → UInt64) : List zTok → List UInt64 → Option (List UInt64)
  | [], S => some S
  | t :: T, S => (evs ld t S).bind (ev ld T)
/-- what a name means -/
def zEn (ld : Nat → UInt64) (tm : Int32) (th : Nat) (ha hb hc : UInt64) (va : Nat → UInt64) : Prop :=
  ld 97 = ha ∧ ld 98 = hb ∧ ld 99 = hc ∧ ld 116 = FP.i2d tm ∧ ld 107 = FP.i2d (nI th) ∧ (∀ j, j < 3 → ld (117 + j) = va j) ∧ ∀ j, j < 3 → ld (120 + j) = va (3 + (3 * th + j))
def zLg (ld : Nat → UInt64) : Prop := ∀ c, zNm c → zg (ld c)
theorem f_get {th k : Nat} (ht : th < 4) (hk : k < 6) (va : Nat → UInt64) : p_Rn_get va (nI k) (nI th) ∧ s_Rn_get va (nI k) (nI th) = va (if k < 3 then k else k + 3 * th) := by
  have e : s_Rn_slotOf (nI k) (nI th) = nI (if k < 3 then k else k + 3 * th) := by
    refine e_Rn_slotOf (nI k) (nI th) (Q := fun r _ => r = nI (if k < 3 then k else k + 3 * th)) (pk_le 3 k (fun q => ?_) (fun q => ?_))
    · rw [if_neg (by omega), show (3 : Int32) = nI 3 from rfl, pk_mul, nI_add, Nat.mul_comm]
    · rw [if_pos q]
  have hlt : (if k < 3 then k else k + 3 * th) < 15 := by split <;> omega
  have hw : s_Tr_isWithin (nI (if k < 3 then k else k + 3 * th)) 15 = 1 := by
    unfold s_Tr_isWithin
    rw [if_neg (nI_pos (by omega))]
    exact if_neg (nI_ge hlt (by omega))
  refine e_Rn_get va (nI k) (nI th) (Q := fun r _ => r = va (if k < 3 then k else k + 3 * th)) ?_
  intro r1 h1 r5 h5
  rw [e] at h1
  subst h1
  rw [hw] at h5
  subst h5
  exact ⟨fun q => absurd q (by decide), fun _ => ⟨pk_in _ 15 hlt, by rw [nI_clamp (by omega)]⟩⟩
theorem f_set {th k : Nat} (ht : th < 4) (hk : k < 6) (va : Nat → UInt64) (x : UInt64) : p_Rn_set (nI th) va (nI k) x ∧ s_Rn_set (nI th) va (nI k) x = vf_upd va (if k < 3 then k else k + 3 * th) x := by
  have e : s_Rn_slotOf (nI k) (nI th) = nI (if k < 3 then k else k + 3 * th) := by
    refine e_Rn_slotOf (nI k) (nI th) (Q := fun r _ => r = nI (if k < 3 then k else k + 3 * th)) (pk_le 3 k (fun q => ?_) (fun q => ?_))
    · rw [if_neg (by omega), show (3 : Int32) = nI 3 from rfl, pk_mul, nI_add, Nat.mul_comm]
    · rw [if_pos q]
  have hlt : (if k < 3 then k else k + 3 * th) < 15 := by split <;> omega
  have hw : s_Tr_isWithin (nI (if k < 3 then k else k + 3 * th)) 15 = 1 := by
    unfold s_Tr_isWithin
    rw [if_neg (nI_pos (by omega))]
    exact if_neg (nI_ge hlt (by omega))
  refine e_Rn_set (nI th) va (nI k) x (Q := fun r => r = vf_upd va (if k < 3 then k else k + 3 * th) x) ?_
  intro r1 h1 r5 h5
  rw [e] at h1
  subst h1
  rw [hw] at h5
  subst h5
  refine ⟨fun q => absurd q (by decide), fun _ => ⟨pk_in _ 15 hlt, ?_⟩⟩
  rw [nI_clamp (by omega)]
