/-! THE CLAIM OUT OF ONE WALK OF THE LAW'S BODY. Your part is whole_start (and what it stands on); all else here is the same for every law, but numbers. -/
def R_law : String := "RuleTracerLaw"
def lw_P (b : Addr) (xs : List Int32) (args : Array Value) (s : State) : Prop := args = #[.ref b] ∧ s.IntsAt b xs ∧ xs.length ≤ 3584 ∧ (Jvm.Cond.and given_1 narrow_1).before args s = true
def lw_Q (_ : Array Value) (s : State) (o : Outcome) (t : State) : Prop := o = .returned (some (.int 1)) ∧ Framed s o t [] 601024 7293034
def lw_Z (below : List Frame) (a : Array Value) (s : State) : State → Prop := fun t => ∃ o, t.status = .running ∧ Ended t below o ∧ lw_Q a s o t
/-- the law's own end, with 1 on the stack, nothing written that was there before, its room as the claim has it -/
theorem lw_ret {p : Program} {l : Launch} {e : Env} {s : State} {m : MethodId} {below : List Frame} {meth : Method} {c : Code} {b : Nat} (hx : p.tables.exec = Jvm.exec) (hb : c.code = code) (hr : meth.sig.returnType = ret) (hlocks : meth.locks = false) {pc : Nat} {H : Heap} {ls : Array Slot} (hdg : decode code pc = .ok (.ireturn, 1)) : W p l e room_1 s m #[Value.ref b] below meth c H [] 601024 7293034 (lw_Z below #[Value.ref b] s) (F0 m pc ls [.int 1]) := by
  intro T hT X
  obtain ⟨fs, hret, hrun, hended, hW, hframe⟩ := X.leave (v := some (.int 1)) (hlocks := hlocks) (fun h => by rw [hr] at h; cases h)
  have hmeth' : T.vm.method? m = some meth := X.method'
  refine ⟨T.setFrames fs, ?_, .returned (some (.int 1)), hrun, hended, rfl, ⟨_, rfl⟩, hW, hframe⟩
  jvm_step X.here [X.here.top, hx, hb, hdg, hmeth', hr, ret, narrow_b1]
  (try refine ⟨rfl, ?_⟩); (try refine ⟨rfl, ?_⟩)
  first | (intro acts; rw [hret _ acts rfl rfl rfl]) | rw [hret _ _ rfl rfl rfl]
  exact Steps.refl _
/-- what holds at the law's entry: the machine, the code, the tables' words (any of lw_tbl by 'hts w (by decide +kernel)'), the script of L ints xs at the cell b, what the Statement gives of the start (any of its parts by flat_of_before) -/
def lw_At (p : Program) (s : State) (m : MethodId) (meth : Method) (c : Code) (b L : Nat) (xs : Nat → Int32) : Prop :=
  p.tables.exec = Jvm.exec ∧ c.code = code ∧ meth.sig.returnType = ret ∧ c.maxLocals = 9 ∧ s.vm.findClass R_law = some m.cls ∧ (∀ w ∈ lw_tbl, w.before #[Value.ref b] s = true) ∧ va_X b L xs s s.heap ∧ b < s.heap.size ∧ meth.locks = false ∧ (Jvm.Cond.and given_1 narrow_1).before #[Value.ref b] s = true

theorem z_arrP {U : State} {args : Array Value} {ty : FieldType} (h : (Cond.arrayClass ty).before args U = true) (hr : ∀ cA, U.vm.findClass ("[" ++ ty.toString) = some cA → va_RA U cA ty) : ∃ cA : ClassId, ArrOfT U cA ty ∧ va_RA U cA ty := by
  obtain ⟨c, k, comp, h1, h2, h3⟩ := Cond.arrayClass_spec h
  exact ⟨c, fun n z => ⟨fun k h => (by cases h), k, h2, comp, h3⟩, hr c h1⟩
theorem z_arrO {U : State} {args : Array Value} {C : String} (h : (Cond.arrayOver (.object C)).before args U = true) : ∃ cA : ClassId, ArrOfT U cA (.object C) ∧ va_RA U cA (.object C) := by
  obtain ⟨comp, c, k, h1, h2, h3, h4, h5⟩ := Cond.arrayOver_spec h
  exact ⟨c, fun n z => ⟨fun k h => (by cases h), k, h3, comp, h4⟩, k, comp, h3, h4, h1, h5⟩
theorem z_zWT {w : Cond} (h : w ∈ zWT) : w ∈ lw_tbl := (List.mem_filter.mp h).1
set_option maxRecDepth 100000 in
theorem z_nl : ∀ q ∈ zNL, Cond.methodLinkNest q.1 q.2.1 q.2.2.1 q.2.2.2 ∈ lw_tbl := by decide +kernel
set_option maxRecDepth 100000 in
theorem z_sl : ∀ q ∈ zSL, Cond.stringRef R_Tr q.1 q.2 ∈ lw_tbl := by decide +kernel
set_option maxRecDepth 100000 in
theorem z_sx : ∀ q ∈ zSL, Cond.exactly (.string R_Tr q.1) "java/lang/String" ∈ flatC (Jvm.Cond.and given_1 narrow_1) := by decide +kernel
set_option maxRecDepth 100000 in
theorem z_dl : ∀ y ∈ zDL, Cond.declares y ∈ lw_tbl := by decide +kernel
theorem zYc.of {C T : String} {args : Array Value} {s : State} (h : (Cond.castable C T).before args s = true) : zYc C T s := Cond.castable_spec h
section ZST
variable {p : Program} {s : State} {m : MethodId} {meth : Method} {c : Code} {b L : Nat} {xs : Nat → Int32}
theorem z_K (C0 : lw_At p s m meth c b L xs) : ∃ (D : va_G) (K : Nat → ClassId), va_K D zcl (zT K) s := by
  obtain ⟨-, -, -, -, -, hts, -⟩ := C0
  have hz : ∀ w ∈ zWT, w.before #[Value.ref b] s = true := fun w h => hts w (z_zWT h)
  obtain ⟨c0, i0, h0⟩ := u_known hz in_Ga (hz _ wn_Ga)
  obtain ⟨c1, i1, h1⟩ := u_known hz in_Re (hz _ wn_Re)
  obtain ⟨c2, i2, h2⟩ := u_known hz in_Ru (hz _ wn_Ru)
  obtain ⟨c3, i3, h3⟩ := u_known hz in_Te (hz _ wn_Te)
  obtain ⟨c4, i4, h4⟩ := u_known hz in_Rn (hz _ wn_Rn)
  obtain ⟨c5, i5, h5⟩ := u_known hz in_Tr (hz _ wn_Tr)
  obtain ⟨c6, i6, h6⟩ := u_known hz in_Mo (hz _ wn_Mo)
  obtain ⟨k0, g0⟩ := z_arrP (hz _ wa_int) (fun _ h => h)
  obtain ⟨k1, g1⟩ := z_arrP (hz _ wa_double) (fun _ h => h)
  obtain ⟨k2, g2⟩ := z_arrP (hz _ wa_char) (fun _ h => h)
  obtain ⟨k3, g3⟩ := z_arrP (hz _ wa_long) (fun _ h => h)
  obtain ⟨k4, g4⟩ := z_arrP (hz _ wa_boolean) (fun _ h => h)
  obtain ⟨k5, g5⟩ := z_arrO (hts (.arrayOver (.object R_Ru)) (by decide +kernel))
  obtain ⟨k6, g6⟩ := z_arrO (hts (.arrayOver (.object R_Ga)) (by decide +kernel))
  refine ⟨(fun i => [c0, c1, c2, c3, c4, c5, c6].getD i 0, fun i => [i0, i1, i2, i3, i4, i5, i6].getD i (fun _ => 0)), fun i => [k0, k1, k2, k3, k4, k5, k6].getD i 0, ?_, ?_⟩
  · intro c q hq
    match c, hq with
    | 0, hq => cases hq; exact h0
    | 1, hq => cases hq; exact h1
    | 2, hq => cases hq; exact h2
    | 3, hq => cases hq; exact h3
    | 4, hq => cases hq; exact h4
    | 5, hq => cases hq; exact h5
    | 6, hq => cases hq; exact h6
    | n + 7, hq => simp at hq
  · intro c q hq
    match c, hq with
    | 0, hq => cases hq; exact g0
    | 1, hq => cases hq; exact g1
    | 2, hq => cases hq; exact g2
    | 3, hq => cases hq; exact g3
    | 4, hq => cases hq; exact g4
    | 5, hq => cases hq; exact g5
    | 6, hq => cases hq; exact g6
    | n + 7, hq => simp at hq
theorem z_Ns (C0 : lw_At p s m meth c b L xs) : zNs s := by
  obtain ⟨-, -, -, -, -, hts, -⟩ := C0
  exact ⟨fun q hq => va_Nw.of rfl (hts _ (z_nl q hq)), va_AO.of (hts (.arrayOver (.object R_Ru)) (by decide +kernel)), va_AO.of (hts (.arrayOver (.object R_Ga)) (by decide +kernel))⟩
theorem z_Th (C0 : lw_At p s m meth c b L xs) : zTh (fun q => s.heap.size ≤ q) s s.heap := by
  obtain ⟨-, -, -, -, -, hts, -, -, -, hgv⟩ := C0
  have hf := flat_of_before _ hgv
  have hA : ∀ a : Nat, a < s.heap.size → ¬ s.heap.size ≤ a := fun a h => Nat.not_le.mpr h
  refine ⟨zSt.of (hts (.laysStatic Bundle.tN "UNASSIGNED_STACK" Bundle.steD) (by decide +kernel)) (hf (.isRef (.static Bundle.tN "UNASSIGNED_STACK" Bundle.steD)) (by decide +kernel)) hA, zSt.of (hts (.laysStatic Bundle.tN "SUPPRESSED_SENTINEL" Bundle.listD) (by decide +kernel)) (hf (.isRef (.static Bundle.tN "SUPPRESSED_SENTINEL" Bundle.listD)) (by decide +kernel)) hA, fun q hq => ?_, fun y hy => va_Nw.of rfl (hts _ (z_dl y hy))⟩
  obtain ⟨a, _, _, _, h1, -⟩ := Cond.exactly_spec (hf _ (z_sx q hq))
  exact ⟨a, vk_R.of (hts _ (z_sl q hq)) h1⟩
theorem z_Kc (C0 : lw_At p s m meth c b L xs) : zKc s := by
  obtain ⟨-, -, -, -, -, hts, -, -, -, hgv⟩ := C0
  have hf := flat_of_before _ hgv
  exact ⟨⟨zYc.of (hts (.castable n_IAE n_IAE) (by decide +kernel)), zYc.of (hts (.castable n_ISE n_ISE) (by decide +kernel)), zYc.of (hts (.castable n_NSE n_NSE) (by decide +kernel))⟩, va_Nc.of (hf (.not (.castable n_ISE n_IAE)) (by decide +kernel)), va_Nc.of (hf (.not (.castable n_NSE n_IAE)) (by decide +kernel))⟩
end ZST
