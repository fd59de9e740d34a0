section ZXR
variable {p : Program} {l : Launch} {e : Env} {R : Room} {s : State} {m : MethodId} {args : Array Value} {below : List Frame} {meth : Method} {c : Code} {cells slots : Nat} {Q : State → Prop} {D : va_G} {cl : List vw_C} {tys : List (ClassId × FieldType)} {A : Nat → Prop} {nL : Nat} {cc : ByteArray} {own : String} {Ts : List Cond} {lv : List (Nat × Value)} {ws : va_W} {pc : Nat} {st : List Value}
/-- an object of the class C can be taken for a T -/
def zYc (C T : String) (U : State) : Prop := ∃ c t : ClassId, U.vm.findClass C = some c ∧ U.vm.findClass T = some t ∧ U.vm.assignable c t = true
theorem zYc.moved {C T : String} {u U : State} (hvm : u.vm.Alike U.vm) (h : zYc C T u) : zYc C T U := by
  obtain ⟨a, b, h1, h2, h3⟩ := h
  exact ⟨a, b, by rw [hvm.findClass]; exact h1, by rw [hvm.findClass]; exact h2, by rw [hvm.assignable]; exact h3⟩
/-- a handler of this method's table takes E at pc -/
def zHd (c : Code) (s : State) (own : String) (Ts : List Cond) (pc : Nat) (E : String) (hpc : Nat) : Prop := ∃ (pre : List ExceptionTableEntry) (x : ExceptionTableEntry) (suf : List ExceptionTableEntry), c.exceptionTable.toList = pre ++ x :: suf ∧ (∀ z ∈ pre, covers z pc = true ∧ z.catchType ≠ 0 ∧ ∃ nm : String, Cond.classLink own z.catchType nm ∈ Ts ∧ va_Nc E nm s) ∧ (covers x pc = true ∧ x.catchType ≠ 0 ∧ ∃ nm : String, Cond.classLink own x.catchType nm ∈ Ts ∧ zYc E nm s) ∧ x.handlerPc = hpc
theorem z_keepS {A1 : Nat → Prop} {H0 H H1 : Heap} {locs L : List Loc} (hS : va_S A H0 H locs) (hA : ∀ q, A1 q → A q) (hL : ∀ q ∈ L, A1 q.base) (hz : H.size ≤ H1.size) (hk : ∀ q : Nat, q < H.size → ¬ A1 q → H1[q]? = H[q]?) : va_S A H0 H1 (locs ++ L) :=
  ⟨Nat.le_trans hS.1 hz, fun q h1 h2 => by rw [hk q (Nat.lt_of_lt_of_le h1 hS.1) (fun z => h2 (hA q z))]; exact hS.2.1 q h1 h2, fun q hq => by
    rcases List.mem_append.mp hq with h | h
    · exact hS.2.2 q h
    · exact hA _ (hL q h)⟩
theorem z_xcallVi (C : zCx p s m args c cc nL own Ts D cl tys A) (hth : zTh A s s.heap) {y : MethodName} {bytes : ByteArray} {maxL mc ms n index : Nat} {ret : Option FieldType} {wy : List Cond} {rm : Room} {S : Type} {As : List Value} {b : Nat} {w0 wr : va_W} {w wj : S → va_W} {post : Int32 → S → Prop} {px : String → S → Prop} {st0 : List Value}
    {C9 : String} {T : u_T} {N ci : Nat} {fs : List Value} (q0 : Nat) (he : ws[q0]? = some (b, .inr (ci, fs))) (hc : cl[ci]? = some (C9, T, N)) (hM : zXi l y wy rm D cl tys (.ref b :: As) w0 w post px mc ms) (cw : CallW R s args own C9 index y bytes maxL ret wy rm mc ms n) (isC isR isJ : List Nat) (hC : isC.map (fun i => ws[i]?) = w0.map some) (hnC : va_nd isC = true) (hR : isR.map (fun i => ws[i]?) = wr.map some) (hnR : va_nd isR = true) (hdis : ∀ i ∈ isR, i ∉ isC) (hJ : ∀ u, isJ.map (fun i => (wr ++ w u)[i]?) = (wj u).map some) (hnJ : va_nd isJ = true)
    (hn : As.length = n) (hst : st0 = As.reverse ++ .ref b :: st) (hroom : (st.map fun v => v.category).sum ≤ 8) (d : decode cc pc = .ok (.invokevirtual index, 3)) (hf : cells + mc ≤ R.cells ∧ slots + ms ≤ R.slots)
    (k : ∀ (r : Int32) (u : S), post r u → zW p l e R s m args below meth c D cl A nL (cells + mc) (slots + ms) Q lv (wj u) (pc + 3) (.int r :: st))
    (kx : ∀ (E : String) (u : S), px E u → ∃ hpc : Nat, zHd c s own Ts pc E hpc ∧ ∀ q9 : Nat, zW p l e R s m args below meth c D cl A nL (cells + mc) (slots + ms) Q lv (wj u) hpc [.ref q9]) : zW p l e R s m args below meth c D cl A nL cells slots Q lv ws pc st0 := fun ls H locs hl hP hD hS T0 hT X => by
  obtain ⟨hx, hb, hml, hown, hts, hKN, hA⟩ := C
  obtain ⟨⟨hrc, hrs, hfr, hlo, hws, hcw, hcode, hini, hy, hlen, hlk⟩, hin, hse⟩ := cw
  have hPc := hP.sub isC (z_fm isC hC)
  have hDc := hD.sub isC hnC hC
  have hFc := va_free hD hS hA isC hC
  obtain ⟨cellB, hcB, hoB, hclB⟩ := va_recv hKN.1 hP hc he
  obtain ⟨mk, methM, hnamed, hmethM, hstM, habM⟩ := Cond.instanceMethod_spec hin
  obtain ⟨methM', cM, hmethM', -, -, -, -, -, -, hsigM⟩ := Cond.code_spec hnamed hcode
  cases hmethM.symm.trans hmethM'
  obtain ⟨c2, r2, m2, q1, q2, q3, q4, kP, hkP, hkPi⟩ := Cond.selects_spec hse
  cases hclB.symm.trans q1
  cases (State.methodFound?_of_named hnamed hy).symm.trans q2
  cases hnamed.symm.trans q3
  have hselP : selectMethod e.platform s.vm cellB.cls mk = .method mk := by rw [Launch.admits_selectMethod X.admits]; exact q4
  obtain ⟨vm₁, X₁, hstep₁⟩ := X.invokevirtual hx hown hlk hnamed hmethM hstM hkP hkPi hy (a := b) (cell := cellB) (by rw [hT]; exact hcB)
    (fun z h => by rw [h] at hoB; cases hoB) hselP hmethM habM hkP hkPi (g := F0 m pc ls st0) rfl (argsL := As) (rest := st) (hn.trans (hlen _ hsigM)) hst (by rw [hb]; exact d)
  have hUh : (T0.setVm vm₁).heap = H := hT
  have hth2 : zTh (va_A w0 H.size) (T0.setVm vm₁) (T0.setVm vm₁).heap := by
    rw [hUh]
    exact zTh.moved X₁.warmed ((hth.kept hS.2.1).narrow hFc)
  have hini2 : (Cond.initialized y.cls).before (Value.ref b :: As).toArray (T0.setVm vm₁) = true := word_at X₁.warmed (Or.inl (by first | rfl | simp [Cond.onTables, Cond.keeps, Cond.steady])) hini
  have hgo : ∀ {t2 : State}, Steps p.tables e below (doInvoke e ((T0.setVm vm₁).setTop (F0 m pc ls st)) [] mk (Value.ref b :: As).toArray).1 t2 → Steps p.tables e below (T0.setTop (F0 m pc ls st0)) t2 := fun h9 => hstep₁ _ fun acts => by rw [doInvoke_state]; exact h9
  rcases zx_back (bytes := bytes) (maxL := maxL) (ret := ret) (hM H.size) hrc hrs hfr hlo X₁ (fun w hw => hws w hw _ _ X₁.warmed) (hws _ hcw _ _ X₁.warmed) hini2 hf ⟨rfl, by rw [hUh], by rw [hUh]; exact hPc, ⟨⟨va_K.moved X₁.warmed.alike hKN.1, zNs.moved X₁.warmed hKN.2⟩, hth2⟩, hDc.weaken (fun _ _ _ _ => trivial)⟩ (g := F0 m pc ls st) rfl (hl.1.trans hml.symm) (by rw [hb]; exact d) (lv_room hroom) (X₁.named hnamed) with ⟨v, t, U2, L, e1, e2, X2, hL, hq, hsteps⟩ | ⟨q9, E, u, ce, t, U2, L, e1, e2, X2, hL, hpx, hB, hF, hce, hcv, hcl, hsteps⟩
  · obtain ⟨⟨r, u, hv, hp, hB⟩, hz, hk⟩ := hq
    cases hv
    have hz : H.size ≤ U2.heap.size := by rw [e1, ← hUh]; exact hz
    have hk : ∀ q : Nat, q < H.size → ¬ va_A w0 H.size q → U2.heap[q]? = H[q]? := fun q h1 h2 => by rw [e1, ← hUh]; exact hk q (by show q < (T0.setVm vm₁).heap.size; rw [hUh]; exact h1) h2
    obtain ⟨hP1, hK1, hD1⟩ := hB
    rw [← e1] at hP1
    obtain ⟨hP2, hD2⟩ := va_join hP hD isC isR hC hR hnR hdis hk hFc hP1 hD1
    obtain ⟨t2, a1, b1⟩ := k r u hp ls U2.heap (locs ++ L) hl (hP2.sub isJ (z_fm isJ (hJ u))) (hD2.sub isJ hnJ (hJ u)) (z_keepS hS hFc hL hz hk) U2 rfl X2
    exact ⟨t2, hgo (hsteps.trans a1), b1⟩
  · obtain ⟨hz, hk⟩ := hF
    have hz : H.size ≤ U2.heap.size := by rw [e1, ← hUh]; exact hz
    have hk : ∀ q : Nat, q < H.size → ¬ va_A w0 H.size q → U2.heap[q]? = H[q]? := fun q h1 h2 => by rw [e1, ← hUh]; exact hk q (by show q < (T0.setVm vm₁).heap.size; rw [hUh]; exact h1) h2
    obtain ⟨hP1, hK1, hD1⟩ := hB
    rw [← e1] at hP1 hce
    obtain ⟨hP2, hD2⟩ := va_join hP hD isC isR hC hR hnR hdis hk hFc hP1 hD1
    obtain ⟨hpc, ⟨pre, x, suf, hsplit, hpre, ⟨hxc, hx0, nmx, hxl, hxy⟩, rfl⟩, kk⟩ := kx E u hpx
    have hpl : e.platform.magicAccessors = ({} : Platform).magicAccessors := by rw [X.admits.platform]
    have hclS : s.vm.findClass E = some ce.cls := by
      rw [← X₁.warmed.alike.findClass]; exact hcl
    obtain ⟨k9, hk9, -⟩ := Vm.findClass_spec hclS
    have hyes : zkYes e.platform s m.cls pc ce.cls x := by
      obtain ⟨c6, hc6, hl6⟩ := Cond.classLink_spec hown (hts _ hxl) e.platform hpl
      obtain ⟨a8, b8, g1, g2, g3⟩ := hxy
      cases Option.some.inj (g1.symm.trans hclS)
      cases Option.some.inj (g2.symm.trans hc6)
      exact ⟨hxc, hx0, _, hl6, g3⟩
    have hno : ∀ z ∈ pre, zkNo e.platform s m.cls pc ce.cls z := fun z hz9 => by
      obtain ⟨hzc, hz0, nm, hzl, hzn⟩ := hpre z hz9
      obtain ⟨c6, hc6, hl6⟩ := Cond.classLink_spec hown (hts _ hzl) e.platform hpl
      obtain ⟨a8, b8, g1, g2, g3⟩ := hzn
      cases Option.some.inj (g1.symm.trans hclS)
      cases Option.some.inj (g2.symm.trans hc6)
      exact ⟨hzc, hz0, _, hl6, g3⟩
    obtain ⟨vm2, hW2, hfind⟩ := zk_search (e := e) (s₀ := s) (f := F0 m pc ls st) (a := q9) (cell := ce) (VmData.ne_statics_of (by rw [hcv]; rfl)) ⟨k9, hk9⟩ x suf hyes pre ((U2.setTop (F0 m pc ls st)).pushFrame (.throwing q9)) X2.warmed hce hno
    have hF9 : zkF e ((U2.setTop (F0 m pc ls st)).pushFrame (.throwing q9)) (F0 m pc ls st) q9 x.handlerPc vm2 := fun Q9 E9 d9 acts9 => by
      rw [W.findHandler_eq (meth := meth) (code := c) X2.method' X2.code, hsplit]
      exact hfind Q9 E9 d9 acts9
    have X3 := X2.noted hW2
    obtain ⟨t2, a1, b1⟩ := kk q9 ls U2.heap (locs ++ L) hl (hP2.sub isJ (z_fm isJ (hJ u))) (hD2.sub isJ hnJ (hJ u)) (z_keepS hS hFc hL hz hk) (U2.setVm vm2) rfl X3
    exact ⟨t2, hgo (hsteps.trans (zk_step (g := F0 m pc ls st) X2.here hF9 a1)), b1⟩
theorem z_xcallVd (C : zCx p s m args c cc nL own Ts D cl tys A) (hth : zTh A s s.heap) {y : MethodName} {bytes : ByteArray} {maxL mc ms n index : Nat} {ret : Option FieldType} {wy : List Cond} {rm : Room} {S : Type} {As : List Value} {b : Nat} {w0 wr : va_W} {w wj : S → va_W} {post : UInt64 → S → Prop} {px : String → S → Prop} {st0 : List Value}
    {C9 : String} {T : u_T} {N ci : Nat} {fs : List Value} (q0 : Nat) (he : ws[q0]? = some (b, .inr (ci, fs))) (hc : cl[ci]? = some (C9, T, N)) (hM : zXd l y wy rm D cl tys (.ref b :: As) w0 w post px mc ms) (cw : CallW R s args own C9 index y bytes maxL ret wy rm mc ms n) (isC isR isJ : List Nat) (hC : isC.map (fun i => ws[i]?) = w0.map some) (hnC : va_nd isC = true) (hR : isR.map (fun i => ws[i]?) = wr.map some) (hnR : va_nd isR = true) (hdis : ∀ i ∈ isR, i ∉ isC) (hJ : ∀ u, isJ.map (fun i => (wr ++ w u)[i]?) = (wj u).map some) (hnJ : va_nd isJ = true)
    (hn : As.length = n) (hst : st0 = As.reverse ++ .ref b :: st) (hroom : (st.map fun v => v.category).sum ≤ 8) (d : decode cc pc = .ok (.invokevirtual index, 3)) (hf : cells + mc ≤ R.cells ∧ slots + ms ≤ R.slots)
    (k : ∀ (r : UInt64) (u : S), post r u → zW p l e R s m args below meth c D cl A nL (cells + mc) (slots + ms) Q lv (wj u) (pc + 3) (.double r :: st))
    (kx : ∀ (E : String) (u : S), px E u → ∃ hpc : Nat, zHd c s own Ts pc E hpc ∧ ∀ q9 : Nat, zW p l e R s m args below meth c D cl A nL (cells + mc) (slots + ms) Q lv (wj u) hpc [.ref q9]) : zW p l e R s m args below meth c D cl A nL cells slots Q lv ws pc st0 := fun ls H locs hl hP hD hS T0 hT X => by
  obtain ⟨hx, hb, hml, hown, hts, hKN, hA⟩ := C
  obtain ⟨⟨hrc, hrs, hfr, hlo, hws, hcw, hcode, hini, hy, hlen, hlk⟩, hin, hse⟩ := cw
  have hPc := hP.sub isC (z_fm isC hC)
  have hDc := hD.sub isC hnC hC
  have hFc := va_free hD hS hA isC hC
  obtain ⟨cellB, hcB, hoB, hclB⟩ := va_recv hKN.1 hP hc he
  obtain ⟨mk, methM, hnamed, hmethM, hstM, habM⟩ := Cond.instanceMethod_spec hin
  obtain ⟨methM', cM, hmethM', -, -, -, -, -, -, hsigM⟩ := Cond.code_spec hnamed hcode
  cases hmethM.symm.trans hmethM'
  obtain ⟨c2, r2, m2, q1, q2, q3, q4, kP, hkP, hkPi⟩ := Cond.selects_spec hse
  cases hclB.symm.trans q1
  cases (State.methodFound?_of_named hnamed hy).symm.trans q2
  cases hnamed.symm.trans q3
  have hselP : selectMethod e.platform s.vm cellB.cls mk = .method mk := by rw [Launch.admits_selectMethod X.admits]; exact q4
  obtain ⟨vm₁, X₁, hstep₁⟩ := X.invokevirtual hx hown hlk hnamed hmethM hstM hkP hkPi hy (a := b) (cell := cellB) (by rw [hT]; exact hcB)
    (fun z h => by rw [h] at hoB; cases hoB) hselP hmethM habM hkP hkPi (g := F0 m pc ls st0) rfl (argsL := As) (rest := st) (hn.trans (hlen _ hsigM)) hst (by rw [hb]; exact d)
  have hUh : (T0.setVm vm₁).heap = H := hT
  have hth2 : zTh (va_A w0 H.size) (T0.setVm vm₁) (T0.setVm vm₁).heap := by
    rw [hUh]
    exact zTh.moved X₁.warmed ((hth.kept hS.2.1).narrow hFc)
  have hini2 : (Cond.initialized y.cls).before (Value.ref b :: As).toArray (T0.setVm vm₁) = true := word_at X₁.warmed (Or.inl (by first | rfl | simp [Cond.onTables, Cond.keeps, Cond.steady])) hini
  have hgo : ∀ {t2 : State}, Steps p.tables e below (doInvoke e ((T0.setVm vm₁).setTop (F0 m pc ls st)) [] mk (Value.ref b :: As).toArray).1 t2 → Steps p.tables e below (T0.setTop (F0 m pc ls st0)) t2 := fun h9 => hstep₁ _ fun acts => by rw [doInvoke_state]; exact h9
  rcases zx_back (bytes := bytes) (maxL := maxL) (ret := ret) (hM H.size) hrc hrs hfr hlo X₁ (fun w hw => hws w hw _ _ X₁.warmed) (hws _ hcw _ _ X₁.warmed) hini2 hf ⟨rfl, by rw [hUh], by rw [hUh]; exact hPc, ⟨⟨va_K.moved X₁.warmed.alike hKN.1, zNs.moved X₁.warmed hKN.2⟩, hth2⟩, hDc.weaken (fun _ _ _ _ => trivial)⟩ (g := F0 m pc ls st) rfl (hl.1.trans hml.symm) (by rw [hb]; exact d) (lv_room hroom) (X₁.named hnamed) with ⟨v, t, U2, L, e1, e2, X2, hL, hq, hsteps⟩ | ⟨q9, E, u, ce, t, U2, L, e1, e2, X2, hL, hpx, hB, hF, hce, hcv, hcl, hsteps⟩
  · obtain ⟨⟨r, u, hv, hp, hB⟩, hz, hk⟩ := hq
    cases hv
    have hz : H.size ≤ U2.heap.size := by rw [e1, ← hUh]; exact hz
    have hk : ∀ q : Nat, q < H.size → ¬ va_A w0 H.size q → U2.heap[q]? = H[q]? := fun q h1 h2 => by rw [e1, ← hUh]; exact hk q (by show q < (T0.setVm vm₁).heap.size; rw [hUh]; exact h1) h2
    obtain ⟨hP1, hK1, hD1⟩ := hB
    rw [← e1] at hP1
    obtain ⟨hP2, hD2⟩ := va_join hP hD isC isR hC hR hnR hdis hk hFc hP1 hD1
    obtain ⟨t2, a1, b1⟩ := k r u hp ls U2.heap (locs ++ L) hl (hP2.sub isJ (z_fm isJ (hJ u))) (hD2.sub isJ hnJ (hJ u)) (z_keepS hS hFc hL hz hk) U2 rfl X2
    exact ⟨t2, hgo (hsteps.trans a1), b1⟩
  · obtain ⟨hz, hk⟩ := hF
    have hz : H.size ≤ U2.heap.size := by rw [e1, ← hUh]; exact hz
    have hk : ∀ q : Nat, q < H.size → ¬ va_A w0 H.size q → U2.heap[q]? = H[q]? := fun q h1 h2 => by rw [e1, ← hUh]; exact hk q (by show q < (T0.setVm vm₁).heap.size; rw [hUh]; exact h1) h2
    obtain ⟨hP1, hK1, hD1⟩ := hB
    rw [← e1] at hP1 hce
    obtain ⟨hP2, hD2⟩ := va_join hP hD isC isR hC hR hnR hdis hk hFc hP1 hD1
    obtain ⟨hpc, ⟨pre, x, suf, hsplit, hpre, ⟨hxc, hx0, nmx, hxl, hxy⟩, rfl⟩, kk⟩ := kx E u hpx
    have hpl : e.platform.magicAccessors = ({} : Platform).magicAccessors := by rw [X.admits.platform]
    have hclS : s.vm.findClass E = some ce.cls := by
      rw [← X₁.warmed.alike.findClass]; exact hcl
    obtain ⟨k9, hk9, -⟩ := Vm.findClass_spec hclS
    have hyes : zkYes e.platform s m.cls pc ce.cls x := by
      obtain ⟨c6, hc6, hl6⟩ := Cond.classLink_spec hown (hts _ hxl) e.platform hpl
      obtain ⟨a8, b8, g1, g2, g3⟩ := hxy
      cases Option.some.inj (g1.symm.trans hclS)
      cases Option.some.inj (g2.symm.trans hc6)
      exact ⟨hxc, hx0, _, hl6, g3⟩
    have hno : ∀ z ∈ pre, zkNo e.platform s m.cls pc ce.cls z := fun z hz9 => by
      obtain ⟨hzc, hz0, nm, hzl, hzn⟩ := hpre z hz9
      obtain ⟨c6, hc6, hl6⟩ := Cond.classLink_spec hown (hts _ hzl) e.platform hpl
      obtain ⟨a8, b8, g1, g2, g3⟩ := hzn
      cases Option.some.inj (g1.symm.trans hclS)
      cases Option.some.inj (g2.symm.trans hc6)
      exact ⟨hzc, hz0, _, hl6, g3⟩
    obtain ⟨vm2, hW2, hfind⟩ := zk_search (e := e) (s₀ := s) (f := F0 m pc ls st) (a := q9) (cell := ce) (VmData.ne_statics_of (by rw [hcv]; rfl)) ⟨k9, hk9⟩ x suf hyes pre ((U2.setTop (F0 m pc ls st)).pushFrame (.throwing q9)) X2.warmed hce hno
    have hF9 : zkF e ((U2.setTop (F0 m pc ls st)).pushFrame (.throwing q9)) (F0 m pc ls st) q9 x.handlerPc vm2 := fun Q9 E9 d9 acts9 => by
      rw [W.findHandler_eq (meth := meth) (code := c) X2.method' X2.code, hsplit]
      exact hfind Q9 E9 d9 acts9
    have X3 := X2.noted hW2
    obtain ⟨t2, a1, b1⟩ := kk q9 ls U2.heap (locs ++ L) hl (hP2.sub isJ (z_fm isJ (hJ u))) (hD2.sub isJ hnJ (hJ u)) (z_keepS hS hFc hL hz hk) (U2.setVm vm2) rfl X3
    exact ⟨t2, hgo (hsteps.trans (zk_step (g := F0 m pc ls st) X2.here hF9 a1)), b1⟩
end ZXR
