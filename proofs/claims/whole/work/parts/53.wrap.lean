/-! methods with a table of their own (the law's nine helpers): contracts, and calls of them -/
section ZWR
variable {p : Program} {l : Launch} {e : Env} {R : Room} {s : State} {m : MethodId} {args : Array Value} {below : List Frame} {meth : Method} {c : Code} {cells slots : Nat} {Q : State → Prop} {D : va_G} {cl : List vw_C} {tys : List (ClassId × FieldType)} {A : Nat → Prop} {nL : Nat} {cc : ByteArray} {own : String} {Ts : List Cond} {lv : List (Nat × Value)} {ws : va_W} {pc : Nat} {st : List Value}
/-- which of the three classes of exceptions is taken for which -/
def zKc (U : State) : Prop := (zYc n_IAE n_IAE U ∧ zYc n_ISE n_ISE U ∧ zYc n_NSE n_NSE U) ∧ va_Nc n_ISE n_IAE U ∧ va_Nc n_NSE n_IAE U
theorem zKc.moved {u U : State} (hvm : u.vm.Alike U.vm) (h : zKc u) : zKc U := ⟨⟨h.1.1.moved hvm, h.1.2.1.moved hvm, h.1.2.2.moved hvm⟩, va_Nc.moved hvm h.2.1, va_Nc.moved hvm h.2.2⟩
def zTb (c : Code) (hh : List (Nat × Nat × Nat × Nat)) : Prop := c.exceptionTable.toList.map (fun h => (h.startPc, h.endPc, h.handlerPc, h.catchType)) = hh
theorem zHd_1 {E nm : String} {a b h t : Nat} {hh : List (Nat × Nat × Nat × Nat)} (ht : zTb c ((a, b, h, t) :: hh)) (hp : a ≤ pc ∧ pc < b) (h0 : t ≠ 0) (hl : Cond.classLink own t nm ∈ Ts) (hy : zYc E nm s) : zHd c s own Ts pc E h := by
  unfold zTb at ht
  obtain ⟨x, suf, e1, e2, -⟩ := List.map_eq_cons_iff.mp ht
  simp only [Prod.mk.injEq] at e2
  obtain ⟨g1, g2, g3, g4⟩ := e2
  refine ⟨[], x, suf, e1, (fun z hz => nomatch hz), ⟨?_, by rw [g4]; exact h0, nm, by rw [g4]; exact hl, hy⟩, g3⟩
  simp only [covers, g1, g2]
  simp [hp.1, hp.2]
theorem zHd_2 {E nm nm2 : String} {a b h t a2 b2 h2 t2 : Nat} {hh : List (Nat × Nat × Nat × Nat)} (ht : zTb c ((a, b, h, t) :: (a2, b2, h2, t2) :: hh)) (hp : a ≤ pc ∧ pc < b) (hp2 : a2 ≤ pc ∧ pc < b2) (h0 : t ≠ 0) (h02 : t2 ≠ 0) (hl : Cond.classLink own t nm ∈ Ts) (hn : va_Nc E nm s) (hl2 : Cond.classLink own t2 nm2 ∈ Ts) (hy : zYc E nm2 s) : zHd c s own Ts pc E h2 := by
  unfold zTb at ht
  obtain ⟨x, r, e1, e2, e3⟩ := List.map_eq_cons_iff.mp ht
  obtain ⟨x2, suf, e4, e5, -⟩ := List.map_eq_cons_iff.mp e3
  simp only [Prod.mk.injEq] at e2 e5
  obtain ⟨g1, g2, g3, g4⟩ := e2
  obtain ⟨k1, k2, k3, k4⟩ := e5
  refine ⟨[x], x2, suf, by rw [e1, e4]; rfl, fun z hz => ?_, ⟨?_, by rw [k4]; exact h02, nm2, by rw [k4]; exact hl2, hy⟩, k3⟩
  · cases List.mem_singleton.mp hz
    refine ⟨?_, by rw [g4]; exact h0, nm, by rw [g4]; exact hl, hn⟩
    simp only [covers, g1, g2]
    simp [hp.1, hp.2]
  · simp only [covers, k1, k2]
    simp [hp2.1, hp2.2]
def zPreW (D : va_G) (cl : List vw_C) (tys : List (ClassId × FieldType)) (av : List Value) (w0 : va_W) (sz : Nat) : Array Value → State → Prop := va_Pc av (fun U => U.heap.size = sz ∧ va_P D cl w0 U.heap ∧ (((va_K D cl tys U ∧ zNs U) ∧ zTh (va_A w0 sz) U U.heap) ∧ zKc U) ∧ va_D (fun _ => True) w0)
theorem z_blindW {av : List Value} {w0 : va_W} {sz : Nat} : FrameBlind (zPreW D cl tys av w0 sz) := fun a U g mk q => by
  obtain ⟨q0, q1, qP, qK, qD⟩ := q
  exact ⟨q0, q1, qP, ⟨⟨⟨va_K.moved (u := U) (U := U.calling g mk a) (Vm.Alike.refl U.vm) qK.1.1.1, zNs.same (U := U.calling g mk a) rfl qK.1.1.2⟩, zTh.same (U := U.calling g mk a) rfl qK.1.2⟩, zKc.moved (U := U.calling g mk a) (Vm.Alike.refl U.vm) qK.2⟩, qD⟩
/-- a contract of a method with a table, that answers an int -/
def zWi (l : Launch) (y : MethodName) (wy : List Cond) (rm : Room) (D : va_G) (cl : List vw_C) (tys : List (ClassId × FieldType)) (av : List Value) (w0 : va_W) {S : Type} (w : S → va_W) (post : Int32 → S → Prop) (mc ms : Nat) : Prop :=
  ∀ sz : Nat, Met l y wy rm (zPreW D cl tys av w0 sz) (va_Qi post (zB D cl tys w (va_A w0 sz)) (va_A w0 sz)) mc ms (va_A w0 sz)
theorem z_metw {y : MethodName} {wy wy' : List Cond} {rm : Room} {maxL : Nat} {ret : Option FieldType} {hh : List (Nat × Nat × Nat × Nat)} {av : List Value} {w0 : va_W} {S : Type} {w : S → va_W} {post : Int32 → S → Prop} {mc ms : Nat} (hy : plainName y.cls = true) (hw : wy = Cond.codeWith y cc maxL ret hh :: wy') (ha : (lg_sl av).length ≤ maxL)
    (body : ∀ (p : Program) (e : Env) (s : State) (m : MethodId) (args : Array Value) (below : List Frame) (meth : Method) (c : Code) (A : Nat → Prop), zCx p s m args c cc maxL y.cls wy' D cl tys A → zTh A s s.heap → zKc s → zTb c hh → meth.sig.returnType = ret → meth.locks = false →
      zW p l e (headSpec wy rm).room s m args below meth c D cl A maxL 0 0 (MQ below (va_Qi post (zB D cl tys w A) A) args s mc ms A) (lv_args 0 av) w0 0 []) : zWi l y wy rm D cl tys av w0 w post mc ms := by
  intro sz
  refine va_MetW (cc := cc) (maxL := maxL) (ret := ret) (hh := hh) hy hw ?_
  intro p e s m args below meth c s₁ B hml hv
  obtain ⟨rfl, hsz, hP, hK, hD0⟩ := hv
  subst hsz
  have hts := atoms_spec (ws := wy) B.pre
  have hown : s.vm.findClass y.cls = some m.cls := findClass_of_methodNamed B.named
  have hD := hD0.self (sz := s.heap.size)
  have hl := lv_entry av (n := maxL) ha
  have htb : zTb c hh := by
    obtain ⟨m9, meth9, c9, hn9, h1, h2, -, -, h5, -⟩ := Cond.codeWith_spec (hts _ (by rw [hw]; exact List.mem_cons_self))
    cases Option.some.inj (hn9.symm.trans B.named)
    cases Option.some.inj (h1.symm.trans B.method)
    cases Option.some.inj (h2.symm.trans (Stand.of_body B).code)
    exact h5
  rw [lg_entry_eq]
  exact body p e s m _ below meth c _ ⟨B.exec, B.bytes, hml, hown, fun w h => hts w (by rw [hw]; exact List.mem_cons_of_mem _ h), hK.1.1, fun q h => Or.inr h⟩ hK.1.2 hK.2 htb B.returns B.notSynchronized _ _ _ hl hP hD va_S.rf
/-- a call of a static method with a table -/
theorem z_callW (C : zCx p s m args c cc nL own Ts D cl tys A) (hth : zTh A s s.heap) (hkc : zKc s) {y : MethodName} {bytes : ByteArray} {maxL mc ms n index : Nat} {ret : Option FieldType} {hh : List (Nat × Nat × Nat × Nat)} {rm : Room} {S : Type} {As : List Value} {w0 wr : va_W} {w wj : S → va_W} {post : Int32 → S → Prop} {st0 : List Value}
    (hM : zWi l y (Cond.codeWith y bytes maxL ret hh :: Ts) rm D cl tys As w0 w post mc ms) (hTs : ∀ w ∈ Ts, goodWord w = true) (hrc : rm.cells = mc) (hrs : rm.slots = ms) (hRM : rm.frames + 1 ≤ R.frames ∧ 8 + (maxL + 11) + rm.locals ≤ R.locals) (w1 : Cond.methodLink own index y ∈ Ts) (w2 : Cond.static y ∈ Ts) (w3 : Cond.initialized y.cls ∈ Ts) (w4 : Cond.codeWith y bytes maxL ret hh ∈ Ts) (hy : y.cls ≠ "java/lang/invoke/MethodHandle" ∧ y.cls ≠ "java/lang/invoke/VarHandle" ∧ (parseMethodDescriptor y.desc).map (fun d => d.parameters.length) = some n)
    (isC isR isJ : List Nat) (hC : isC.map (fun i => ws[i]?) = w0.map some) (hnC : va_nd isC = true) (hR : isR.map (fun i => ws[i]?) = wr.map some) (hnR : va_nd isR = true) (hdis : ∀ i ∈ isR, i ∉ isC) (hJ : ∀ u, isJ.map (fun i => (wr ++ w u)[i]?) = (wj u).map some) (hnJ : va_nd isJ = true)
    (hn : As.length = n) (hst : st0 = As.reverse ++ st) (hroom : (st.map fun v => v.category).sum ≤ 8) (d : decode cc pc = .ok (.invokestatic index, 3)) (hf : cells + mc ≤ R.cells ∧ slots + ms ≤ R.slots)
    (k : ∀ (r : Int32) (u : S), post r u → zW p l e R s m args below meth c D cl A nL (cells + mc) (slots + ms) Q lv (wj u) (pc + 3) (.int r :: st)) : zW p l e R s m args below meth c D cl A nL cells slots Q lv ws pc st0 := fun ls H locs hl hP hD hS T0 hT X => by
  obtain ⟨hx, hb, hml, hown, hts, hKN, hA⟩ := C
  have hPc := hP.sub isC (z_fm isC hC)
  have hDc := hD.sub isC hnC hC
  have hFc := va_free hD hS hA isC hC
  have hgd : ∀ w ∈ (Cond.codeWith y bytes maxL ret hh :: Ts), ∀ (a9 : Array Value) (U : State), s.WarmedH U.vm → w.before a9 U = true := fun w hw a9 U hW => by
    have hm : w ∈ Ts := (List.mem_cons.mp hw).elim (fun h => h ▸ w4) id
    exact word_at hW (good_of_word (hTs w hm)) (hts w hm)
  have hK : Back l R p e below s args y 3 8 (PreOf R mc ms (zPreW D cl tys As w0 H.size)) (PostOf (va_Qi post (zB D cl tys w (va_A w0 H.size)) (va_A w0 H.size)) mc ms (va_A w0 H.size)) :=
    va_backW (bytes := bytes) (maxL := maxL) (ret := ret) (hh := hh) (hM H.size) z_blindW hrc hrs hRM.1 hRM.2 hgd List.mem_cons_self (fun a9 U hW => word_at hW (good_of_word (hTs _ w3)) (hts _ w3))
  obtain ⟨mk, methM, cM, hnamed, hmethM, -, -, -, -, -, -, hsigM⟩ := Cond.codeWith_spec (hts _ w4)
  have hstatic : methM.isStatic = true := Cond.static_spec hnamed hmethM (hts _ w2)
  obtain ⟨kP, hkP, -⟩ := className_of_methodNamed hnamed
  have hinitP : kP.init = .initialized := Cond.initialized_spec (findClass_of_methodNamed hnamed) hkP (hts _ w3)
  have hlen : As.length = methM.sig.parameters.length := by
    have h2 := hy.2.2
    rw [hsigM] at h2
    exact hn.trans (Option.some.inj h2).symm
  obtain ⟨vm₁, X₁, hstep₁⟩ := X.invokestatic hx hown (hts _ w1) hnamed hmethM hstatic hkP hinitP ⟨hy.1, hy.2.1⟩ (g := F0 m pc ls st0) rfl (argsL := As) (rest := st) hlen hst (by rw [hb]; exact d)
  have hUh : (T0.setVm vm₁).heap = H := hT
  obtain ⟨v, B, X2, hpost, hsteps⟩ := hK m meth c ⟨T0.setVm vm₁, locs, cells, slots⟩ (F0 m pc ls st) (.invokestatic index) mk As.toArray X₁ rfl (hl.1.trans hml.symm) (by rw [hb]; exact d) (lv_room hroom) (X₁.named hnamed)
    ⟨hf.1, hf.2, rfl, by show (T0.setVm vm₁).heap.size = _; rw [hUh], by show va_P D cl w0 (T0.setVm vm₁).heap; rw [hUh]; exact hPc, ⟨⟨⟨va_K.moved X₁.warmed.alike hKN.1, zNs.moved X₁.warmed hKN.2⟩, by show zTh (va_A w0 H.size) (T0.setVm vm₁) (T0.setVm vm₁).heap; rw [hUh]; exact zTh.moved X₁.warmed ((hth.kept hS.2.1).narrow hFc)⟩, zKc.moved X₁.warmed.alike hkc⟩, hDc.weaken (fun _ _ _ _ => trivial)⟩
  obtain ⟨U2, l2, c2, s2⟩ := B
  obtain ⟨g', mk', t, L, e1, e2, ⟨⟨r, u, hv, hp, hB⟩, hz, hk⟩, h1, hL, h2, h3⟩ := hpost
  dsimp only [Pt.U, Pt.locs, Pt.cells, Pt.slots] at X2 e1 e2 h1 h2 h3 hsteps
  subst h1; subst h2; subst h3
  cases hv
  have hz : H.size ≤ U2.heap.size := by rw [e1, ← hUh]; exact hz
  have hk : ∀ q : Nat, q < H.size → ¬ va_A w0 H.size q → U2.heap[q]? = H[q]? := fun q g1 g2 => by rw [e1, ← hUh]; exact hk q (by show q < (T0.setVm vm₁).heap.size; rw [hUh]; exact g1) g2
  obtain ⟨hP1, hK1, hD1⟩ := hB
  rw [← e1] at hP1
  obtain ⟨hP2, hD2⟩ := va_join hP hD isC isR hC hR hnR hdis hk hFc hP1 hD1
  obtain ⟨t2, a1, b1⟩ := k r u hp ls U2.heap (locs ++ L) hl (hP2.sub isJ (z_fm isJ (hJ u))) (hD2.sub isJ hnJ (hJ u)) (z_keepS hS hFc hL hz hk) U2 rfl X2
  exact ⟨t2, hstep₁ _ (fun acts => by rw [doInvoke_state]; exact hsteps.trans a1), b1⟩
end ZWR
