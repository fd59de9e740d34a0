/-! a throw that leaves its method: what it needs of the start, the row for 'throw new E("text")', contracts of methods that return or throw -/
section ZTH
variable {p : Program} {l : Launch} {e : Env} {R : Room} {s : State} {m : MethodId} {args : Array Value} {below : List Frame} {meth : Method} {c : Code} {cells slots : Nat} {locs : List Loc} {D : va_G} {cl : List vw_C} {tys : List (ClassId × FieldType)} {A : Nat → Prop} {nL : Nat} {cc : ByteArray} {own : String} {Ts : List Cond} {lv : List (Nat × Value)} {ws : va_W} {pc : Nat} {st : List Value}
/-- a static reference of Throwable's: where it lies (outside A), and that it holds null or a reference -/
def zSt (n d : String) (A : Nat → Prop) (U : State) (H : Heap) : Prop :=
  ∃ (k0 : ClassId) (k : Class) (i : Nat) (f : Field) (a : Nat) (cell : Cell) (v : Value), (U.vm.findClass Bundle.tN = some k0 ∧ U.fieldFound? Bundle.tN n d = some (k0, k, i, f) ∧ f.isStatic = true ∧ k.statics = some a ∧ k.staticTypes[f.slot]? = some f.type) ∧ H[a]? = some cell ∧ (cell.vm.isStatics = true ∧ cell.cls = k0 ∧ f.slot < cell.slots.size ∧ cell.slots[f.slot]? = some v ∧ v.isRef = true) ∧ ¬ A a
theorem zSt.moved {n d : String} {u U : State} {H : Heap} (hvm : u.vm.Alike U.vm) (h : zSt n d A u H) : zSt n d A U H := by
  obtain ⟨k0, k, i, f, a, cell, v, ⟨h1, h2, h3, h4, h5⟩, h6⟩ := h
  obtain ⟨k', g1, g2⟩ := State.fieldFound?_setVm hvm h2
  exact ⟨k0, k', i, f, a, cell, v, ⟨by rw [hvm.findClass]; exact h1, g1, h3, by rw [g2]; exact h4, by rw [g2]; exact h5⟩, h6⟩
theorem zSt.kept {n d : String} {U : State} {H H1 : Heap} (h : zSt n d A U H) (hq : ∀ a : Nat, a < H.size → ¬ A a → H1[a]? = H[a]?) : zSt n d A U H1 := by
  obtain ⟨k0, k, i, f, a, cell, v, h1, h2, h3, h4⟩ := h
  exact ⟨k0, k, i, f, a, cell, v, h1, by rw [hq a (Array.getElem?_eq_some_iff.mp h2).1 h4]; exact h2, h3, h4⟩
theorem zSt.narrow {n d : String} {B : Nat → Prop} {U : State} {H : Heap} (h : zSt n d A U H) (hAB : ∀ q, B q → A q) : zSt n d B U H := by
  obtain ⟨k0, k, i, f, a, cell, v, h1, h2, h3, h4⟩ := h
  exact ⟨k0, k, i, f, a, cell, v, h1, h2, h3, fun z => h4 (hAB _ z)⟩
theorem zSt.lays {n d : String} {U : State} {a9 : Array Value} (h : zSt n d A U U.heap) : (Cond.laysStatic Bundle.tN n d).before a9 U = true := by
  obtain ⟨k0, k, i, f, a, cell, v, ⟨h1, h2, h3, h4, h5⟩, h6, ⟨g1, g2, g3, g4, g5⟩, -⟩ := h
  show (Cond.laysStatic Bundle.tN n d).holds a9 U none U [] = true
  exact Cond.laysStatic_of h1 h2 h3 h4 h6 g1 g2 g3 h5
theorem zSt.isR {n d : String} {U : State} {a9 : Array Value} (h : zSt n d A U U.heap) : (Cond.isRef (.static Bundle.tN n d)).before a9 U = true := by
  obtain ⟨k0, k, i, f, a, cell, v, ⟨h1, h2, h3, h4, h5⟩, h6, ⟨g1, g2, g3, g4, g5⟩, -⟩ := h
  have he : (Term.static Bundle.tN n d).eval a9 U none [] U = some v := by
    simp [Term.eval, State.fieldNamed?, h2, h3, h4, h6, g1, g4]
  simp only [Cond.before, Cond.holds, Cond.value, he]
  cases v <;> simp_all [Value.isRef]
theorem zSt.of {n d : String} {U : State} {a9 : Array Value} (hl : (Cond.laysStatic Bundle.tN n d).before a9 U = true) (hr : (Cond.isRef (.static Bundle.tN n d)).before a9 U = true) (hA : ∀ a : Nat, a < U.heap.size → ¬ A a) : zSt n d A U U.heap := by
  obtain ⟨k0, k, i, f, a, cell, h1, h2, h3, h4, h5, h6, h7, h8, h9⟩ := Cond.laysStatic_spec hl
  obtain ⟨u, hu⟩ := Cond.staticRefV h2 h3 h4 h5 h6 hr
  refine ⟨k0, k, i, f, a, cell, u.v, ⟨h1, h2, h3, h4, h9⟩, h5, ⟨h6, h7, h8, hu, ?_⟩, hA a (Array.getElem?_eq_some_iff.mp h5).1⟩
  exact u.ok
/-- the texts that the class throws with: entry and text -/
def zSL : List (Nat × String) := [(40, "a byte is not 33 .. 126"), (50, "the text would have more than 48 characters"), (64, "a RULE is 0 .. 5"), (76, "the text can't be read"), (91, "the RULE is none"), (101, "a SITE is 0 .. 7, a THREAD 0 .. 3"), (107, "what is handed over is -1000.0 .. 1000.0"), (124, "THE TIME goes on by 1 .. 100"), (129, "a variable is 0 .. 5"), (131, "a THREAD is 0 .. 3"), (137, "a GATHERER is 0 .. 2, what is 0 .. 3"), (149, "the GATHERER has no such KEY"), (154, "a GATHERER is 0 .. 2, a BIN 0 .. 7, all are 8"), (172, "there is no RECORD")]
def zDL : List MethodName := [Bundle.initS "java/lang/RuntimeException", Bundle.initS "java/lang/Exception", Bundle.initS Bundle.tN]
/-- what a throw needs: Throwable's two statics, the texts, the constructors above -/
def zTh (A : Nat → Prop) (U : State) (H : Heap) : Prop := zSt "UNASSIGNED_STACK" Bundle.steD A U H ∧ zSt "SUPPRESSED_SENTINEL" Bundle.listD A U H ∧ (∀ q ∈ zSL, ∃ a : Nat, vk_R R_Tr q.1 q.2 a U) ∧ ∀ y ∈ zDL, va_Nw (.declares y) U
theorem zTh.moved {u U : State} {H : Heap} (hW : u.WarmedH U.vm) (h : zTh A u H) : zTh A U H := ⟨zSt.moved hW.alike h.1, zSt.moved hW.alike h.2.1, fun q hq => by
  obtain ⟨a, ha⟩ := h.2.2.1 q hq
  exact ⟨a, vk_R.warm hW ha⟩, fun y hy => va_Nw.warmD hW (h.2.2.2 y hy)⟩
theorem zTh.same {u U : State} {H : Heap} (hv : u.vm = U.vm) (h : zTh A u H) : zTh A U H := ⟨zSt.moved (by rw [hv]; exact Vm.Alike.refl U.vm) h.1, zSt.moved (by rw [hv]; exact Vm.Alike.refl U.vm) h.2.1, fun q hq => by
  obtain ⟨a, ha⟩ := h.2.2.1 q hq
  exact ⟨a, vk_R.same hv.symm ha⟩, fun y hy => va_tabs rfl hv (h.2.2.2 y hy)⟩
theorem zTh.kept {U : State} {H H1 : Heap} (h : zTh A U H) (hq : ∀ a : Nat, a < H.size → ¬ A a → H1[a]? = H[a]?) : zTh A U H1 := ⟨h.1.kept hq, h.2.1.kept hq, h.2.2⟩
theorem zTh.narrow {B : Nat → Prop} {U : State} {H : Heap} (h : zTh A U H) (hAB : ∀ q, B q → A q) : zTh B U H := ⟨h.1.narrow hAB, h.2.1.narrow hAB, h.2.2⟩
/-- the words of a throw that speak of the heap -/
def zHW : List Cond := [.isRef (.static Bundle.tN "UNASSIGNED_STACK" Bundle.steD), .isRef (.static Bundle.tN "SUPPRESSED_SENTINEL" Bundle.listD), .laysStatic Bundle.tN "UNASSIGNED_STACK" Bundle.steD, .laysStatic Bundle.tN "SUPPRESSED_SENTINEL" Bundle.listD, .declares (Bundle.initS "java/lang/RuntimeException"), .declares (Bundle.initS "java/lang/Exception"), .declares (Bundle.initS Bundle.tN)]
theorem zTh.words {U : State} {a9 : Array Value} (h : zTh A U U.heap) : ∀ w ∈ zHW, w.before a9 U = true := by
  intro w hw
  simp only [zHW, List.mem_cons, List.not_mem_nil, or_false] at hw
  rcases hw with rfl | rfl | rfl | rfl | rfl | rfl | rfl
  · exact h.1.isR
  · exact h.2.1.isR
  · exact h.1.lays
  · exact h.2.1.lays
  · exact va_Nw.use rfl (h.2.2.2 _ (by simp [zDL]))
  · exact va_Nw.use rfl (h.2.2.2 _ (by simp [zDL]))
  · exact va_Nw.use rfl (h.2.2.2 _ (by simp [zDL]))
/-- the same frame over the heap as it is now, as if the method began here -/
theorem z_anew {T : State} (X : Stand p l e R s m args below meth c T locs cells slots) {R2 : Room} (hf : R2.frames ≤ R.frames) (hl : R2.locals ≤ R.locals) (hc : cells + R2.cells ≤ R.cells) (hs : slots + R2.slots ≤ R.slots) :
    Stand p l e R2 ((T.setVm s.vm).setFrames (.invoking m args :: below)) m args below meth c T [] 0 0 := by
  have htop : (T.setVm s.vm).topJava?.isSome := X.here.top
  have hfr : ((T.setVm s.vm).setFrames (.invoking m args :: below)).frames = .invoking m args :: below := State.frames_setFrames _ (State.cur_lt_of_top htop)
  have hlim : e.platform.stackLimits (T.setVm s.vm).me = e.platform.stackLimits s.me := X.limits
  have hby : (T.setVm s.vm).me.stackBytes = s.me.stackBytes := X.bytes
  have hdrop : T.heap.toList.drop T.heap.size = [] := List.drop_eq_nil_of_le (Nat.le_of_eq Array.length_toList)
  refine { admits := X.admits, cas := X.cas, clock := X.clock, frames := hfr, room := ?_, hears := X.hears, method := X.method, code := X.code, here := X.here, tail := X.tail, warmed := X.warmed, limits := ?_, bytes := ?_, same := ?_ }
  · have h := X.room
    have hu : ((T.setVm s.vm).setFrames (.invoking m args :: below)).localsInUse = s.localsInUse := by
      rw [State.localsInUse_invoking hfr (meth := meth) (c := c) X.method X.code, State.localsInUse_invoking X.frames X.method X.code]
    have z1 : T.heap.size ≤ s.heap.size + cells := X.heapSize
    have z2 : T.slotsUsed ≤ s.slotsUsed + slots := X.used
    simp only [State.hasRoom, Bool.and_eq_true, decide_eq_true_eq] at h ⊢
    obtain ⟨⟨⟨⟨a1, a2, a3, a4, a5, a6⟩, a7⟩, a8⟩, -⟩ := h
    rw [X.frames, List.length_cons] at a2 a3
    simp only [hfr, hu, List.length_cons, State.stackLimits_setFrames, State.stackBytes_setFrames, hlim, hby]
    refine ⟨⟨⟨⟨by omega, by omega, by omega, by omega, by omega, a6⟩, ?_⟩, ?_⟩, X.book⟩
    · show T.heap.size + R2.cells ≤ e.platform.maxCells
      omega
    · show T.slotsUsed + R2.slots ≤ e.platform.maxSlots
      omega
  · rw [State.stackLimits_setFrames]; rfl
  · rw [State.stackBytes_setFrames]; rfl
  · refine ⟨?_, Nat.le_refl _, Nat.le_refl _, ?_, ?_, fun a c9 h9 => ⟨c9, h9, rfl, rfl, fun _ _ => rfl⟩⟩
    · obtain ⟨g₀, hg0⟩ := Option.isSome_iff_exists.mp htop
      obtain ⟨r, hr⟩ := State.topJava?_eq_some.mp hg0
      obtain ⟨t, ht, -⟩ := State.frames_cons hr
      show T.setVm s.vm = { ((T.setVm s.vm).setFrames (.invoking m args :: below)).setFrames (T.setVm s.vm).frames with heap := T.heap, slotsUsed := T.slotsUsed }
      rw [State.setFrames_setFrames, State.setFrames_self ht]
      rfl
    · show T.slotsUsed = T.slotsUsed + ((T.heap.toList.drop T.heap.size).map (·.slots.size)).sum
      rw [hdrop]; rfl
    · show ((T.heap.toList.drop T.heap.size).map (·.slots.size)).sum ≤ 0
      rw [hdrop]; exact Nat.le_refl _
/-- nothing written: the old cells are as they were -/
theorem z_oldcells {U : State} {k n : Nat} (h : s.sameButNew ({ U with vm := s.vm } : State) [] k n) : s.heap.size ≤ U.heap.size ∧ ∀ q : Nat, q < s.heap.size → U.heap[q]? = s.heap[q]? := by
  obtain ⟨-, h2, -, -, -, h6⟩ := h
  refine ⟨h2, fun q hq => ?_⟩
  obtain ⟨c9, e1, e2, e3, e4⟩ := h6 q _ (Array.getElem?_eq_getElem hq)
  have hs : c9.slots = (s.heap[q]).slots := Array.ext_getElem? fun i => e4 i (fun hm => nomatch hm)
  have h9 : c9 = s.heap[q] := by
    rw [hs] at e2
    exact e2
  have e5 : U.heap[q]? = some c9 := e1
  rw [e5, h9, Array.getElem?_eq_getElem hq]
/-- how a method that may throw ends -/
def zXo {S : Type} (Qc : Array Value → State → Outcome → State → Prop) (D : va_G) (cl : List vw_C) (tys : List (ClassId × FieldType)) (w : S → va_W) (px : String → S → Prop) (A : Nat → Prop) (mc ms : Nat) : Array Value → State → Outcome → State → Prop := fun a st o t =>
  (Qc a st o t ∧ ∃ L, FrameEnd st o t L mc ms ∧ ∀ q ∈ L, A q.base) ∨
  ∃ (q : Addr) (E : String) (u : S) (ce : Cell) (L : List Loc), o = .threw q ∧ px E u ∧ zB D cl tys w A u t ∧ va_F A st t ∧ t.heap[q]? = some ce ∧ ce.vm = .none ∧ st.vm.findClass E = some ce.cls ∧ st.WarmedH t.vm ∧ st.sameButNew ({ t with vm := st.vm } : State) L mc ms ∧ ∀ z ∈ L, A z.base
def zXQ {S : Type} (below : List Frame) (Qc : Array Value → State → Outcome → State → Prop) (D : va_G) (cl : List vw_C) (tys : List (ClassId × FieldType)) (w : S → va_W) (px : String → S → Prop) (A : Nat → Prop) (mc ms : Nat) (a : Array Value) (s : State) : State → Prop := fun t => ∃ o, t.status = .running ∧ Ended t below o ∧ zXo Qc D cl tys w px A mc ms a s o t
theorem z_xret {S : Type} {w : S → va_W} {px : String → S → Prop} {Qc : Array Value → State → Outcome → State → Prop} {mc ms : Nat} (k : zW p l e R s m args below meth c D cl A nL cells slots (MQ below Qc args s mc ms A) lv ws pc st) : zW p l e R s m args below meth c D cl A nL cells slots (zXQ below Qc D cl tys w px A mc ms args s) lv ws pc st := fun ls H locs hl hP hD hS T hT X => by
  obtain ⟨t, a1, o, b1, b2, b3, b4⟩ := k ls H locs hl hP hD hS T hT X
  exact ⟨t, a1, o, b1, b2, Or.inl ⟨b3, b4⟩⟩
/-- the words of 'throw new X(text)': X's constructor hands on to Y's by its entry ix, Y's and the rest's as the chain has it -/
def zAt (own : String) (ic : Nat) (X : String) (ix : Nat) (rx : ByteArray) (Y : String) (names : List String) : List Cond :=
  (Bundle.throwableAtoms ++ Bundle.throwableSAtoms) ++ ((Bundle.passSAtoms X Y ix rx ++ Bundle.chainSAtoms Y names) ++
  [.methodLink own ic (Bundle.initS X), .instantiable X 6, .selects X Bundle.tFill0 Bundle.tFill0, .selects X Bundle.tFill Bundle.tFill,
   .lays X Bundle.tN "cause" "Ljava/lang/Throwable;", .lays X Bundle.tN "stackTrace" Bundle.steD, .lays X Bundle.tN "suppressedExceptions" Bundle.listD, .lays X Bundle.tN "detailMessage" "Ljava/lang/String;",
   .isRef (.static Bundle.tN "UNASSIGNED_STACK" Bundle.steD), .isRef (.static Bundle.tN "SUPPRESSED_SENTINEL" Bundle.listD),
   .fieldLink Bundle.tN 198 Bundle.tN "backtrace" "Ljava/lang/Object;", .lays Bundle.tN Bundle.tN "backtrace" "Ljava/lang/Object;", .lays X Bundle.tN "backtrace" "Ljava/lang/Object;"])
set_option maxHeartbeats 1000000 in
/-- X's constructor with a text, on a fresh cell, and athrow: the method is left by it; nothing old is written -/
theorem z_ctorThrow {T0 : State} (X : Stand p l e R s m args below meth c T0 [] cells slots) (hexec : p.tables.exec = Jvm.exec) (htr : e.platform.stackTraces = false) {own cls Y : String} {names : List String} {ic ix : Nat} {rx : ByteArray}
    (x0 : decode rx 0 = .ok (.aload_n 0, 1)) (x1 : decode rx 1 = .ok (.aload_n 1, 1)) (x2 : decode rx 2 = .ok (.invokespecial ix, 3)) (x5 : decode rx 5 = .ok (.return_, 1))
    (hown : s.vm.findClass own = some m.cls) (hcls : Bundle.fit cls = true) (hY : Bundle.fit Y = true) (hnames : ∀ n ∈ names, Bundle.fit n = true) (h : ∀ a ∈ zAt own ic cls ix rx Y names, a.before args s = true)
    {a : Addr} {cX : ClassId} {kX : Class} (hfX : s.vm.findClass cls = some cX) (hkX : s.vm.classes[cX]? = some kX) (hcell : T0.heap[a]? = some (freshCell cX kX)) (hnew : s.heap.size ≤ a) {msg : Value} (hmsg : msg.isRef = true)
    {g : JFrame} (hg : g.method = m) (hsize : g.locals.size = c.maxLocals) (hlocked : g.locked = none) (hentered : g.entered = []) {rest : List Value} (hstack : g.stack = msg :: .ref a :: .ref a :: rest)
    (hd6 : decode c.code g.pc = .ok (.invokespecial ic, 3)) (hd9 : decode c.code (g.pc + 3) = .ok (.athrow, 1)) (hout : ∀ x ∈ c.exceptionTable.toList, covers x (g.pc + 3) = false)
    (hfr : names.length + 4 < R.frames) (hlo : 2 * g.monitorRoom + ((Value.ref a :: rest).map fun v => v.category).sum + (13 * (names.length + 2) + 42) ≤ R.locals) (hlocks : meth.locks = false) :
    ∃ U : State, Steps p.tables e below (T0.setTop g) U ∧ U.status = .running ∧ Ended U below (.threw a) ∧ s.WarmedH U.vm ∧ s.sameButNew ({ U with vm := s.vm } : State) [] cells slots ∧ ∃ ce : Cell, U.heap[a]? = some ce ∧ ce.vm = .none ∧ s.vm.findClass cls = some ce.cls := by
  have hpl : e.platform.magicAccessors = ({} : Platform).magicAccessors := by rw [X.admits.platform]
  have hA : ∀ w, w ∈ Bundle.throwableAtoms ++ Bundle.throwableSAtoms → w.before args s = true := fun w hw => h w (List.mem_append_left _ hw)
  have hB : ∀ w, w ∈ Bundle.passSAtoms cls Y ix rx → w.before args s = true := fun w hw => h w (List.mem_append_right _ (List.mem_append_left _ (List.mem_append_left _ hw)))
  have hC : ∀ w, w ∈ Bundle.chainSAtoms Y names → w.before args s = true := fun w hw => h w (List.mem_append_right _ (List.mem_append_left _ (List.mem_append_right _ hw)))
  have hE := fun w hw => h w (List.mem_append_right _ (List.mem_append_right _ hw))
  obtain ⟨Th, Z0, L, -, Ti⟩ := ThrowableC.of_atoms (args := args) (show e.platform.frameOwnsMonitors = true by rw [X.admits.platform]) (show e.platform.finalization = false by rw [X.admits.platform]) hpl (fun w hw => hA w (List.mem_append_left _ hw))
  obtain ⟨Z, M, LZ, LM, hnZ⟩ := Init0T.ofS_atoms (args := args) hpl L Ti (fun w hw => hA w (List.mem_append_right _ hw))
  obtain ⟨P1, L1, hP1m, hP1s⟩ := PassC.ofS_atoms (args := args) (s := s) hpl (X := cls) (Y := Y) (Bundle.fit_spec hcls).1 (Bundle.fit_spec hY).2 x0 x1 x2 x5 hB
  obtain ⟨P2, Ps, hlen, L2, hL, hP2m, hlink2, hlink⟩ := Bundle.chainS (args := args) hpl hnZ names Y hY hnames hC
  have hlink1 : P1.sup = P2.m := Option.some.inj (hP1s.symm.trans hP2m)
  have hfound : s.vm.findClass cls = some P1.m.cls := findClass_of_methodNamed hP1m
  cases Option.some.inj (hfX.symm.trans hfound)
  obtain ⟨c1, kY, hc1, hk, hord, -, -, hn6⟩ := Cond.instantiable_spec (hE (.instantiable cls 6) (by simp))
  cases Option.some.inj (hc1.symm.trans hfound)
  cases Option.some.inj (hkX.symm.trans hk)
  have hsel : ∀ {y : MethodName} {id : MethodId}, (Cond.selects cls y y).before args s = true → s.methodNamed? y = some id → (y.cls ≠ "java/lang/invoke/MethodHandle" ∧ y.cls ≠ "java/lang/invoke/VarHandle") → selectMethod e.platform s.vm P1.m.cls id = .method id := by
    intro y id hs hn hy
    obtain ⟨c2, r2, m2, q1, q2, q3, q4, -⟩ := Cond.selects_spec hs
    cases Option.some.inj (q1.symm.trans hfound)
    cases Option.some.inj (q2.symm.trans (State.methodFound?_of_named hn hy))
    cases Option.some.inj (q3.symm.trans hn)
    rw [Launch.admits_selectMethod X.admits]; exact q4
  have hsel0 := hsel (hE (.selects cls Bundle.tFill0 Bundle.tFill0) (by simp)) Ti.fill0 (by decide)
  have hselF := hsel (hE (.selects cls Bundle.tFill Bundle.tFill) (by simp)) Ti.fill (by decide)
  obtain ⟨cellS0, hcS0, hiss⟩ := Ti.statics
  obtain ⟨u0, hu0⟩ := Cond.staticRefV Ti.unassigned L.unassignedStatic L.statics hcS0 hiss (hE (.isRef (.static Bundle.tN "UNASSIGNED_STACK" Bundle.steD)) (by simp))
  obtain ⟨sen, hsen⟩ := Cond.staticRefV Ti.sentinel L.sentinelStatic L.statics hcS0 hiss (hE (.isRef (.static Bundle.tN "SUPPRESSED_SENTINEL" Bundle.listD)) (by simp))
  obtain ⟨ci198, i198, fB, hk198, hg198, ha198, hsB, -, hnB, htB, hffB⟩ := Cond.ownField (t := .object "java/lang/Object") Ti.found L.cls (by decide +kernel) (hE (.fieldLink Bundle.tN 198 Bundle.tN "backtrace" "Ljava/lang/Object;") (by simp)) (hE (.lays Bundle.tN Bundle.tN "backtrace" "Ljava/lang/Object;") (by simp)) e.platform hpl
  obtain ⟨cellS, hcellS, heS, -, hkeep⟩ := X.same.2.2.2.2.2 Th.aS cellS0 hcS0
  have hcellS : T0.heap[Th.aS]? = some cellS := hcellS
  have hknS : cellS.vm ≠ .unknown := by
    rw [heS]; intro hu
    rw [show cellS0.vm = .unknown from hu] at hiss
    cases hiss
  have hneS : Th.aS ≠ a := Nat.ne_of_lt (Nat.lt_of_lt_of_le (Array.getElem?_eq_some_iff.mp hcS0).1 hnew)
  obtain ⟨iM, hffM⟩ := Ti.msg
  obtain ⟨tyC, dC, hdC, hdnC⟩ := Cond.laysAt hfound hk Ti.cause (hE (.lays cls Bundle.tN "cause" "Ljava/lang/Throwable;") (by simp))
  obtain ⟨tyS, dS, hdS, hdnS⟩ := Cond.laysAt hfound hk Ti.stack (hE (.lays cls Bundle.tN "stackTrace" Bundle.steD) (by simp))
  obtain ⟨tyP, dP, hdP, hdnP⟩ := Cond.laysAt hfound hk Ti.supp (hE (.lays cls Bundle.tN "suppressedExceptions" Bundle.listD) (by simp))
  obtain ⟨tyM, dM, hdM, hdnM⟩ := Cond.laysAt hfound hk hffM (hE (.lays cls Bundle.tN "detailMessage" "Ljava/lang/String;") (by simp))
  obtain ⟨tyB, dB, hdB, hdnB⟩ := Cond.laysAt hfound hk hffB (hE (.lays cls Bundle.tN "backtrace" "Ljava/lang/Object;") (by simp))
  have bC := Cond.laysApart hdB hdC hdnB hdnC (by rw [hnB, Ti.causeName]; decide)
  have bS := Cond.laysApart hdB hdS hdnB hdnS (by rw [hnB, Ti.stackName]; decide)
  have bP := Cond.laysApart hdB hdP hdnB hdnP (by rw [hnB, Ti.suppName]; decide)
  have hskip : SkipFacts Th e.platform s (fun u => u) u0 ((preparedCellV Th.toThrowableT (freshCell P1.m.cls kX) a u0 sen).withEntry T0.cur) :=
    ⟨{ ci198 := ci198, i198 := i198, fBack := fB }, ⟨hk198, hg198, ha198, hsB⟩, by
      have := fresh_default (c := P1.m.cls) tyB
      rw [htB] at this
      simpa [preparedCellV, Cell.setSlot, Cell.withEntry, Array.getElem?_setIfInBounds, bC, bS, bP, bC.symm, bS.symm, bP.symm, defaultValue] using this, fun _ _ => rfl⟩
  obtain ⟨tm, methC, cdC, kC, vm₁, hnC, -, -, -, -, -, -, -, hW₁, st1⟩ := Steps.initColdS (tb := p.tables) (e := e) (below := below) (s := s) (U := T0) X.here hexec X.warmed hpl hown (t := Bundle.initS cls) rfl rfl (Bundle.fit_spec hcls).2
    (hE (.methodLink own ic (Bundle.initS cls)) (by simp)) (hB (.instanceMethod (Bundle.initS cls)) (by simp [Bundle.passSAtoms])) (bytes := rx) (maxL := 2) (hB (.code (Bundle.initS cls) rx 2 none) (by simp [Bundle.passSAtoms]))
    (f := g) hg (a := a) (msg := msg) (rest := .ref a :: rest) hstack hd6
  cases Option.some.inj (hnC.symm.trans hP1m)
  have X₁ := X.noted hW₁
  obtain ⟨vm₂, X₂, st2⟩ := X₁.ctorMessageOffV hexec (g := { g with stack := .ref a :: rest }) hg hsize Th L Z LZ M LM (P1 :: P2 :: Ps)
    (fun P hP => by
      rcases List.mem_cons.mp hP with rfl | hP
      · exact L1
      · rcases List.mem_cons.mp hP with rfl | hP
        · exact L2
        · exact hL P hP) ⟨hlink1, hlink2, hlink⟩ (u0 := u0) (sen := sen) (self := a) hmsg (cell := freshCell P1.m.cls kX) (cellS := cellS)
    hcell (fun _ => by simp) (by simp) rfl rfl hsel0 hselF hcellS hneS hknS (by rw [hkeep _ (fun hm => nomatch hm)]; exact hu0) (by rw [hkeep _ (fun hm => nomatch hm)]; exact hsen)
    (Takes.of_laid hk hord tyC (by rw [Ti.causeType]; rfl)) (Takes.of_laid hk hord tyS (by rw [Ti.stackType]; exact fits_refV_array _ u0)) (Takes.of_laid hk hord tyP (by rw [Ti.suppType]; exact fits_refV_object _ sen))
    (Takes.of_laid hk hord tyM (by rw [Ti.msgType]; exact fits_refV_object _ ⟨msg, hmsg⟩)) Ti.objLocals hskip htr [] hd6
    (by simp only [List.length_cons, hlen]; omega) (by simp only [List.length_cons, hlen]; exact hlo)
  obtain ⟨hwalk, hrun, hended, hWU, hsame⟩ := X₂.athrowLeaves hexec (g := { g with stack := .ref a :: rest, pc := g.pc + 3 }) hg hlocked hentered hout (a := a) (rest := rest) rfl hd9
  have hlt : a < ((T0.setVm vm₁).setVm vm₂).heap.size := (Array.getElem?_eq_some_iff.mp hcell).1
  have hU := heapAt_setCell_self (s := (T0.setVm vm₁).setVm vm₂) (plainBareV Th.toThrowableT (freshCell P1.m.cls kX) a u0 sen msg) hlt
  refine ⟨_, st1 _ (fun acts => ?_), hrun, hended, hWU, hsame.weaken (fun y hy hlt' => ?_) (Nat.le_refl _) (Nat.le_refl _), _, hU, rfl, hfound⟩
  · rw [doInvoke_state]
    exact st2 _ hwalk
  · exfalso
    have hb : y.base = a := by
      simp only [List.nil_append, List.mem_cons, List.not_mem_nil, or_false] at hy
      rcases hy with rfl | rfl | rfl | rfl | rfl <;> rfl
    rw [hb] at hlt'
    exact Nat.not_lt.mpr hnew hlt'
/-- throw new E("text") -/
theorem z_throw (C : zCx p s m args c cc nL own Ts D cl tys A) (hl : l.stackTraces = false) (hth : zTh A s s.heap) (het : c.exceptionTable.isEmpty = true) (hlk : meth.locks = false) (hoT : own = R_Tr) {S : Type} {w : S → va_W} {px : String → S → Prop} {Qc : Array Value → State → Outcome → State → Prop} {cls text Y : String} {names : List String} {ik is ic ix mc ms : Nat} {rx : ByteArray} (x0 : decode rx 0 = .ok (.aload_n 0, 1)) (x1 : decode rx 1 = .ok (.aload_n 1, 1)) (x2 : decode rx 2 = .ok (.invokespecial ix, 3)) (x5 : decode rx 5 = .ok (.return_, 1))
    (hcls : Bundle.fit cls = true) (hY : Bundle.fit Y = true) (hnames : ∀ n ∈ names, Bundle.fit n = true) (hk : Cond.classLink own ik cls ∈ Ts) (hini : Cond.initialized cls ∈ Ts) (hstr : (is, text) ∈ zSL) (hon : ∀ w ∈ zAt own ic cls ix rx Y names, w ∈ Ts ∨ w ∈ zHW) (hTs : ∀ w ∈ Ts, goodWord w = true)
    (d0 : decode cc pc = .ok (.new ik, 3)) (d3 : decode cc (pc + 3) = .ok (.dup, 1)) (d4 : decode cc (pc + 4) = .ok (.ldc is, 2)) (d6 : decode cc (pc + 6) = .ok (.invokespecial ic, 3)) (d9 : decode cc (pc + 9) = .ok (.athrow, 1))
    (hfr : names.length + 4 < R.frames) (hlo : (st.map fun v => v.category).sum + (13 * (names.length + 2) + 43) ≤ R.locals) (hRc : cells + 1 ≤ R.cells) (hRs : slots + 6 ≤ R.slots) (hmc : cells + 1 ≤ mc) (hms : slots + 6 ≤ ms)
    (u : S) (hu : w u = ws) (hpx : px cls u) : zW p l e R s m args below meth c D cl A nL cells slots (zXQ below Qc D cl tys w px A mc ms args s) lv ws pc st := fun ls H locs hlv hP hD hS T hT X => by
  obtain ⟨hx, hb, hml, hown, hts, hKN, hA⟩ := C
  have htr : e.platform.stackTraces = false := (show e.platform.stackTraces = l.stackTraces by rw [X.admits.platform]).trans hl
  have Ya := z_anew X (R2 := { frames := R.frames, locals := R.locals, cells := 1, slots := 6 }) (Nat.le_refl _) (Nat.le_refl _) hRc hRs
  obtain ⟨s2, hs2⟩ : ∃ z, z = (T.setVm s.vm).setFrames (.invoking m args :: below) := ⟨_, rfl⟩
  rw [← hs2] at Ya
  have hvm : s.vm = s2.vm := by rw [hs2]; rfl
  have hhp : s2.heap = H := by rw [hs2]; exact hT
  have hW0 : s.WarmedH s2.vm := by rw [← hvm]; exact State.WarmedH.refl s
  have hth2 : zTh A s2 s2.heap := by rw [hhp]; exact zTh.same hvm (hth.kept hS.2.1)
  have hgw : ∀ w ∈ Ts, w.before args s2 = true := fun w hw => word_at hW0 (good_of_word (hTs w hw)) (hts w hw)
  have hat : ∀ w ∈ zAt own ic cls ix rx Y names, w.before args s2 = true := fun w hw => (hon w hw).elim (fun h => hgw w h) (fun h => hth2.words w h)
  have hown2 : s2.vm.findClass own = some m.cls := by rw [← hvm]; exact hown
  obtain ⟨sa, hsa⟩ := hth2.2.2.1 _ hstr
  have hsa : vk_R own is text sa s2 := by rw [hoT]; exact hsa
  obtain ⟨vm₁, cX, kX, hfX, hkX, -, -, X₁, st1⟩ := Ya.newCold hx (own := own) (C := cls) (index := ik) (n := 6) hown2 (hgw _ hk) (hat _ (by simp [zAt])) (hgw _ hini) (g := F0 m pc ls st) rfl (by rw [hb]; exact d0) (Nat.le_refl _) (Nat.le_refl _)
  generalize hT1 : (T.setVm vm₁).pushCell { cls := cX, slots := kX.instanceTypes.map defaultValue, vm := .none } = T1 at X₁ st1
  have hcat : (Value.ref T.heap.size).category = 1 := rfl
  have hnew : T1.heap[T.heap.size]? = some (freshCell cX kX) := by rw [← hT1]; exact State.heap_pushCell_size _ _
  have hsz : ls.size = c.maxLocals := hlv.1.trans hml.symm
  have e3 : decode c.code (pc + 3) = .ok (.dup, 1) := by rw [hb]; exact d3
  have e4 : decode c.code (pc + 4) = .ok (.ldc is, 2) := by rw [hb]; exact d4
  have hout : ∀ x ∈ c.exceptionTable.toList, covers x (pc + 9) = false := fun x hx9 => by
    have : c.exceptionTable.toList = [] := by
      have := Array.isEmpty_iff.mp het
      rw [this]
    rw [this] at hx9; cases hx9
  obtain ⟨U, hsteps, hrun, hend, hW, hsame, ce, hce, hOv, hOc⟩ := z_ctorThrow X₁ hx htr (own := own) (cls := cls) (names := names) (ic := ic) x0 x1 x2 x5 hown2 hcls hY hnames hat hfX hkX hnew (by rw [hhp, hT]; exact Nat.le_refl _) (msg := .ref sa) rfl
    (g := { method := m, pc := pc + 6, locals := ls, stack := .ref sa :: .ref T.heap.size :: .ref T.heap.size :: st, locked := none }) rfl hsz rfl rfl (rest := st) rfl
    (by rw [hb]; exact d6) (by rw [hb]; exact d9) hout hfr (by simp only [List.map_cons, List.sum_cons, hcat]; omega) hlk
  obtain ⟨f1, f2⟩ := z_oldcells hsame
  rw [hhp] at f1 f2
  have hWs : s.WarmedH U.vm := State.WarmedH.trans hW0 hW
  have hcl : s.vm.findClass cls = some ce.cls := by
    rw [← hvm] at hOc
    exact hOc
  have hall : s.sameButNew ({ U with vm := s.vm } : State) locs mc ms := by
    subst hs2
    obtain ⟨e1, e2⟩ := hsame
    rw [State.setFrames_setFrames] at e1
    have h2 : (T.setVm s.vm).sameButNew ({ U with vm := s.vm } : State) [] (0 + 1) (0 + 6) := ⟨e1, e2⟩
    have h3 := X.same.trans h2
    rw [List.append_nil] at h3
    exact h3.mono hmc hms
  refine ⟨U, ?_, .threw T.heap.size, hrun, hend, Or.inr ⟨T.heap.size, cls, u, ce, locs, rfl, hpx, ⟨by rw [hu]; exact hP.kept (fun k q hq => f2 q.1 (hP k q hq).lt), va_K.moved hWs.alike hKN.1, by rw [hu]; exact hD⟩, ⟨Nat.le_trans hS.1 f1, fun q h1 h2 => by rw [f2 q (Nat.lt_of_lt_of_le h1 hS.1)]; exact hS.2.1 q h1 h2⟩, hce, hOv, hcl, hWs, hall, hS.2.2⟩⟩
  refine st1 _ ?_
  show Steps p.tables e below (T1.setTop { method := m, pc := pc + 3, locals := ls, stack := .ref T.heap.size :: st, locked := none }) _
  jvm_step X₁.here [X₁.here.top, hx, e3, Value.category]
  exact X₁.ldcString hx (own := own) (text := text) (index := is) (a := sa) hown2 hsa.1 hsa.2
    (g := { method := m, pc := pc + 4, locals := ls, stack := .ref T.heap.size :: .ref T.heap.size :: st, locked := none }) rfl e4 _ hsteps
def zPreT (D : va_G) (cl : List vw_C) (tys : List (ClassId × FieldType)) (av : List Value) (w0 : va_W) (sz : Nat) : Array Value → State → Prop := va_Pc av (fun U => U.heap.size = sz ∧ va_P D cl w0 U.heap ∧ ((va_K D cl tys U ∧ zNs U) ∧ zTh (va_A w0 sz) U U.heap) ∧ va_D (fun _ => True) w0)
theorem z_blindT {av : List Value} {w0 : va_W} {sz : Nat} : FrameBlind (zPreT D cl tys av w0 sz) := fun a U g mk q => by
  obtain ⟨q0, q1, qP, qK, qD⟩ := q
  exact ⟨q0, q1, qP, ⟨⟨va_K.moved (u := U) (U := U.calling g mk a) (Vm.Alike.refl U.vm) qK.1.1, zNs.same (U := U.calling g mk a) rfl qK.1.2⟩, zTh.same (U := U.calling g mk a) rfl qK.2⟩, qD⟩
/-- a contract of a method that returns or throws -/
def zXi (l : Launch) (y : MethodName) (wy : List Cond) (rm : Room) (D : va_G) (cl : List vw_C) (tys : List (ClassId × FieldType)) (av : List Value) (w0 : va_W) {S : Type} (w : S → va_W) (post : Int32 → S → Prop) (px : String → S → Prop) (mc ms : Nat) : Prop :=
  ∀ sz : Nat, MetFree l y (headSpec wy rm) (zPreT D cl tys av w0 sz) (fun _ _ _ _ _ => True) (zXo (va_Qi post (zB D cl tys w (va_A w0 sz)) (va_A w0 sz)) D cl tys w px (va_A w0 sz) mc ms)
theorem z_metxi {y : MethodName} {wy wy' : List Cond} {rm : Room} {maxL : Nat} {ret : Option FieldType} {av : List Value} {w0 : va_W} {S : Type} {w : S → va_W} {post : Int32 → S → Prop} {px : String → S → Prop} {mc ms : Nat} (hy : plainName y.cls = true) (hw : wy = Cond.code y cc maxL ret :: wy') (ha : (lg_sl av).length ≤ maxL)
    (body : ∀ (p : Program) (e : Env) (s : State) (m : MethodId) (args : Array Value) (below : List Frame) (meth : Method) (c : Code) (A : Nat → Prop), zCx p s m args c cc maxL y.cls wy' D cl tys A → zTh A s s.heap → c.exceptionTable.isEmpty = true → meth.sig.returnType = ret → meth.locks = false →
      zW p l e (headSpec wy rm).room s m args below meth c D cl A maxL 0 0 (zXQ below (va_Qi post (zB D cl tys w A) A) D cl tys w px A mc ms args s) (lv_args 0 av) w0 0 []) : zXi l y wy rm D cl tys av w0 w post px mc ms := by
  intro sz
  refine MetFree.of_bodyS (code := cc) (maxLocals := maxL) (ret := ret) hy ?_ ?_
  · intro args s m h hn
    obtain ⟨meth, c, h1, h2, h3, h4, h5, h6, -, -⟩ := Cond.code_spec hn (atoms_spec (ws := wy) h _ (by rw [hw]; exact List.mem_cons_self))
    exact ⟨meth, c, h1, h2, h3, h4, h5, h6⟩
  · intro p e s m args below meth c s₁ B hml hv _
    obtain ⟨rfl, hsz, hP, hK, hD0⟩ := hv
    subst hsz
    have hts := atoms_spec (ws := wy) B.pre
    have hown : s.vm.findClass y.cls = some m.cls := findClass_of_methodNamed B.named
    have hD := hD0.self (sz := s.heap.size)
    have hl := lv_entry av (n := maxL) ha
    have hh0 : s₁.heap = s.heap := by rw [B.state]; rfl
    have X0 := Stand.of_body B
    have het : c.exceptionTable.isEmpty = true := by
      obtain ⟨meth9, c9, h1, h2, -, -, -, -, h7, -⟩ := Cond.code_spec B.named (hts _ (by rw [hw]; exact List.mem_cons_self))
      cases Option.some.inj (h1.symm.trans B.method)
      cases Option.some.inj (h2.symm.trans X0.code)
      exact h7
    have K9 := body p e s m _ below meth c _ ⟨B.exec, B.bytes, hml, hown, fun w h => hts w (by rw [hw]; exact List.mem_cons_of_mem _ h), hK.1, fun q h => Or.inr h⟩ hK.2 het B.returns B.notSynchronized _ _ _ hl hP hD va_S.rf s₁ hh0 X0
    rw [lg_entry_eq]
    obtain ⟨t, a1, o, b1, b2, b3⟩ := K9
    exact ⟨t, o, a1, b1, b2, b3⟩
/-- a contract of a method that returns or throws -/
def zXd (l : Launch) (y : MethodName) (wy : List Cond) (rm : Room) (D : va_G) (cl : List vw_C) (tys : List (ClassId × FieldType)) (av : List Value) (w0 : va_W) {S : Type} (w : S → va_W) (post : UInt64 → S → Prop) (px : String → S → Prop) (mc ms : Nat) : Prop :=
  ∀ sz : Nat, MetFree l y (headSpec wy rm) (zPreT D cl tys av w0 sz) (fun _ _ _ _ _ => True) (zXo (va_Qd post (zB D cl tys w (va_A w0 sz)) (va_A w0 sz)) D cl tys w px (va_A w0 sz) mc ms)
theorem z_metxd {y : MethodName} {wy wy' : List Cond} {rm : Room} {maxL : Nat} {ret : Option FieldType} {av : List Value} {w0 : va_W} {S : Type} {w : S → va_W} {post : UInt64 → S → Prop} {px : String → S → Prop} {mc ms : Nat} (hy : plainName y.cls = true) (hw : wy = Cond.code y cc maxL ret :: wy') (ha : (lg_sl av).length ≤ maxL)
    (body : ∀ (p : Program) (e : Env) (s : State) (m : MethodId) (args : Array Value) (below : List Frame) (meth : Method) (c : Code) (A : Nat → Prop), zCx p s m args c cc maxL y.cls wy' D cl tys A → zTh A s s.heap → c.exceptionTable.isEmpty = true → meth.sig.returnType = ret → meth.locks = false →
      zW p l e (headSpec wy rm).room s m args below meth c D cl A maxL 0 0 (zXQ below (va_Qd post (zB D cl tys w A) A) D cl tys w px A mc ms args s) (lv_args 0 av) w0 0 []) : zXd l y wy rm D cl tys av w0 w post px mc ms := by
  intro sz
  refine MetFree.of_bodyS (code := cc) (maxLocals := maxL) (ret := ret) hy ?_ ?_
  · intro args s m h hn
    obtain ⟨meth, c, h1, h2, h3, h4, h5, h6, -, -⟩ := Cond.code_spec hn (atoms_spec (ws := wy) h _ (by rw [hw]; exact List.mem_cons_self))
    exact ⟨meth, c, h1, h2, h3, h4, h5, h6⟩
  · intro p e s m args below meth c s₁ B hml hv _
    obtain ⟨rfl, hsz, hP, hK, hD0⟩ := hv
    subst hsz
    have hts := atoms_spec (ws := wy) B.pre
    have hown : s.vm.findClass y.cls = some m.cls := findClass_of_methodNamed B.named
    have hD := hD0.self (sz := s.heap.size)
    have hl := lv_entry av (n := maxL) ha
    have hh0 : s₁.heap = s.heap := by rw [B.state]; rfl
    have X0 := Stand.of_body B
    have het : c.exceptionTable.isEmpty = true := by
      obtain ⟨meth9, c9, h1, h2, -, -, -, -, h7, -⟩ := Cond.code_spec B.named (hts _ (by rw [hw]; exact List.mem_cons_self))
      cases Option.some.inj (h1.symm.trans B.method)
      cases Option.some.inj (h2.symm.trans X0.code)
      exact h7
    have K9 := body p e s m _ below meth c _ ⟨B.exec, B.bytes, hml, hown, fun w h => hts w (by rw [hw]; exact List.mem_cons_of_mem _ h), hK.1, fun q h => Or.inr h⟩ hK.2 het B.returns B.notSynchronized _ _ _ hl hP hD va_S.rf s₁ hh0 X0
    rw [lg_entry_eq]
    obtain ⟨t, a1, o, b1, b2, b3⟩ := K9
    exact ⟨t, o, a1, b1, b2, b3⟩
end ZTH
/-- the words of a throw of these classes -/
def zEN : List String := ["java/lang/Exception"]
theorem zEN_fit : ∀ n ∈ zEN, Bundle.fit n = true := by decide +kernel
theorem z_gall : ∀ w ∈ zWT, goodWord w = true := fun w h => List.all_eq_true.mp z_gw w h
def n_IAE : String := "java/lang/IllegalArgumentException"
theorem zd_IAE_0 : decode prog_10_method_2_code 0 = .ok (.aload_n 0, 1) := by decide +kernel
theorem zd_IAE_1 : decode prog_10_method_2_code 1 = .ok (.aload_n 1, 1) := by decide +kernel
theorem zd_IAE_2 : decode prog_10_method_2_code 2 = .ok (.invokespecial 7, 3) := by decide +kernel
theorem zd_IAE_5 : decode prog_10_method_2_code 5 = .ok (.return_, 1) := by decide +kernel
theorem zo_IAE : ∀ w ∈ zAt R_Tr 42 n_IAE 7 prog_10_method_2_code "java/lang/RuntimeException" zEN, w ∈ zWT ∨ w ∈ zHW := by decide +kernel
theorem zc_IAE : Cond.classLink R_Tr 38 n_IAE ∈ zWT := by decide +kernel
theorem zi_IAE : Cond.initialized n_IAE ∈ zWT := by decide +kernel
def n_ISE : String := "java/lang/IllegalStateException"
theorem zd_ISE_0 : decode prog_11_method_2_code 0 = .ok (.aload_n 0, 1) := by decide +kernel
theorem zd_ISE_1 : decode prog_11_method_2_code 1 = .ok (.aload_n 1, 1) := by decide +kernel
theorem zd_ISE_2 : decode prog_11_method_2_code 2 = .ok (.invokespecial 7, 3) := by decide +kernel
theorem zd_ISE_5 : decode prog_11_method_2_code 5 = .ok (.return_, 1) := by decide +kernel
theorem zo_ISE : ∀ w ∈ zAt R_Tr 52 n_ISE 7 prog_11_method_2_code "java/lang/RuntimeException" zEN, w ∈ zWT ∨ w ∈ zHW := by decide +kernel
theorem zc_ISE : Cond.classLink R_Tr 48 n_ISE ∈ zWT := by decide +kernel
theorem zi_ISE : Cond.initialized n_ISE ∈ zWT := by decide +kernel
def n_NSE : String := "java/util/NoSuchElementException"
theorem zd_NSE_0 : decode prog_15_method_4_code 0 = .ok (.aload_n 0, 1) := by decide +kernel
theorem zd_NSE_1 : decode prog_15_method_4_code 1 = .ok (.aload_n 1, 1) := by decide +kernel
theorem zd_NSE_2 : decode prog_15_method_4_code 2 = .ok (.invokespecial 13, 3) := by decide +kernel
theorem zd_NSE_5 : decode prog_15_method_4_code 5 = .ok (.return_, 1) := by decide +kernel
theorem zo_NSE : ∀ w ∈ zAt R_Tr 93 n_NSE 13 prog_15_method_4_code "java/lang/RuntimeException" zEN, w ∈ zWT ∨ w ∈ zHW := by decide +kernel
theorem zc_NSE : Cond.classLink R_Tr 89 n_NSE ∈ zWT := by decide +kernel
theorem zi_NSE : Cond.initialized n_NSE ∈ zWT := by decide +kernel
