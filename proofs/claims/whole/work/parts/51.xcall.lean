/-! calls of methods that may throw, from a method with a table; calls of methods that have a table -/
section ZXC
variable {p : Program} {l : Launch} {e : Env} {R : Room} {s : State} {m : MethodId} {args : Array Value} {below : List Frame} {meth : Method} {c : Code} {cells slots : Nat} {Q : State → Prop} {D : va_G} {cl : List vw_C} {tys : List (ClassId × FieldType)} {A : Nat → Prop} {nL : Nat} {cc : ByteArray} {own : String} {Ts : List Cond} {lv : List (Nat × Value)} {ws : va_W} {pc : Nat} {st : List Value}
/-- a callee that returns or throws, out of the frame g: where the caller stands then -/
theorem zx_back {y : MethodName} {wy : List Cond} {rm : Room} {av : List Value} {w0 : va_W} {sz : Nat} {S : Type} {w : S → va_W} {px : String → S → Prop} {Qc : Array Value → State → Outcome → State → Prop} {mc ms maxL : Nat} {bytes : ByteArray} {ret : Option FieldType}
    (hM : MetFree l y (headSpec wy rm) (zPreT D cl tys av w0 sz) (fun _ _ _ _ _ => True) (zXo Qc D cl tys w px (va_A w0 sz) mc ms)) (hrc : rm.cells = mc) (hrs : rm.slots = ms) (hfr : rm.frames + 1 ≤ R.frames) (hlo : 8 + (maxL + 11) + rm.locals ≤ R.locals)
    {U : State} {locs : List Loc} (X : Stand p l e R s m args below meth c U locs cells slots) (hws : ∀ w ∈ wy, w.before av.toArray U = true) (hcode : (Cond.code y bytes maxL ret).before av.toArray U = true) (hini : (Cond.initialized y.cls).before av.toArray U = true)
    (hf : cells + mc ≤ R.cells ∧ slots + ms ≤ R.slots) (hP : zPreT D cl tys av w0 sz av.toArray U) {g : JFrame} {ig : Instr} {mk : MethodId} (hg : g.method = m) (hsize : g.locals.size = c.maxLocals) (hdg : decode c.code g.pc = .ok (ig, 3)) (hW : 2 * g.monitorRoom + (g.stack.map fun v => v.category).sum ≤ 8) (hn : U.methodNamed? y = some mk) :
    (∃ (v : Option Value) (t U2 : State) (L : List Loc), U2.heap = t.heap ∧ U2.vm = t.vm ∧ Stand p l e R s m args below meth c U2 (locs ++ L) (cells + mc) (slots + ms) ∧ (∀ q ∈ L, va_A w0 sz q.base) ∧ Qc av.toArray (U.calling g mk av.toArray) (.returned v) t ∧ Steps p.tables e below (doInvoke e (U.setTop g) [] mk av.toArray).1 (U2.setTop { g with pc := g.pc + 3, stack := v.toList ++ g.stack })) ∨
    (∃ (q : Addr) (E : String) (u : S) (ce : Cell) (t U2 : State) (L : List Loc), U2.heap = t.heap ∧ U2.vm = t.vm ∧ Stand p l e R s m args below meth c U2 (locs ++ L) (cells + mc) (slots + ms) ∧ (∀ z ∈ L, va_A w0 sz z.base) ∧ px E u ∧ zB D cl tys w (va_A w0 sz) u t ∧ va_F (va_A w0 sz) U t ∧ t.heap[q]? = some ce ∧ ce.vm = .none ∧ U.vm.findClass E = some ce.cls ∧ Steps p.tables e below (doInvoke e (U.setTop g) [] mk av.toArray).1 ((U2.setTop g).pushFrame (.throwing q))) := by
  obtain ⟨methY, cY, hmY, hcY, -, hlY, -, -, -, -⟩ := Cond.code_spec hn hcode
  obtain ⟨kY, hkY, -⟩ := className_of_methodNamed hn
  have hinitY : kY.init = .initialized := Cond.initialized_spec (findClass_of_methodNamed hn) hkY hini
  have h : At U g.method c below := by rw [hg]; exact X.here
  have happ : (headSpec wy rm).appliesLoose y e.platform (U.calling g mk av.toArray) = true :=
    Spec.appliesLoose_calling (g := g) h hdg hn hkY hinitY (X.room_calling (g := g) (R' := (headSpec wy rm).room) hsize hmY hcY hfr (by rw [hlY]; show _ + rm.locals ≤ _; omega) (by show cells + rm.cells ≤ _; omega) (by show slots + rm.slots ≤ _; omega)) (atoms_intro fun w hw => hws w hw)
  obtain ⟨mid, hmid⟩ := h.above
  have hfrm : (U.setTop g).frames = (.java g :: mid) ++ below := by rw [State.frames_setTop' g h.top, hmid]; rfl
  obtain ⟨o, s₂, hsteps, -, hend, hq⟩ := Steps.callFree hM p X.admits X.cas X.clock (acts := []) hfrm happ (z_blindT _ _ _ _ hP) trivial
  have hq : zXo Qc D cl tys w px (va_A w0 sz) mc ms av.toArray (U.calling g mk av.toArray) o s₂ := hq
  rw [State.frames_setTop' g h.top] at hend
  obtain ⟨g₀, hg0⟩ := Option.isSome_iff_exists.mp h.top
  obtain ⟨r, hr⟩ := State.topJava?_eq_some.mp hg0
  have hr2 : (({ U with heap := s₂.heap, slotsUsed := s₂.slotsUsed } : State).setVm s₂.vm).frames = .java g₀ :: r := hr
  have hstand : ∀ {L : List Loc}, U.WarmedH s₂.vm → (U.calling g mk av.toArray).sameButNew ({ s₂ with vm := (U.calling g mk av.toArray).vm } : State) L mc ms → Stand p l e R s m args below meth c (({ U with heap := s₂.heap, slotsUsed := s₂.slotsUsed } : State).setVm s₂.vm) (locs ++ L) (cells + mc) (slots + ms) := by
    intro L hW2 hsm
    obtain ⟨-, q2, q3, q4, q5, q6⟩ := hsm
    have hsame : U.sameButNew ({ U with heap := s₂.heap, slotsUsed := s₂.slotsUsed } : State) L mc ms := by
      refine ⟨?_, q2, q3, q4, q5, q6⟩
      obtain ⟨t, ht, -⟩ := State.frames_cons hr
      show ({ U with heap := s₂.heap, slotsUsed := s₂.slotsUsed } : State) = { U.setFrames U.frames with heap := s₂.heap, slotsUsed := s₂.slotsUsed }
      rw [State.setFrames_self ht]
    exact ⟨X.admits, X.cas, X.clock, X.frames, X.room, X.hears, X.method, X.code, (X.here.setHeapUsed s₂.heap s₂.slotsUsed).setVm hW2.alike, X.tail, State.WarmedH.trans X.warmed hW2, X.limits, X.bytes, X.same.trans (hsame.setVm s.vm)⟩
  have hs2 : ∀ {L : List Loc}, (U.calling g mk av.toArray).sameButNew ({ s₂ with vm := (U.calling g mk av.toArray).vm } : State) L mc ms → s₂ = ({ (U.calling g mk av.toArray).setFrames s₂.frames with heap := s₂.heap, slotsUsed := s₂.slotsUsed } : State).setVm s₂.vm := by
    intro L hsm
    have e2 := hsm.1
    have : s₂ = ({ s₂ with vm := (U.calling g mk av.toArray).vm } : State).setVm s₂.vm := rfl
    rw [e2] at this
    exact this
  subst hg
  rcases hq with ⟨hqc, L, hfe, hL⟩ | ⟨q, E, u, ce, L, rfl, hpx, hB, hF, hce, hcv, hcl, hW2, hsm, hL⟩
  · obtain ⟨⟨v, rfl⟩, hW2, hsm⟩ := id hfe
    have hsm : (U.calling g mk av.toArray).sameButNew ({ s₂ with vm := (U.calling g mk av.toArray).vm } : State) L mc ms := hsm
    have e3 := hs2 hsm
    obtain ⟨c₂, i₂, len₂, hc₂, hd₂, hf₂⟩ := hend
    have hW2 : U.WarmedH s₂.vm := hW2
    have hcc : c₂ = c := by
      have h1 : s₂.code? g.method = U.code? g.method := by rw [State.code?_eq, State.code?_eq, hW2.alike.method?]
      exact Option.some.inj (hc₂.symm.trans (h1.trans h.code))
    subst hcc
    have hlen : len₂ = 3 := by rw [hdg] at hd₂; cases hd₂; rfl
    subst hlen
    have hs₂ : s₂ = (({ U with heap := s₂.heap, slotsUsed := s₂.slotsUsed } : State).setVm s₂.vm).setTop { g with pc := g.pc + 3, stack := v.toList ++ g.stack } := by
      refine e3.trans ?_
      rw [hf₂, State.calling_eq h.top, State.setFrames_setFrames, State.setTop_of_frames _ hr2, hr]
      rfl
    refine Or.inl ⟨v, s₂, ({ U with heap := s₂.heap, slotsUsed := s₂.slotsUsed } : State).setVm s₂.vm, L, rfl, rfl, hstand hW2 hsm, hL, hqc, ?_⟩
    rw [← hs₂]
    exact hsteps
  · have e3 := hs2 hsm
    have hf₂ : s₂.frames = .throwing q :: .java g :: U.frames.tail := hend
    have hs₂ : s₂ = ((({ U with heap := s₂.heap, slotsUsed := s₂.slotsUsed } : State).setVm s₂.vm).setTop g).pushFrame (.throwing q) := by
      refine e3.trans ?_
      rw [hf₂, State.calling_eq h.top, State.setFrames_setFrames, State.setTop_of_frames _ hr2, hr]
      show _ = State.setFrames _ _
      rw [State.frames_setFrames _ (State.cur_lt_of_frames hr2), State.setFrames_setFrames]
      rfl
    refine Or.inr ⟨q, E, u, ce, s₂, ({ U with heap := s₂.heap, slotsUsed := s₂.slotsUsed } : State).setVm s₂.vm, L, rfl, rfl, hstand hW2 hsm, hL, hpx, hB, hF, hce, hcv, hcl, ?_⟩
    rw [← hs₂]
    exact hsteps
end ZXC
