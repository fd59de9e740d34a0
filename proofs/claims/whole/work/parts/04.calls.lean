section ZWC
variable {p : Program} {l : Launch} {e : Env} {R : Room} {s : State} {m : MethodId} {args : Array Value} {below : List Frame} {meth : Method} {c : Code} {cells slots : Nat} {Q : State → Prop} {D : va_G} {cl : List vw_C} {tys : List (ClassId × FieldType)} {A : Nat → Prop} {nL : Nat} {cc : ByteArray} {own : String} {Ts : List Cond} {lv : List (Nat × Value)} {ws : va_W} {pc : Nat} {st : List Value}
theorem z_fm {ws w : va_W} (is : List Nat) (hs : is.map (fun i => ws[i]?) = w.map some) : is.filterMap (fun i => ws[i]?) = w := by
  have h2 := congrArg (fun z => z.filterMap id) hs
  simpa [List.filterMap_map] using h2
def zPre (D : va_G) (cl : List vw_C) (tys : List (ClassId × FieldType)) (av : List Value) (w0 : va_W) (sz : Nat) : Array Value → State → Prop := va_Pc av (fun U => U.heap.size = sz ∧ va_P D cl w0 U.heap ∧ (va_K D cl tys U ∧ zNs U) ∧ va_D (fun _ => True) w0)
def zB (D : va_G) (cl : List vw_C) (tys : List (ClassId × FieldType)) {S : Type} (w : S → va_W) (A : Nat → Prop) : S → State → Prop := fun u t => va_P D cl (w u) t.heap ∧ va_K D cl tys t ∧ va_D A (w u)
theorem z_blind {av : List Value} {w0 : va_W} {sz : Nat} : FrameBlind (zPre D cl tys av w0 sz) := fun a U g mk q => by
  obtain ⟨q0, q1, qP, qK, qD⟩ := q
  exact ⟨q0, q1, qP, ⟨va_K.moved (u := U) (U := U.calling g mk a) (Vm.Alike.refl U.vm) qK.1, zNs.same (U := U.calling g mk a) rfl qK.2⟩, qD⟩
/-- a contract: from the world w0, with these arguments, an answer and a world w u with 'post' -/
def zCi (l : Launch) (y : MethodName) (wy : List Cond) (rm : Room) (D : va_G) (cl : List vw_C) (tys : List (ClassId × FieldType)) (av : List Value) (w0 : va_W) {S : Type} (w : S → va_W) (post : Int32 → S → Prop) (mc ms : Nat) : Prop :=
  ∀ sz : Nat, Met l y wy rm (zPre D cl tys av w0 sz) (va_Qi post (zB D cl tys w (va_A w0 sz)) (va_A w0 sz)) mc ms (va_A w0 sz)
/-- a contract: from the world w0, with these arguments, an answer and a world w u with 'post' -/
def zCd (l : Launch) (y : MethodName) (wy : List Cond) (rm : Room) (D : va_G) (cl : List vw_C) (tys : List (ClassId × FieldType)) (av : List Value) (w0 : va_W) {S : Type} (w : S → va_W) (post : UInt64 → S → Prop) (mc ms : Nat) : Prop :=
  ∀ sz : Nat, Met l y wy rm (zPre D cl tys av w0 sz) (va_Qd post (zB D cl tys w (va_A w0 sz)) (va_A w0 sz)) mc ms (va_A w0 sz)
/-- a contract: from the world w0, with these arguments, an answer and a world w u with 'post' -/
def zCv (l : Launch) (y : MethodName) (wy : List Cond) (rm : Room) (D : va_G) (cl : List vw_C) (tys : List (ClassId × FieldType)) (av : List Value) (w0 : va_W) {S : Type} (w : S → va_W) (post : S → Prop) (mc ms : Nat) : Prop :=
  ∀ sz : Nat, Met l y wy rm (zPre D cl tys av w0 sz) (va_Qv post (zB D cl tys w (va_A w0 sz)) (va_A w0 sz)) mc ms (va_A w0 sz)
theorem z_callVi (C : zCx p s m args c cc nL own Ts D cl tys A) {y : MethodName} {bytes : ByteArray} {maxL mc ms n index : Nat} {ret : Option FieldType} {wy : List Cond} {rm : Room} {S : Type} {As : List Value} {b : Nat} {w0 wr : va_W} {w wj : S → va_W} {post : Int32 → S → Prop} {st0 : List Value}
    {C9 : String} {T : u_T} {N ci : Nat} {fs : List Value} (q0 : Nat) (he : ws[q0]? = some (b, .inr (ci, fs))) (hc : cl[ci]? = some (C9, T, N)) (hM : zCi l y wy rm D cl tys (.ref b :: As) w0 w post mc ms) (cw : CallW R s args own C9 index y bytes maxL ret wy rm mc ms n) (isC isR isJ : List Nat) (hC : isC.map (fun i => ws[i]?) = w0.map some) (hnC : va_nd isC = true) (hR : isR.map (fun i => ws[i]?) = wr.map some) (hnR : va_nd isR = true) (hdis : ∀ i ∈ isR, i ∉ isC) (hJ : ∀ u, isJ.map (fun i => (wr ++ w u)[i]?) = (wj u).map some) (hnJ : va_nd isJ = true)
    (hn : As.length = n) (hst : st0 = As.reverse ++ .ref b :: st) (hroom : (st.map fun v => v.category).sum ≤ 8) (d : decode cc pc = .ok (.invokevirtual index, 3)) (hf : cells + mc ≤ R.cells ∧ slots + ms ≤ R.slots)
    (k : ∀ (r : Int32) (u : S), post r u → zW p l e R s m args below meth c D cl A nL (cells + mc) (slots + ms) Q lv (wj u) (pc + 3) (.int r :: st)) : zW p l e R s m args below meth c D cl A nL cells slots Q lv ws pc st0 := fun ls H locs hl hP hD hS => by
  have hPc := hP.sub isC (z_fm isC hC)
  have hDc := hD.sub isC hnC hC
  have hFc := va_free hD hS C.2.2.2.2.2.2 isC hC
  refine va_calli (va_runV (As := As) (rest := st) ⟨C.1, C.2.1, C.2.2.1, C.2.2.2.1, C.2.2.2.2.1⟩ (hM H.size) cw ⟨z_blind, va_recv C.2.2.2.2.2.1.1 hP hc he, fun U hU hW => ⟨rfl, by rw [hU], by rw [hU]; exact hPc, ⟨va_K.moved hW.alike C.2.2.2.2.2.1.1, zNs.moved hW C.2.2.2.2.2.1.2⟩, hDc.weaken (fun _ _ _ _ => trivial)⟩⟩ rfl hn hl.1 hst (lv_room hroom) d hf) hS (fun q _ h => hFc q h) hFc (fun r u t H1 locs1 ht hvm hw hB hz1 hk1 hS1 => ?_)
  obtain ⟨hP1, hK1, hD1⟩ := hB
  rw [ht] at hP1
  obtain ⟨hP2, hD2⟩ := va_join hP hD isC isR hC hR hnR hdis hk1 hFc hP1 hD1
  exact k r u hw ls H1 locs1 hl (hP2.sub isJ (z_fm isJ (hJ u))) (hD2.sub isJ hnJ (hJ u)) hS1
theorem z_callVd (C : zCx p s m args c cc nL own Ts D cl tys A) {y : MethodName} {bytes : ByteArray} {maxL mc ms n index : Nat} {ret : Option FieldType} {wy : List Cond} {rm : Room} {S : Type} {As : List Value} {b : Nat} {w0 wr : va_W} {w wj : S → va_W} {post : UInt64 → S → Prop} {st0 : List Value}
    {C9 : String} {T : u_T} {N ci : Nat} {fs : List Value} (q0 : Nat) (he : ws[q0]? = some (b, .inr (ci, fs))) (hc : cl[ci]? = some (C9, T, N)) (hM : zCd l y wy rm D cl tys (.ref b :: As) w0 w post mc ms) (cw : CallW R s args own C9 index y bytes maxL ret wy rm mc ms n) (isC isR isJ : List Nat) (hC : isC.map (fun i => ws[i]?) = w0.map some) (hnC : va_nd isC = true) (hR : isR.map (fun i => ws[i]?) = wr.map some) (hnR : va_nd isR = true) (hdis : ∀ i ∈ isR, i ∉ isC) (hJ : ∀ u, isJ.map (fun i => (wr ++ w u)[i]?) = (wj u).map some) (hnJ : va_nd isJ = true)
    (hn : As.length = n) (hst : st0 = As.reverse ++ .ref b :: st) (hroom : (st.map fun v => v.category).sum ≤ 8) (d : decode cc pc = .ok (.invokevirtual index, 3)) (hf : cells + mc ≤ R.cells ∧ slots + ms ≤ R.slots)
    (k : ∀ (r : UInt64) (u : S), post r u → zW p l e R s m args below meth c D cl A nL (cells + mc) (slots + ms) Q lv (wj u) (pc + 3) (.double r :: st)) : zW p l e R s m args below meth c D cl A nL cells slots Q lv ws pc st0 := fun ls H locs hl hP hD hS => by
  have hPc := hP.sub isC (z_fm isC hC)
  have hDc := hD.sub isC hnC hC
  have hFc := va_free hD hS C.2.2.2.2.2.2 isC hC
  refine va_calld (va_runV (As := As) (rest := st) ⟨C.1, C.2.1, C.2.2.1, C.2.2.2.1, C.2.2.2.2.1⟩ (hM H.size) cw ⟨z_blind, va_recv C.2.2.2.2.2.1.1 hP hc he, fun U hU hW => ⟨rfl, by rw [hU], by rw [hU]; exact hPc, ⟨va_K.moved hW.alike C.2.2.2.2.2.1.1, zNs.moved hW C.2.2.2.2.2.1.2⟩, hDc.weaken (fun _ _ _ _ => trivial)⟩⟩ rfl hn hl.1 hst (lv_room hroom) d hf) hS (fun q _ h => hFc q h) hFc (fun r u t H1 locs1 ht hvm hw hB hz1 hk1 hS1 => ?_)
  obtain ⟨hP1, hK1, hD1⟩ := hB
  rw [ht] at hP1
  obtain ⟨hP2, hD2⟩ := va_join hP hD isC isR hC hR hnR hdis hk1 hFc hP1 hD1
  exact k r u hw ls H1 locs1 hl (hP2.sub isJ (z_fm isJ (hJ u))) (hD2.sub isJ hnJ (hJ u)) hS1
theorem z_callVv (C : zCx p s m args c cc nL own Ts D cl tys A) {y : MethodName} {bytes : ByteArray} {maxL mc ms n index : Nat} {ret : Option FieldType} {wy : List Cond} {rm : Room} {S : Type} {As : List Value} {b : Nat} {w0 wr : va_W} {w wj : S → va_W} {post : S → Prop} {st0 : List Value}
    {C9 : String} {T : u_T} {N ci : Nat} {fs : List Value} (q0 : Nat) (he : ws[q0]? = some (b, .inr (ci, fs))) (hc : cl[ci]? = some (C9, T, N)) (hM : zCv l y wy rm D cl tys (.ref b :: As) w0 w post mc ms) (cw : CallW R s args own C9 index y bytes maxL ret wy rm mc ms n) (isC isR isJ : List Nat) (hC : isC.map (fun i => ws[i]?) = w0.map some) (hnC : va_nd isC = true) (hR : isR.map (fun i => ws[i]?) = wr.map some) (hnR : va_nd isR = true) (hdis : ∀ i ∈ isR, i ∉ isC) (hJ : ∀ u, isJ.map (fun i => (wr ++ w u)[i]?) = (wj u).map some) (hnJ : va_nd isJ = true)
    (hn : As.length = n) (hst : st0 = As.reverse ++ .ref b :: st) (hroom : (st.map fun v => v.category).sum ≤ 8) (d : decode cc pc = .ok (.invokevirtual index, 3)) (hf : cells + mc ≤ R.cells ∧ slots + ms ≤ R.slots)
    (k : ∀ u : S, post u → zW p l e R s m args below meth c D cl A nL (cells + mc) (slots + ms) Q lv (wj u) (pc + 3) st) : zW p l e R s m args below meth c D cl A nL cells slots Q lv ws pc st0 := fun ls H locs hl hP hD hS => by
  have hPc := hP.sub isC (z_fm isC hC)
  have hDc := hD.sub isC hnC hC
  have hFc := va_free hD hS C.2.2.2.2.2.2 isC hC
  refine va_callv (va_runV (As := As) (rest := st) ⟨C.1, C.2.1, C.2.2.1, C.2.2.2.1, C.2.2.2.2.1⟩ (hM H.size) cw ⟨z_blind, va_recv C.2.2.2.2.2.1.1 hP hc he, fun U hU hW => ⟨rfl, by rw [hU], by rw [hU]; exact hPc, ⟨va_K.moved hW.alike C.2.2.2.2.2.1.1, zNs.moved hW C.2.2.2.2.2.1.2⟩, hDc.weaken (fun _ _ _ _ => trivial)⟩⟩ rfl hn hl.1 hst (lv_room hroom) d hf) hS (fun q _ h => hFc q h) hFc (fun u t H1 locs1 ht hvm hw hB hz1 hk1 hS1 => ?_)
  obtain ⟨hP1, hK1, hD1⟩ := hB
  rw [ht] at hP1
  obtain ⟨hP2, hD2⟩ := va_join hP hD isC isR hC hR hnR hdis hk1 hFc hP1 hD1
  exact k u hw ls H1 locs1 hl (hP2.sub isJ (z_fm isJ (hJ u))) (hD2.sub isJ hnJ (hJ u)) hS1
theorem z_callVNi (C : zCx p s m args c cc nL own Ts D cl tys A) {y : MethodName} {bytes : ByteArray} {maxL mc ms n index : Nat} {ret : Option FieldType} {wy : List Cond} {rm : Room} {S : Type} {As : List Value} {b : Nat} {w0 wr : va_W} {w wj : S → va_W} {post : Int32 → S → Prop} {st0 : List Value}
    {C9 : String} {T : u_T} {N ci : Nat} {fs : List Value} (q0 : Nat) (he : ws[q0]? = some (b, .inr (ci, fs))) (hc : cl[ci]? = some (C9, T, N)) (hM : zCi l y wy rm D cl tys (.ref b :: As) w0 w post mc ms) {host : String} (cw : va_CN R s args own index y host bytes maxL ret wy rm mc ms n ∧ (Cond.instanceMethod y).before args s = true ∧ (Cond.selects C9 y y).before args s = true) (isC isR isJ : List Nat) (hC : isC.map (fun i => ws[i]?) = w0.map some) (hnC : va_nd isC = true) (hR : isR.map (fun i => ws[i]?) = wr.map some) (hnR : va_nd isR = true) (hdis : ∀ i ∈ isR, i ∉ isC) (hJ : ∀ u, isJ.map (fun i => (wr ++ w u)[i]?) = (wj u).map some) (hnJ : va_nd isJ = true)
    (hn : As.length = n) (hst : st0 = As.reverse ++ .ref b :: st) (hroom : (st.map fun v => v.category).sum ≤ 8) (d : decode cc pc = .ok (.invokevirtual index, 3)) (hf : cells + mc ≤ R.cells ∧ slots + ms ≤ R.slots)
    (k : ∀ (r : Int32) (u : S), post r u → zW p l e R s m args below meth c D cl A nL (cells + mc) (slots + ms) Q lv (wj u) (pc + 3) (.int r :: st)) : zW p l e R s m args below meth c D cl A nL cells slots Q lv ws pc st0 := fun ls H locs hl hP hD hS => by
  have hPc := hP.sub isC (z_fm isC hC)
  have hDc := hD.sub isC hnC hC
  have hFc := va_free hD hS C.2.2.2.2.2.2 isC hC
  refine va_calli (va_runVN (As := As) (rest := st) ⟨C.1, C.2.1, C.2.2.1, C.2.2.2.1, C.2.2.2.2.1⟩ (hM H.size) cw ⟨z_blind, va_recv C.2.2.2.2.2.1.1 hP hc he, fun U hU hW => ⟨rfl, by rw [hU], by rw [hU]; exact hPc, ⟨va_K.moved hW.alike C.2.2.2.2.2.1.1, zNs.moved hW C.2.2.2.2.2.1.2⟩, hDc.weaken (fun _ _ _ _ => trivial)⟩⟩ rfl hn hl.1 hst (lv_room hroom) d hf) hS (fun q _ h => hFc q h) hFc (fun r u t H1 locs1 ht hvm hw hB hz1 hk1 hS1 => ?_)
  obtain ⟨hP1, hK1, hD1⟩ := hB
  rw [ht] at hP1
  obtain ⟨hP2, hD2⟩ := va_join hP hD isC isR hC hR hnR hdis hk1 hFc hP1 hD1
  exact k r u hw ls H1 locs1 hl (hP2.sub isJ (z_fm isJ (hJ u))) (hD2.sub isJ hnJ (hJ u)) hS1
theorem z_callVNd (C : zCx p s m args c cc nL own Ts D cl tys A) {y : MethodName} {bytes : ByteArray} {maxL mc ms n index : Nat} {ret : Option FieldType} {wy : List Cond} {rm : Room} {S : Type} {As : List Value} {b : Nat} {w0 wr : va_W} {w wj : S → va_W} {post : UInt64 → S → Prop} {st0 : List Value}
    {C9 : String} {T : u_T} {N ci : Nat} {fs : List Value} (q0 : Nat) (he : ws[q0]? = some (b, .inr (ci, fs))) (hc : cl[ci]? = some (C9, T, N)) (hM : zCd l y wy rm D cl tys (.ref b :: As) w0 w post mc ms) {host : String} (cw : va_CN R s args own index y host bytes maxL ret wy rm mc ms n ∧ (Cond.instanceMethod y).before args s = true ∧ (Cond.selects C9 y y).before args s = true) (isC isR isJ : List Nat) (hC : isC.map (fun i => ws[i]?) = w0.map some) (hnC : va_nd isC = true) (hR : isR.map (fun i => ws[i]?) = wr.map some) (hnR : va_nd isR = true) (hdis : ∀ i ∈ isR, i ∉ isC) (hJ : ∀ u, isJ.map (fun i => (wr ++ w u)[i]?) = (wj u).map some) (hnJ : va_nd isJ = true)
    (hn : As.length = n) (hst : st0 = As.reverse ++ .ref b :: st) (hroom : (st.map fun v => v.category).sum ≤ 8) (d : decode cc pc = .ok (.invokevirtual index, 3)) (hf : cells + mc ≤ R.cells ∧ slots + ms ≤ R.slots)
    (k : ∀ (r : UInt64) (u : S), post r u → zW p l e R s m args below meth c D cl A nL (cells + mc) (slots + ms) Q lv (wj u) (pc + 3) (.double r :: st)) : zW p l e R s m args below meth c D cl A nL cells slots Q lv ws pc st0 := fun ls H locs hl hP hD hS => by
  have hPc := hP.sub isC (z_fm isC hC)
  have hDc := hD.sub isC hnC hC
  have hFc := va_free hD hS C.2.2.2.2.2.2 isC hC
  refine va_calld (va_runVN (As := As) (rest := st) ⟨C.1, C.2.1, C.2.2.1, C.2.2.2.1, C.2.2.2.2.1⟩ (hM H.size) cw ⟨z_blind, va_recv C.2.2.2.2.2.1.1 hP hc he, fun U hU hW => ⟨rfl, by rw [hU], by rw [hU]; exact hPc, ⟨va_K.moved hW.alike C.2.2.2.2.2.1.1, zNs.moved hW C.2.2.2.2.2.1.2⟩, hDc.weaken (fun _ _ _ _ => trivial)⟩⟩ rfl hn hl.1 hst (lv_room hroom) d hf) hS (fun q _ h => hFc q h) hFc (fun r u t H1 locs1 ht hvm hw hB hz1 hk1 hS1 => ?_)
  obtain ⟨hP1, hK1, hD1⟩ := hB
  rw [ht] at hP1
  obtain ⟨hP2, hD2⟩ := va_join hP hD isC isR hC hR hnR hdis hk1 hFc hP1 hD1
  exact k r u hw ls H1 locs1 hl (hP2.sub isJ (z_fm isJ (hJ u))) (hD2.sub isJ hnJ (hJ u)) hS1
theorem z_callVNv (C : zCx p s m args c cc nL own Ts D cl tys A) {y : MethodName} {bytes : ByteArray} {maxL mc ms n index : Nat} {ret : Option FieldType} {wy : List Cond} {rm : Room} {S : Type} {As : List Value} {b : Nat} {w0 wr : va_W} {w wj : S → va_W} {post : S → Prop} {st0 : List Value}
    {C9 : String} {T : u_T} {N ci : Nat} {fs : List Value} (q0 : Nat) (he : ws[q0]? = some (b, .inr (ci, fs))) (hc : cl[ci]? = some (C9, T, N)) (hM : zCv l y wy rm D cl tys (.ref b :: As) w0 w post mc ms) {host : String} (cw : va_CN R s args own index y host bytes maxL ret wy rm mc ms n ∧ (Cond.instanceMethod y).before args s = true ∧ (Cond.selects C9 y y).before args s = true) (isC isR isJ : List Nat) (hC : isC.map (fun i => ws[i]?) = w0.map some) (hnC : va_nd isC = true) (hR : isR.map (fun i => ws[i]?) = wr.map some) (hnR : va_nd isR = true) (hdis : ∀ i ∈ isR, i ∉ isC) (hJ : ∀ u, isJ.map (fun i => (wr ++ w u)[i]?) = (wj u).map some) (hnJ : va_nd isJ = true)
    (hn : As.length = n) (hst : st0 = As.reverse ++ .ref b :: st) (hroom : (st.map fun v => v.category).sum ≤ 8) (d : decode cc pc = .ok (.invokevirtual index, 3)) (hf : cells + mc ≤ R.cells ∧ slots + ms ≤ R.slots)
    (k : ∀ u : S, post u → zW p l e R s m args below meth c D cl A nL (cells + mc) (slots + ms) Q lv (wj u) (pc + 3) st) : zW p l e R s m args below meth c D cl A nL cells slots Q lv ws pc st0 := fun ls H locs hl hP hD hS => by
  have hPc := hP.sub isC (z_fm isC hC)
  have hDc := hD.sub isC hnC hC
  have hFc := va_free hD hS C.2.2.2.2.2.2 isC hC
  refine va_callv (va_runVN (As := As) (rest := st) ⟨C.1, C.2.1, C.2.2.1, C.2.2.2.1, C.2.2.2.2.1⟩ (hM H.size) cw ⟨z_blind, va_recv C.2.2.2.2.2.1.1 hP hc he, fun U hU hW => ⟨rfl, by rw [hU], by rw [hU]; exact hPc, ⟨va_K.moved hW.alike C.2.2.2.2.2.1.1, zNs.moved hW C.2.2.2.2.2.1.2⟩, hDc.weaken (fun _ _ _ _ => trivial)⟩⟩ rfl hn hl.1 hst (lv_room hroom) d hf) hS (fun q _ h => hFc q h) hFc (fun u t H1 locs1 ht hvm hw hB hz1 hk1 hS1 => ?_)
  obtain ⟨hP1, hK1, hD1⟩ := hB
  rw [ht] at hP1
  obtain ⟨hP2, hD2⟩ := va_join hP hD isC isR hC hR hnR hdis hk1 hFc hP1 hD1
  exact k u hw ls H1 locs1 hl (hP2.sub isJ (z_fm isJ (hJ u))) (hD2.sub isJ hnJ (hJ u)) hS1
theorem z_callSi (C : zCx p s m args c cc nL own Ts D cl tys A) {y : MethodName} {bytes : ByteArray} {maxL mc ms n index : Nat} {ret : Option FieldType} {wy : List Cond} {rm : Room} {S : Type} {As : List Value} {w0 wr : va_W} {w wj : S → va_W} {post : Int32 → S → Prop} {st0 : List Value}
    (hM : zCi l y wy rm D cl tys As w0 w post mc ms) (cw : CallB R s args own index y bytes maxL ret wy rm mc ms n ∧ (Cond.static y).before args s = true) (isC isR isJ : List Nat) (hC : isC.map (fun i => ws[i]?) = w0.map some) (hnC : va_nd isC = true) (hR : isR.map (fun i => ws[i]?) = wr.map some) (hnR : va_nd isR = true) (hdis : ∀ i ∈ isR, i ∉ isC) (hJ : ∀ u, isJ.map (fun i => (wr ++ w u)[i]?) = (wj u).map some) (hnJ : va_nd isJ = true)
    (hn : As.length = n) (hst : st0 = As.reverse ++ st) (hroom : (st.map fun v => v.category).sum ≤ 8) (d : decode cc pc = .ok (.invokestatic index, 3)) (hf : cells + mc ≤ R.cells ∧ slots + ms ≤ R.slots)
    (k : ∀ (r : Int32) (u : S), post r u → zW p l e R s m args below meth c D cl A nL (cells + mc) (slots + ms) Q lv (wj u) (pc + 3) (.int r :: st)) : zW p l e R s m args below meth c D cl A nL cells slots Q lv ws pc st0 := fun ls H locs hl hP hD hS => by
  have hPc := hP.sub isC (z_fm isC hC)
  have hDc := hD.sub isC hnC hC
  have hFc := va_free hD hS C.2.2.2.2.2.2 isC hC
  refine va_calli (va_runS (As := As) (rest := st) ⟨C.1, C.2.1, C.2.2.1, C.2.2.2.1, C.2.2.2.2.1⟩ (hM H.size) cw ⟨z_blind, fun U hU hW => ⟨rfl, by rw [hU], by rw [hU]; exact hPc, ⟨va_K.moved hW.alike C.2.2.2.2.2.1.1, zNs.moved hW C.2.2.2.2.2.1.2⟩, hDc.weaken (fun _ _ _ _ => trivial)⟩⟩ rfl hn hl.1 hst (lv_room hroom) d hf) hS (fun q _ h => hFc q h) hFc (fun r u t H1 locs1 ht hvm hw hB hz1 hk1 hS1 => ?_)
  obtain ⟨hP1, hK1, hD1⟩ := hB
  rw [ht] at hP1
  obtain ⟨hP2, hD2⟩ := va_join hP hD isC isR hC hR hnR hdis hk1 hFc hP1 hD1
  exact k r u hw ls H1 locs1 hl (hP2.sub isJ (z_fm isJ (hJ u))) (hD2.sub isJ hnJ (hJ u)) hS1
theorem z_callSd (C : zCx p s m args c cc nL own Ts D cl tys A) {y : MethodName} {bytes : ByteArray} {maxL mc ms n index : Nat} {ret : Option FieldType} {wy : List Cond} {rm : Room} {S : Type} {As : List Value} {w0 wr : va_W} {w wj : S → va_W} {post : UInt64 → S → Prop} {st0 : List Value}
    (hM : zCd l y wy rm D cl tys As w0 w post mc ms) (cw : CallB R s args own index y bytes maxL ret wy rm mc ms n ∧ (Cond.static y).before args s = true) (isC isR isJ : List Nat) (hC : isC.map (fun i => ws[i]?) = w0.map some) (hnC : va_nd isC = true) (hR : isR.map (fun i => ws[i]?) = wr.map some) (hnR : va_nd isR = true) (hdis : ∀ i ∈ isR, i ∉ isC) (hJ : ∀ u, isJ.map (fun i => (wr ++ w u)[i]?) = (wj u).map some) (hnJ : va_nd isJ = true)
    (hn : As.length = n) (hst : st0 = As.reverse ++ st) (hroom : (st.map fun v => v.category).sum ≤ 8) (d : decode cc pc = .ok (.invokestatic index, 3)) (hf : cells + mc ≤ R.cells ∧ slots + ms ≤ R.slots)
    (k : ∀ (r : UInt64) (u : S), post r u → zW p l e R s m args below meth c D cl A nL (cells + mc) (slots + ms) Q lv (wj u) (pc + 3) (.double r :: st)) : zW p l e R s m args below meth c D cl A nL cells slots Q lv ws pc st0 := fun ls H locs hl hP hD hS => by
  have hPc := hP.sub isC (z_fm isC hC)
  have hDc := hD.sub isC hnC hC
  have hFc := va_free hD hS C.2.2.2.2.2.2 isC hC
  refine va_calld (va_runS (As := As) (rest := st) ⟨C.1, C.2.1, C.2.2.1, C.2.2.2.1, C.2.2.2.2.1⟩ (hM H.size) cw ⟨z_blind, fun U hU hW => ⟨rfl, by rw [hU], by rw [hU]; exact hPc, ⟨va_K.moved hW.alike C.2.2.2.2.2.1.1, zNs.moved hW C.2.2.2.2.2.1.2⟩, hDc.weaken (fun _ _ _ _ => trivial)⟩⟩ rfl hn hl.1 hst (lv_room hroom) d hf) hS (fun q _ h => hFc q h) hFc (fun r u t H1 locs1 ht hvm hw hB hz1 hk1 hS1 => ?_)
  obtain ⟨hP1, hK1, hD1⟩ := hB
  rw [ht] at hP1
  obtain ⟨hP2, hD2⟩ := va_join hP hD isC isR hC hR hnR hdis hk1 hFc hP1 hD1
  exact k r u hw ls H1 locs1 hl (hP2.sub isJ (z_fm isJ (hJ u))) (hD2.sub isJ hnJ (hJ u)) hS1
theorem z_callSv (C : zCx p s m args c cc nL own Ts D cl tys A) {y : MethodName} {bytes : ByteArray} {maxL mc ms n index : Nat} {ret : Option FieldType} {wy : List Cond} {rm : Room} {S : Type} {As : List Value} {w0 wr : va_W} {w wj : S → va_W} {post : S → Prop} {st0 : List Value}
    (hM : zCv l y wy rm D cl tys As w0 w post mc ms) (cw : CallB R s args own index y bytes maxL ret wy rm mc ms n ∧ (Cond.static y).before args s = true) (isC isR isJ : List Nat) (hC : isC.map (fun i => ws[i]?) = w0.map some) (hnC : va_nd isC = true) (hR : isR.map (fun i => ws[i]?) = wr.map some) (hnR : va_nd isR = true) (hdis : ∀ i ∈ isR, i ∉ isC) (hJ : ∀ u, isJ.map (fun i => (wr ++ w u)[i]?) = (wj u).map some) (hnJ : va_nd isJ = true)
    (hn : As.length = n) (hst : st0 = As.reverse ++ st) (hroom : (st.map fun v => v.category).sum ≤ 8) (d : decode cc pc = .ok (.invokestatic index, 3)) (hf : cells + mc ≤ R.cells ∧ slots + ms ≤ R.slots)
    (k : ∀ u : S, post u → zW p l e R s m args below meth c D cl A nL (cells + mc) (slots + ms) Q lv (wj u) (pc + 3) st) : zW p l e R s m args below meth c D cl A nL cells slots Q lv ws pc st0 := fun ls H locs hl hP hD hS => by
  have hPc := hP.sub isC (z_fm isC hC)
  have hDc := hD.sub isC hnC hC
  have hFc := va_free hD hS C.2.2.2.2.2.2 isC hC
  refine va_callv (va_runS (As := As) (rest := st) ⟨C.1, C.2.1, C.2.2.1, C.2.2.2.1, C.2.2.2.2.1⟩ (hM H.size) cw ⟨z_blind, fun U hU hW => ⟨rfl, by rw [hU], by rw [hU]; exact hPc, ⟨va_K.moved hW.alike C.2.2.2.2.2.1.1, zNs.moved hW C.2.2.2.2.2.1.2⟩, hDc.weaken (fun _ _ _ _ => trivial)⟩⟩ rfl hn hl.1 hst (lv_room hroom) d hf) hS (fun q _ h => hFc q h) hFc (fun u t H1 locs1 ht hvm hw hB hz1 hk1 hS1 => ?_)
  obtain ⟨hP1, hK1, hD1⟩ := hB
  rw [ht] at hP1
  obtain ⟨hP2, hD2⟩ := va_join hP hD isC isR hC hR hnR hdis hk1 hFc hP1 hD1
  exact k u hw ls H1 locs1 hl (hP2.sub isJ (z_fm isJ (hJ u))) (hD2.sub isJ hnJ (hJ u)) hS1
theorem z_callSNi (C : zCx p s m args c cc nL own Ts D cl tys A) {y : MethodName} {bytes : ByteArray} {maxL mc ms n index : Nat} {ret : Option FieldType} {wy : List Cond} {rm : Room} {S : Type} {As : List Value} {w0 wr : va_W} {w wj : S → va_W} {post : Int32 → S → Prop} {st0 : List Value}
    (hM : zCi l y wy rm D cl tys As w0 w post mc ms) {host : String} (cw : va_CN R s args own index y host bytes maxL ret wy rm mc ms n ∧ (Cond.static y).before args s = true ∧ True) (isC isR isJ : List Nat) (hC : isC.map (fun i => ws[i]?) = w0.map some) (hnC : va_nd isC = true) (hR : isR.map (fun i => ws[i]?) = wr.map some) (hnR : va_nd isR = true) (hdis : ∀ i ∈ isR, i ∉ isC) (hJ : ∀ u, isJ.map (fun i => (wr ++ w u)[i]?) = (wj u).map some) (hnJ : va_nd isJ = true)
    (hn : As.length = n) (hst : st0 = As.reverse ++ st) (hroom : (st.map fun v => v.category).sum ≤ 8) (d : decode cc pc = .ok (.invokestatic index, 3)) (hf : cells + mc ≤ R.cells ∧ slots + ms ≤ R.slots)
    (k : ∀ (r : Int32) (u : S), post r u → zW p l e R s m args below meth c D cl A nL (cells + mc) (slots + ms) Q lv (wj u) (pc + 3) (.int r :: st)) : zW p l e R s m args below meth c D cl A nL cells slots Q lv ws pc st0 := fun ls H locs hl hP hD hS => by
  have hPc := hP.sub isC (z_fm isC hC)
  have hDc := hD.sub isC hnC hC
  have hFc := va_free hD hS C.2.2.2.2.2.2 isC hC
  refine va_calli (va_runSN (As := As) (rest := st) ⟨C.1, C.2.1, C.2.2.1, C.2.2.2.1, C.2.2.2.2.1⟩ (hM H.size) cw ⟨z_blind, fun U hU hW => ⟨rfl, by rw [hU], by rw [hU]; exact hPc, ⟨va_K.moved hW.alike C.2.2.2.2.2.1.1, zNs.moved hW C.2.2.2.2.2.1.2⟩, hDc.weaken (fun _ _ _ _ => trivial)⟩⟩ rfl hn hl.1 hst (lv_room hroom) d hf) hS (fun q _ h => hFc q h) hFc (fun r u t H1 locs1 ht hvm hw hB hz1 hk1 hS1 => ?_)
  obtain ⟨hP1, hK1, hD1⟩ := hB
  rw [ht] at hP1
  obtain ⟨hP2, hD2⟩ := va_join hP hD isC isR hC hR hnR hdis hk1 hFc hP1 hD1
  exact k r u hw ls H1 locs1 hl (hP2.sub isJ (z_fm isJ (hJ u))) (hD2.sub isJ hnJ (hJ u)) hS1
theorem z_callSNd (C : zCx p s m args c cc nL own Ts D cl tys A) {y : MethodName} {bytes : ByteArray} {maxL mc ms n index : Nat} {ret : Option FieldType} {wy : List Cond} {rm : Room} {S : Type} {As : List Value} {w0 wr : va_W} {w wj : S → va_W} {post : UInt64 → S → Prop} {st0 : List Value}
    (hM : zCd l y wy rm D cl tys As w0 w post mc ms) {host : String} (cw : va_CN R s args own index y host bytes maxL ret wy rm mc ms n ∧ (Cond.static y).before args s = true ∧ True) (isC isR isJ : List Nat) (hC : isC.map (fun i => ws[i]?) = w0.map some) (hnC : va_nd isC = true) (hR : isR.map (fun i => ws[i]?) = wr.map some) (hnR : va_nd isR = true) (hdis : ∀ i ∈ isR, i ∉ isC) (hJ : ∀ u, isJ.map (fun i => (wr ++ w u)[i]?) = (wj u).map some) (hnJ : va_nd isJ = true)
    (hn : As.length = n) (hst : st0 = As.reverse ++ st) (hroom : (st.map fun v => v.category).sum ≤ 8) (d : decode cc pc = .ok (.invokestatic index, 3)) (hf : cells + mc ≤ R.cells ∧ slots + ms ≤ R.slots)
    (k : ∀ (r : UInt64) (u : S), post r u → zW p l e R s m args below meth c D cl A nL (cells + mc) (slots + ms) Q lv (wj u) (pc + 3) (.double r :: st)) : zW p l e R s m args below meth c D cl A nL cells slots Q lv ws pc st0 := fun ls H locs hl hP hD hS => by
  have hPc := hP.sub isC (z_fm isC hC)
  have hDc := hD.sub isC hnC hC
  have hFc := va_free hD hS C.2.2.2.2.2.2 isC hC
  refine va_calld (va_runSN (As := As) (rest := st) ⟨C.1, C.2.1, C.2.2.1, C.2.2.2.1, C.2.2.2.2.1⟩ (hM H.size) cw ⟨z_blind, fun U hU hW => ⟨rfl, by rw [hU], by rw [hU]; exact hPc, ⟨va_K.moved hW.alike C.2.2.2.2.2.1.1, zNs.moved hW C.2.2.2.2.2.1.2⟩, hDc.weaken (fun _ _ _ _ => trivial)⟩⟩ rfl hn hl.1 hst (lv_room hroom) d hf) hS (fun q _ h => hFc q h) hFc (fun r u t H1 locs1 ht hvm hw hB hz1 hk1 hS1 => ?_)
  obtain ⟨hP1, hK1, hD1⟩ := hB
  rw [ht] at hP1
  obtain ⟨hP2, hD2⟩ := va_join hP hD isC isR hC hR hnR hdis hk1 hFc hP1 hD1
  exact k r u hw ls H1 locs1 hl (hP2.sub isJ (z_fm isJ (hJ u))) (hD2.sub isJ hnJ (hJ u)) hS1
theorem z_callSNv (C : zCx p s m args c cc nL own Ts D cl tys A) {y : MethodName} {bytes : ByteArray} {maxL mc ms n index : Nat} {ret : Option FieldType} {wy : List Cond} {rm : Room} {S : Type} {As : List Value} {w0 wr : va_W} {w wj : S → va_W} {post : S → Prop} {st0 : List Value}
    (hM : zCv l y wy rm D cl tys As w0 w post mc ms) {host : String} (cw : va_CN R s args own index y host bytes maxL ret wy rm mc ms n ∧ (Cond.static y).before args s = true ∧ True) (isC isR isJ : List Nat) (hC : isC.map (fun i => ws[i]?) = w0.map some) (hnC : va_nd isC = true) (hR : isR.map (fun i => ws[i]?) = wr.map some) (hnR : va_nd isR = true) (hdis : ∀ i ∈ isR, i ∉ isC) (hJ : ∀ u, isJ.map (fun i => (wr ++ w u)[i]?) = (wj u).map some) (hnJ : va_nd isJ = true)
    (hn : As.length = n) (hst : st0 = As.reverse ++ st) (hroom : (st.map fun v => v.category).sum ≤ 8) (d : decode cc pc = .ok (.invokestatic index, 3)) (hf : cells + mc ≤ R.cells ∧ slots + ms ≤ R.slots)
    (k : ∀ u : S, post u → zW p l e R s m args below meth c D cl A nL (cells + mc) (slots + ms) Q lv (wj u) (pc + 3) st) : zW p l e R s m args below meth c D cl A nL cells slots Q lv ws pc st0 := fun ls H locs hl hP hD hS => by
  have hPc := hP.sub isC (z_fm isC hC)
  have hDc := hD.sub isC hnC hC
  have hFc := va_free hD hS C.2.2.2.2.2.2 isC hC
  refine va_callv (va_runSN (As := As) (rest := st) ⟨C.1, C.2.1, C.2.2.1, C.2.2.2.1, C.2.2.2.2.1⟩ (hM H.size) cw ⟨z_blind, fun U hU hW => ⟨rfl, by rw [hU], by rw [hU]; exact hPc, ⟨va_K.moved hW.alike C.2.2.2.2.2.1.1, zNs.moved hW C.2.2.2.2.2.1.2⟩, hDc.weaken (fun _ _ _ _ => trivial)⟩⟩ rfl hn hl.1 hst (lv_room hroom) d hf) hS (fun q _ h => hFc q h) hFc (fun u t H1 locs1 ht hvm hw hB hz1 hk1 hS1 => ?_)
  obtain ⟨hP1, hK1, hD1⟩ := hB
  rw [ht] at hP1
  obtain ⟨hP2, hD2⟩ := va_join hP hD isC isR hC hR hnR hdis hk1 hFc hP1 hD1
  exact k u hw ls H1 locs1 hl (hP2.sub isJ (z_fm isJ (hJ u))) (hD2.sub isJ hnJ (hJ u)) hS1
theorem z_callIv (C : zCx p s m args c cc nL own Ts D cl tys A) {y : MethodName} {bytes : ByteArray} {maxL mc ms n index : Nat} {wy : List Cond} {rm : Room} {S : Type} {As : List Value} {b : Nat} {w0 wr : va_W} {w wj : S → va_W} {post : S → Prop} {st0 : List Value}
    (hM : zCv l y wy rm D cl tys (.ref b :: As) w0 w post mc ms) (cw : CallB R s args own index y bytes maxL none wy rm mc ms n ∧ y.name = "<init>" ∧ (Cond.instanceMethod y).before args s = true) (isC isR isJ : List Nat) (hC : isC.map (fun i => ws[i]?) = w0.map some) (hnC : va_nd isC = true) (hR : isR.map (fun i => ws[i]?) = wr.map some) (hnR : va_nd isR = true) (hdis : ∀ i ∈ isR, i ∉ isC) (hJ : ∀ u, isJ.map (fun i => (wr ++ w u)[i]?) = (wj u).map some) (hnJ : va_nd isJ = true)
    (hn : As.length = n) (hst : st0 = As.reverse ++ .ref b :: st) (hroom : (st.map fun v => v.category).sum ≤ 8) (d : decode cc pc = .ok (.invokespecial index, 3)) (hf : cells + mc ≤ R.cells ∧ slots + ms ≤ R.slots)
    (k : ∀ u : S, post u → zW p l e R s m args below meth c D cl A nL (cells + mc) (slots + ms) Q lv (wj u) (pc + 3) st) : zW p l e R s m args below meth c D cl A nL cells slots Q lv ws pc st0 := fun ls H locs hl hP hD hS => by
  have hPc := hP.sub isC (z_fm isC hC)
  have hDc := hD.sub isC hnC hC
  have hFc := va_free hD hS C.2.2.2.2.2.2 isC hC
  refine va_callv (va_runI (As := As) (rest := st) ⟨C.1, C.2.1, C.2.2.1, C.2.2.2.1, C.2.2.2.2.1⟩ (hM H.size) cw ⟨z_blind, fun U hU hW => ⟨rfl, by rw [hU], by rw [hU]; exact hPc, ⟨va_K.moved hW.alike C.2.2.2.2.2.1.1, zNs.moved hW C.2.2.2.2.2.1.2⟩, hDc.weaken (fun _ _ _ _ => trivial)⟩⟩ rfl hn hl.1 hst (lv_room hroom) d hf) hS (fun q _ h => hFc q h) hFc (fun u t H1 locs1 ht hvm hw hB hz1 hk1 hS1 => ?_)
  obtain ⟨hP1, hK1, hD1⟩ := hB
  rw [ht] at hP1
  obtain ⟨hP2, hD2⟩ := va_join hP hD isC isR hC hR hnR hdis hk1 hFc hP1 hD1
  exact k u hw ls H1 locs1 hl (hP2.sub isJ (z_fm isJ (hJ u))) (hD2.sub isJ hnJ (hJ u)) hS1
theorem z_callINv (C : zCx p s m args c cc nL own Ts D cl tys A) {y : MethodName} {bytes : ByteArray} {maxL mc ms n index : Nat} {wy : List Cond} {rm : Room} {S : Type} {As : List Value} {b : Nat} {w0 wr : va_W} {w wj : S → va_W} {post : S → Prop} {st0 : List Value}
    (hM : zCv l y wy rm D cl tys (.ref b :: As) w0 w post mc ms) {host : String} (cw : va_CN R s args own index y host bytes maxL none wy rm mc ms n ∧ y.name = "<init>" ∧ (Cond.instanceMethod y).before args s = true) (isC isR isJ : List Nat) (hC : isC.map (fun i => ws[i]?) = w0.map some) (hnC : va_nd isC = true) (hR : isR.map (fun i => ws[i]?) = wr.map some) (hnR : va_nd isR = true) (hdis : ∀ i ∈ isR, i ∉ isC) (hJ : ∀ u, isJ.map (fun i => (wr ++ w u)[i]?) = (wj u).map some) (hnJ : va_nd isJ = true)
    (hn : As.length = n) (hst : st0 = As.reverse ++ .ref b :: st) (hroom : (st.map fun v => v.category).sum ≤ 8) (d : decode cc pc = .ok (.invokespecial index, 3)) (hf : cells + mc ≤ R.cells ∧ slots + ms ≤ R.slots)
    (k : ∀ u : S, post u → zW p l e R s m args below meth c D cl A nL (cells + mc) (slots + ms) Q lv (wj u) (pc + 3) st) : zW p l e R s m args below meth c D cl A nL cells slots Q lv ws pc st0 := fun ls H locs hl hP hD hS => by
  have hPc := hP.sub isC (z_fm isC hC)
  have hDc := hD.sub isC hnC hC
  have hFc := va_free hD hS C.2.2.2.2.2.2 isC hC
  refine va_callv (va_runIN (As := As) (rest := st) ⟨C.1, C.2.1, C.2.2.1, C.2.2.2.1, C.2.2.2.2.1⟩ (hM H.size) cw ⟨z_blind, fun U hU hW => ⟨rfl, by rw [hU], by rw [hU]; exact hPc, ⟨va_K.moved hW.alike C.2.2.2.2.2.1.1, zNs.moved hW C.2.2.2.2.2.1.2⟩, hDc.weaken (fun _ _ _ _ => trivial)⟩⟩ rfl hn hl.1 hst (lv_room hroom) d hf) hS (fun q _ h => hFc q h) hFc (fun u t H1 locs1 ht hvm hw hB hz1 hk1 hS1 => ?_)
  obtain ⟨hP1, hK1, hD1⟩ := hB
  rw [ht] at hP1
  obtain ⟨hP2, hD2⟩ := va_join hP hD isC isR hC hR hnR hdis hk1 hFc hP1 hD1
  exact k u hw ls H1 locs1 hl (hP2.sub isJ (z_fm isJ (hJ u))) (hD2.sub isJ hnJ (hJ u)) hS1
theorem z_iret (C : zCx p s m args c cc nL own Ts D cl tys A) {S : Type} {w : S → va_W} {post : Int32 → S → Prop} {v : Int32} (hr : meth.sig.returnType = some .int) (hlocks : meth.locks = false) (u : S) (hu : w u = ws) (hp : post v u) (d : decode cc pc = .ok (.ireturn, 1)) : zW p l e R s m args below meth c D cl A nL cells slots (MQ below (va_Qi post (zB D cl tys w A) A) args s cells slots A) lv ws pc [.int v] := fun ls H locs hl hP hD hS =>
  W.iret C.1 C.2.1 hr (fun t ht hW => ⟨⟨v, u, rfl, hp, by rw [hu, ht]; exact hP, va_K.moved hW.alike C.2.2.2.2.2.1.1, by rw [hu]; exact hD⟩, hS.F ht⟩) hS.2.2 d hlocks
theorem z_zret (C : zCx p s m args c cc nL own Ts D cl tys A) {S : Type} {w : S → va_W} {post : Int32 → S → Prop} {v : Int32} {ty : FieldType} (hr : meth.sig.returnType = some ty) (hn : narrow ty (.int v) = .int v) (hlocks : meth.locks = false) (u : S) (hu : w u = ws) (hp : post v u) (d : decode cc pc = .ok (.ireturn, 1)) : zW p l e R s m args below meth c D cl A nL cells slots (MQ below (va_Qi post (zB D cl tys w A) A) args s cells slots A) lv ws pc [.int v] := fun ls H locs hl hP hD hS =>
  W.zret C.1 C.2.1 hr hn (fun t ht hW => ⟨⟨v, u, rfl, hp, by rw [hu, ht]; exact hP, va_K.moved hW.alike C.2.2.2.2.2.1.1, by rw [hu]; exact hD⟩, hS.F ht⟩) hS.2.2 d hlocks
theorem z_dret (C : zCx p s m args c cc nL own Ts D cl tys A) {S : Type} {w : S → va_W} {post : UInt64 → S → Prop} {v : UInt64} (hr : meth.sig.returnType = some .double) (hlocks : meth.locks = false) (u : S) (hu : w u = ws) (hp : post v u) (d : decode cc pc = .ok (.dreturn, 1)) : zW p l e R s m args below meth c D cl A nL cells slots (MQ below (va_Qd post (zB D cl tys w A) A) args s cells slots A) lv ws pc [.double v] := fun ls H locs hl hP hD hS =>
  W.dret C.1 C.2.1 hr (fun t ht hW => ⟨⟨v, u, rfl, hp, by rw [hu, ht]; exact hP, va_K.moved hW.alike C.2.2.2.2.2.1.1, by rw [hu]; exact hD⟩, hS.F ht⟩) hS.2.2 d hlocks
theorem z_vret (C : zCx p s m args c cc nL own Ts D cl tys A) {S : Type} {w : S → va_W} {post : S → Prop} (hr : meth.sig.returnType = none) (hlocks : meth.locks = false) (u : S) (hu : w u = ws) (hp : post u) (d : decode cc pc = .ok (.return_, 1)) : zW p l e R s m args below meth c D cl A nL cells slots (MQ below (va_Qv post (zB D cl tys w A) A) args s cells slots A) lv ws pc [] := fun ls H locs hl hP hD hS =>
  W.vret C.1 C.2.1 hr (fun t ht hW => ⟨⟨u, rfl, hp, by rw [hu, ht]; exact hP, va_K.moved hW.alike C.2.2.2.2.2.1.1, by rw [hu]; exact hD⟩, hS.F ht⟩) hS.2.2 d hlocks
theorem z_meti {y : MethodName} {wy wy' : List Cond} {rm : Room} {maxL : Nat} {ret : Option FieldType} {av : List Value} {w0 : va_W} {S : Type} {w : S → va_W} {post : Int32 → S → Prop} {mc ms : Nat} (hy : plainName y.cls = true) (hw : wy = Cond.code y cc maxL ret :: wy') (ha : (lg_sl av).length ≤ maxL)
    (body : ∀ (p : Program) (e : Env) (s : State) (m : MethodId) (args : Array Value) (below : List Frame) (meth : Method) (c : Code) (A : Nat → Prop), zCx p s m args c cc maxL y.cls wy' D cl tys A → meth.sig.returnType = ret → meth.locks = false → meth.name = y.name →
      zW p l e (headSpec wy rm).room s m args below meth c D cl A maxL 0 0 (MQ below (va_Qi post (zB D cl tys w A) A) args s mc ms A) (lv_args 0 av) w0 0 []) : zCi l y wy rm D cl tys av w0 w post mc ms := by
  intro sz
  refine Met.ofW (cc := cc) (maxL := maxL) (ret := ret) hy hw ?_
  intro p e s m args below meth c s₁ B hml hv
  obtain ⟨rfl, hsz, hP, hK, hD0⟩ := hv
  subst hsz
  have hts := atoms_spec (ws := wy) B.pre
  have hown : s.vm.findClass y.cls = some m.cls := findClass_of_methodNamed B.named
  have hD := hD0.self (sz := s.heap.size)
  have hl := lv_entry av (n := maxL) ha
  rw [lg_entry_eq]
  exact body p e s m _ below meth c _ ⟨B.exec, B.bytes, hml, hown, fun w h => hts w (by rw [hw]; exact List.mem_cons_of_mem _ h), hK, fun q h => Or.inr h⟩ B.returns B.notSynchronized (name_of_methodNamed B.named B.method).1 _ _ _ hl hP hD va_S.rf
theorem z_metd {y : MethodName} {wy wy' : List Cond} {rm : Room} {maxL : Nat} {ret : Option FieldType} {av : List Value} {w0 : va_W} {S : Type} {w : S → va_W} {post : UInt64 → S → Prop} {mc ms : Nat} (hy : plainName y.cls = true) (hw : wy = Cond.code y cc maxL ret :: wy') (ha : (lg_sl av).length ≤ maxL)
    (body : ∀ (p : Program) (e : Env) (s : State) (m : MethodId) (args : Array Value) (below : List Frame) (meth : Method) (c : Code) (A : Nat → Prop), zCx p s m args c cc maxL y.cls wy' D cl tys A → meth.sig.returnType = ret → meth.locks = false → meth.name = y.name →
      zW p l e (headSpec wy rm).room s m args below meth c D cl A maxL 0 0 (MQ below (va_Qd post (zB D cl tys w A) A) args s mc ms A) (lv_args 0 av) w0 0 []) : zCd l y wy rm D cl tys av w0 w post mc ms := by
  intro sz
  refine Met.ofW (cc := cc) (maxL := maxL) (ret := ret) hy hw ?_
  intro p e s m args below meth c s₁ B hml hv
  obtain ⟨rfl, hsz, hP, hK, hD0⟩ := hv
  subst hsz
  have hts := atoms_spec (ws := wy) B.pre
  have hown : s.vm.findClass y.cls = some m.cls := findClass_of_methodNamed B.named
  have hD := hD0.self (sz := s.heap.size)
  have hl := lv_entry av (n := maxL) ha
  rw [lg_entry_eq]
  exact body p e s m _ below meth c _ ⟨B.exec, B.bytes, hml, hown, fun w h => hts w (by rw [hw]; exact List.mem_cons_of_mem _ h), hK, fun q h => Or.inr h⟩ B.returns B.notSynchronized (name_of_methodNamed B.named B.method).1 _ _ _ hl hP hD va_S.rf
theorem z_metv {y : MethodName} {wy wy' : List Cond} {rm : Room} {maxL : Nat} {ret : Option FieldType} {av : List Value} {w0 : va_W} {S : Type} {w : S → va_W} {post : S → Prop} {mc ms : Nat} (hy : plainName y.cls = true) (hw : wy = Cond.code y cc maxL ret :: wy') (ha : (lg_sl av).length ≤ maxL)
    (body : ∀ (p : Program) (e : Env) (s : State) (m : MethodId) (args : Array Value) (below : List Frame) (meth : Method) (c : Code) (A : Nat → Prop), zCx p s m args c cc maxL y.cls wy' D cl tys A → meth.sig.returnType = ret → meth.locks = false → meth.name = y.name →
      zW p l e (headSpec wy rm).room s m args below meth c D cl A maxL 0 0 (MQ below (va_Qv post (zB D cl tys w A) A) args s mc ms A) (lv_args 0 av) w0 0 []) : zCv l y wy rm D cl tys av w0 w post mc ms := by
  intro sz
  refine Met.ofW (cc := cc) (maxL := maxL) (ret := ret) hy hw ?_
  intro p e s m args below meth c s₁ B hml hv
  obtain ⟨rfl, hsz, hP, hK, hD0⟩ := hv
  subst hsz
  have hts := atoms_spec (ws := wy) B.pre
  have hown : s.vm.findClass y.cls = some m.cls := findClass_of_methodNamed B.named
  have hD := hD0.self (sz := s.heap.size)
  have hl := lv_entry av (n := maxL) ha
  rw [lg_entry_eq]
  exact body p e s m _ below meth c _ ⟨B.exec, B.bytes, hml, hown, fun w h => hts w (by rw [hw]; exact List.mem_cons_of_mem _ h), hK, fun q h => Or.inr h⟩ B.returns B.notSynchronized (name_of_methodNamed B.named B.method).1 _ _ _ hl hP hD va_S.rf
theorem z_objInit (C : zCx p s m args c cc nL own Ts D cl tys A) {idx a : Nat} (d : decode cc pc = .ok (.invokespecial idx, 3)) (hlink : Cond.methodLink own idx Lib.objectInit ∈ Ts) (hinst : Cond.instanceMethod Lib.objectInit ∈ Ts) (hcode : Cond.code Lib.objectInit ⟨#[0xb1]⟩ 1 none ∈ Ts) (hfr : 1 ≤ R.frames) (hlo : (st.map fun v => v.category).sum + 12 ≤ R.locals) (k : zW p l e R s m args below meth c D cl A nL cells slots Q lv ws (pc + 3) st) : zW p l e R s m args below meth c D cl A nL cells slots Q lv ws pc (.ref a :: st) := fun ls H locs hl hP hD hS => by
  refine W.objInit C.1 C.2.1 C.2.2.2.1 (C.2.2.2.2.1 _ hlink) (C.2.2.2.2.1 _ hinst) (C.2.2.2.2.1 _ hcode) rfl (hl.1.trans C.2.2.1.symm) rfl d hfr ?_ (k ls H locs hl hP hD hS)
  show 2 * 0 + _ + 12 ≤ _
  omega
theorem z_new (C : zCx p s m args c cc nL own Ts D cl tys A) {C9 : String} {T : u_T} {N ci index : Nat} {fs : List Value} (hin : ∀ w ∈ u_ws C9 T N, w ∈ Ts) (ty : Nat → FieldType) (hty : ∀ k, k < N → parseFieldDescriptor (T k).2.2.1 = some (ty k)) (hcl : Cond.classLink own index C9 ∈ Ts) (hinst : Cond.instantiable C9 N ∈ Ts) (hini : Cond.initialized C9 ∈ Ts) (hc : cl[ci]? = some (C9, T, N)) (hfs : ∀ j, j < N → defaultValue (ty j) = vp_V fs j) (hcells : cells + 1 ≤ R.cells) (hslots : slots + N ≤ R.slots) (d : decode cc pc = .ok (.new index, 3))
    (k : ∀ q : Nat, zW p l e R s m args below meth c D cl A nL (cells + 1) (slots + N) Q lv (ws ++ [(q, .inr (ci, fs))]) (pc + 3) (.ref q :: st)) : zW p l e R s m args below meth c D cl A nL cells slots Q lv ws pc st := fun ls H locs hl hP hD hS =>
  va_new C.1 C.2.1 C.2.2.2.2.1 hin ty hty C.2.2.2.1 (C.2.2.2.2.1 _ hcl) (C.2.2.2.2.1 _ hinst) (C.2.2.2.2.1 _ hini) C.2.2.2.2.2.1.1 hP hD hS C.2.2.2.2.2.2 hc hfs hcells hslots d (fun q H hP hD hS => k q ls H locs hl hP hD hS)
theorem z_ra {U : State} {c1 c2 : ClassId} {ty : FieldType} (h1 : va_RA U c1 ty) (h2 : va_RA U c2 ty) : c1 = c2 := by
  cases ty with
  | object n =>
    obtain ⟨_, _, _, _, _, h3⟩ := h1
    obtain ⟨_, _, _, _, _, h4⟩ := h2
    exact Option.some.inj (h3.symm.trans h4)
  | _ => exact Option.some.inj (Eq.trans (Eq.symm h1) h2)
theorem z_newa (C : zCx p s m args c cc nL own Ts D cl tys A) {atype : ArrayType} {ty : FieldType} {cA : ClassId} {n : Int32} {N' : Nat} {a0 : vp_A} (t0 : Nat) (harr : Cond.arrayClass (newarray.typeOf atype) ∈ Ts) (hty : newarray.typeOf atype = ty) (ht : tys[t0]? = some (cA, ty)) (ha : ∀ cA : ClassId, vp_cell cA a0 = arrV cA N' (fun _ => defaultValue ty)) (hn : ¬ n < 0) (hN : n.toNatClampNeg = N') (hbytes : N' * componentBytes ty ≤ 536870912) (hcells : cells + 1 ≤ R.cells) (hslots : slots + N' ≤ R.slots) (d : decode cc pc = .ok (.newarray atype, 2))
    (k : ∀ q : Nat, zW p l e R s m args below meth c D cl A nL (cells + 1) (slots + N') Q lv (ws ++ [(q, .inl (cA, a0))]) (pc + 2) (.ref q :: st)) : zW p l e R s m args below meth c D cl A nL cells slots Q lv ws pc (.int n :: st) := fun ls H locs hl hP hD hS =>
  va_newa C.1 C.2.1 (C.2.2.2.2.1 _ harr) hty C.2.2.2.2.2.1.1 hP hD hS C.2.2.2.2.2.2 ha hn hN hbytes hcells hslots d (fun q cA' H hK hP hD hS => by
    have h1 := (hK.2 tys.length (cA', ty) (by simp)).2
    have h2 := (C.2.2.2.2.2.1.1.2 t0 (cA, ty) ht).2
    cases z_ra h1 h2
    exact k q ls H locs hl hP hD hS)
theorem z_newq (C : zCx p s m args c cc nL own Ts D cl tys A) {C9 : String} {cA : ClassId} {index : Nat} {n : Int32} {N' : Nat} (t0 : Nat) (hcl : Cond.classLink own index C9 ∈ Ts) (hov : va_AO C9 s) (ht : tys[t0]? = some (cA, .object C9)) (hn : ¬ n < 0) (hN : n.toNatClampNeg = N') (hbytes : N' * 4 ≤ 536870912) (hcells : cells + 1 ≤ R.cells) (hslots : slots + N' ≤ R.slots) (d : decode cc pc = .ok (.anewarray index, 3))
    (k : ∀ q : Nat, zW p l e R s m args below meth c D cl A nL (cells + 1) (slots + N') Q lv (ws ++ [(q, .inl (cA, N', .inr (.inr (.inr (.inr (fun _ => none))))))]) (pc + 3) (.ref q :: st)) : zW p l e R s m args below meth c D cl A nL cells slots Q lv ws pc (.int n :: st) := fun ls H locs hl hP hD hS =>
  va_newq C.1 C.2.1 C.2.2.2.1 (C.2.2.2.2.1 _ hcl) hov C.2.2.2.2.2.1.1 hP hD hS C.2.2.2.2.2.2 hn hN hbytes hcells hslots d (fun q cA' H hK hP hD hS => by
    have h1 := (hK.2 tys.length (cA', .object C9) (by simp)).2
    have h2 := (C.2.2.2.2.2.1.1.2 t0 (cA, .object C9) ht).2
    cases z_ra h1 h2
    exact k q ls H locs hl hP hD hS)
end ZWC
