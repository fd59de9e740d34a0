/-! what the pure part owes -/
theorem z_pure : ∃ Inv : zInv, zSim Inv ∧ Inv 0 (-1 : Int32) (0 : Int32) (0 : Int32) (0 : Int32) (fun _ => 0) (0 : Int32) (0 : Int32) (0 : Int32) (0 : Int32) (0 : Int32) (0 : Int32) (0 : Int32) (0 : Int32) (0 : Int32) (fun _ => 0) (fun _ => 0) (fun _ => 0) (fun _ => 0) (fun _ => 0) (fun _ => 0) (fun _ => 0) (fun _ => 0) (fun _ => 0) (fun _ => 0) (fun _ _ => 0) (0 : Int32) (0 : Int32) (0 : Int32) FP.dconst0 FP.dconst0 FP.dconst0 (0 : Int32) (0 : Int32) (0 : Int32) (0 : Int32) (fun _ => 0) (fun _ => 0) (fun _ => 0) (fun _ _ => 0) (fun _ _ => 0) (fun _ _ => 0) (fun _ _ => 0) (fun _ _ => 0) (fun _ _ => 0) (0 : Int32) (0 : Int32) (0 : Int32) (fun _ => 0) (0 : Int32) (0 : Int32) (0 : Int32) (0 : Int32) (-1 : Int32) (0 : Int32) (0 : Int32) (0 : Int32) (0 : Int32) (0 : Int32) (0 : Int32) (0 : Int32) (0 : Int32) (0 : Int32) (0 : Int32) (0 : Int32) (fun _ => 0) (fun _ => 0) (fun _ => 0) (fun _ => 0) (fun _ => 0) (fun _ => 0) (fun _ => 0) (fun _ => 0) (fun _ => 0) (fun _ => 0) (fun _ => 0) (fun _ => 0) (fun _ => 0) (fun _ => 0) (fun _ => 0) (fun _ => 0) (fun _ => 0) (fun _ => 0) (fun _ => 0) (fun _ => 0) (fun _ => 0) (fun _ => 0) (fun _ => 0) (fun _ => 0) (fun _ => 0) (fun _ => 0) (fun _ => 0) (fun _ => 0) := by
  refine ⟨zI, ⟨o_dm, o_type, o_compile, o_turn, o_fire, o_tick, o_variable, o_gathered, o_many, o_record, o_count⟩, rfl, rfl, ⟨0, fun _ => 0, by omega, rfl, rfl, fun i hi => absurd hi (by omega)⟩, ?_, ?_, ⟨0, by omega, rfl, rfl⟩, rfl, rfl, ?_, ?_, ⟨0, 0, by omega, by omega, rfl, rfl, rfl, fun i hi => absurd hi (by omega)⟩⟩
  · intro k hk
    exact ⟨rfl, rfl, rfl, rfl, Or.inl rfl, Or.inl rfl, fun _ => rfl⟩
  · intro k hk ht
    exact absurd rfl ht
  · exact ⟨fun j _ => ⟨rfl, zg_0⟩, fun j _ => ⟨rfl, zg_0⟩⟩
  · intro g hg
    exact ⟨0, by omega, rfl, rfl, fun r hr => absurd hr (by omega), fun r _ _ => ⟨rfl, rfl, rfl, fun b _ => ⟨rfl, rfl⟩⟩⟩
