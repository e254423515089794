/-! how often a loop may go round, and how deep a call may call itself: numbers that no one unfolds -/
noncomputable def mv_F : Nat := Classical.choose (p := fun n : Nat => n = 1000000) ⟨1000000, rfl⟩
theorem mv_F_eq : mv_F = 1000000 := Classical.choose_spec (p := fun n : Nat => n = 1000000) ⟨1000000, rfl⟩
noncomputable def mv_R : Nat := Classical.choose (p := fun n : Nat => n = 10) ⟨10, rfl⟩
theorem mv_R_eq : mv_R = 10 := Classical.choose_spec (p := fun n : Nat => n = 10) ⟨10, rfl⟩
