/-! how many rounds a loop's function may take: a number that no unfolding counts down -/
noncomputable def zfu : Nat := Classical.choose (⟨1048576, rfl⟩ : ∃ n : Nat, n = 1048576)
theorem zfu_eq : zfu = 1048576 := Classical.choose_spec (⟨1048576, rfl⟩ : ∃ n : Nat, n = 1048576)
