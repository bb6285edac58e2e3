theorem ilr_35 {j : Nat} (hj : j < 2) : isA170 (35 + 1 + j) := by
  have e : ∀ j, j < 2 → isA170 (35 + 1 + j) := by unfold isA170; decide
  exact e j hj
theorem ia_St_1 {a : Nat} (h : isSt a) : isA170 (a + 1) := by
  unfold isA170
  rcases h with rfl | rfl <;> decide
