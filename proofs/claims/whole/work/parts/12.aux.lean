/-! ===== what the written functions and walks use ===== -/
/-- more rounds than any loop makes -/
def fu : Nat := 4096
/-- a store gets a name -/
def nm {α β : Type} (a : α) (f : α → Option β) : Option β := f a
theorem nm_some {α β : Type} {a : α} {f : α → Option β} {x : β} (h : nm a f = some x) : ∃ w, w = a ∧ f w = some x := ⟨a, rfl, h⟩
theorem isLp_lt {q : Nat} {i : Int32} (h : isLp q) (hi : ib i (ln (q + 4)) = true) : Int32.toNatClampNeg i < 3 := by
  obtain ⟨-, -, -, -, -, -, -, -, -, -, hq, -⟩ := h
  simp only [ib, hq, Bool.and_eq_true, Bool.not_eq_true', decide_eq_false_iff_not, decide_eq_true_eq] at hi
  exact hi.2
theorem isLp_row {q : Nat} {i : Int32} (h : isLp q) (hi : ib i (ln (q + 4)) = true) : isRow (q + 4 + 2 + 2 * (Int32.toNatClampNeg i)) := by
  have h3 := isLp_lt h hi
  obtain ⟨-, -, -, -, -, h6, h8, h10, -⟩ := h
  rcases (show Int32.toNatClampNeg i = 0 ∨ Int32.toNatClampNeg i = 1 ∨ Int32.toNatClampNeg i = 2 by omega) with e | e | e <;> rw [e]
  · exact h6
  · exact h8
  · exact h10
