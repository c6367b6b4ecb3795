/-! which rows a text's lines lie in -/
theorem rowsOf_ok {sk : List Sk} {b : Nat} (h : ocW sk b) (k : Int) : ocR sk (fX9_rowsOf b k) (nRows k) := by
  unfold fX9_rowsOf nRows
  by_cases h1 : k = 1
  · rw [if_pos h1, if_pos h1]; exact h.2.2.2.2.2.1
  · rw [if_neg h1, if_neg h1]
    by_cases h2 : k = 2
    · rw [if_pos h2]; exact h.2.2.2.2.2.2.1
    · rw [if_neg h2]; exact h.2.2.2.2.2.2.2.1
