/-! the calls that are not yet proved -/
theorem op_text {has : Bool} {N : Nat} (hN : N ≤ 511) (x1 : Int) (h1 : bw x1 = x1) : OpE has N (fX10_text x1) (fX11_text x1) := by
  sorry
