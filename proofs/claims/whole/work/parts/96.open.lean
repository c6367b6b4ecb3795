/-! the calls that are not yet proved -/
theorem op_text {has : Bool} {N : Nat} (hN : N ≤ 511) (x1 : Int) (h1 : bw x1 = x1) : OpE has N (fX10_text x1) (fX11_text x1) := by
  sorry
theorem op_cut {has : Bool} {N : Nat} (hN : N ≤ 511) (x1 x2 : Int) (h1 : bw x1 = x1) (h2 : bw x2 = x2) : OpE has N (fX10_cut x1 x2) (fX11_cut x1 x2) := by
  sorry
