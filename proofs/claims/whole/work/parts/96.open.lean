/-! the calls that are not yet proved -/
theorem op_text {has : Bool} {N : Nat} (hN : N ≤ 511) (x1 : Int) (h1 : bw x1 = x1) : OpE has N (fX10_text x1) (fX11_text x1) := by
  sorry
theorem op_meets {has : Bool} {N : Nat} (hN : N ≤ 511) (x1 : Int) (h1 : bw x1 = x1) : OpE has N (fX10_meets x1) (fX11_meets x1) := by
  sorry
theorem op_stable {has : Bool} {N : Nat} (hN : N ≤ 511) (x1 : Int) (h1 : bw x1 = x1) : OpE has N (fX10_stable x1) (fX11_stable x1) := by
  sorry
theorem op_best {has : Bool} {N : Nat} (hN : N ≤ 511) (x1 : Int) (h1 : bw x1 = x1) : OpE has N (fX10_best x1) (fX11_best x1) := by
  sorry
theorem op_bares {has : Bool} {N : Nat} (hN : N ≤ 511) (x1 x2 : Int) (h1 : bw x1 = x1) (h2 : bw x2 = x2) : OpE has N (fX10_bares x1 x2) (fX11_bares x1 x2) := by
  sorry
theorem op_who {has : Bool} {N : Nat} (hN : N ≤ 511) (x1 : Int) (h1 : bw x1 = x1) : OpE has N (fX10_who x1) (fX11_who x1) := by
  sorry
theorem op_ask {has : Bool} {N : Nat} (hN : N ≤ 511) (x1 : Int) (h1 : bw x1 = x1) : OpE has N (fX10_ask x1) (fX11_ask x1) := by
  sorry
theorem op_safe {has : Bool} {N : Nat} (hN : N ≤ 511) (x1 x2 : Int) (h1 : bw x1 = x1) (h2 : bw x2 = x2) : OpE has N (fX10_safe x1 x2) (fX11_safe x1 x2) := by
  sorry
theorem op_cut {has : Bool} {N : Nat} (hN : N ≤ 511) (x1 x2 : Int) (h1 : bw x1 = x1) (h2 : bw x2 = x2) : OpE has N (fX10_cut x1 x2) (fX11_cut x1 x2) := by
  sorry
theorem op_rounds {has : Bool} {N : Nat} (hN : N ≤ 511) (x1 : Int) (h1 : bw x1 = x1) : OpE has N (fX10_rounds x1) (fX11_rounds x1) := by
  sorry
theorem op_tribe {has : Bool} {N : Nat} (hN : N ≤ 511) (x1 : Int) (h1 : bw x1 = x1) : OpP has N (fX10_tribe x1) (fX11_tribe x1) := by
  sorry
theorem op_hopes {has : Bool} {N : Nat} (hN : N ≤ 511) (x1 : Int) (h1 : bw x1 = x1) : OpP has N (fX10_hopes x1) (fX11_hopes x1) := by
  sorry
