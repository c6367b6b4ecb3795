/-! meets 2, the class: one day of vows over the bits -/
def fvI (w : Int → Int) (d : Int) : Nat → Int → Int → Int × Int
  | 0, K, _ => (-1, K)
  | n + 1, K, i => if w (151 + 4 * i) = d then (if band K (bor (bshl 1 (w (152 + 4 * i))) (bshl 1 (w (153 + 4 * i)))) = 0 then fvI w d n (bor K (bor (bshl 1 (w (152 + 4 * i))) (bshl 1 (w (153 + 4 * i))))) (i + 1) else (i, K)) else fvI w d n K (i + 1)
theorem voidL_c {m : Int} {w : Int → Int} {σ : Sg} {b : Nat} (hC : CW m w σ b) {k : Int → Int → Option Int} {x2 d : Int} : ∀ (r n : Nat) (K i : Int), i + r = w 87 → 0 ≤ i → r < n → fX9_firstVoid_L30 b σ k x2 d n K i = if (fvI w d r K i).1 = -1 then k (fvI w d r K i).2 (bw (d + 1)) else some (fvI w d r K i).1
  | 0, n, K, i, hi, i0, hn => by
    have e2 : rd σ (b + 17) 2 = w 87 := hC.2.2.2.2.1.1.2.1
    cases n with
    | zero => omega
    | succ n =>
      rw [fX9_firstVoid_L30, e2, if_neg (by omega), fvI, if_pos rfl]
  | r + 1, n, K, i, hi, i0, hn => by
    have e2 : rd σ (b + 17) 2 = w 87 := hC.2.2.2.2.1.1.2.1
    have hb := hC.1.2.2.2.1.1
    obtain ⟨t1, t2, t3, t4⟩ := hC.2.2.2.2.1.1.2.2 i i0 (by omega)
    have c0 : fX6_cell (b + 17) 64 i 0 σ = some (w (151 + 4 * i)) := by
      rw [cell_c e2 (by omega) (by omega) (by omega) (by omega), Int.add_zero]
      exact congrArg some t1
    have c1 : fX6_cell (b + 17) 64 i 1 σ = some (w (152 + 4 * i)) := by
      rw [cell_c e2 (by omega) (by omega) (by omega) (by omega)]
      exact congrArg some t2
    have c2 : fX6_cell (b + 17) 64 i 2 σ = some (w (153 + 4 * i)) := by
      rw [cell_c e2 (by omega) (by omega) (by omega) (by omega)]
      exact congrArg some t3
    cases n with
    | zero => omega
    | succ n =>
      rw [fX9_firstVoid_L30, e2, if_pos (by omega), c0, Option.bind_some, bw_id (z := i + 1) (by omega) (by omega)]
      by_cases z : w (151 + 4 * i) = d
      · rw [if_pos z, c1, Option.bind_some, c2, Option.bind_some]
        by_cases y : band K (bor (bshl 1 (w (152 + 4 * i))) (bshl 1 (w (153 + 4 * i)))) = 0
        · have hf : fvI w d (r + 1) K i = fvI w d r (bor K (bor (bshl 1 (w (152 + 4 * i))) (bshl 1 (w (153 + 4 * i))))) (i + 1) := by rw [fvI, if_pos z, if_pos y]
          rw [if_pos y, hf]
          exact voidL_c hC r n _ (i + 1) (by omega) (by omega) (by omega)
        · have hf : fvI w d (r + 1) K i = (i, K) := by rw [fvI, if_pos z, if_neg y]
          rw [if_neg y, hf, if_neg (show ¬ i = -1 by omega)]
      · have hf : fvI w d (r + 1) K i = fvI w d r K (i + 1) := by rw [fvI, if_neg z]
        rw [if_neg z, hf]
        exact voidL_c hC r n K (i + 1) (by omega) (by omega) (by omega)
