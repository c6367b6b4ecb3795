/-! who is wed, as bits -/
theorem wedSet_c {m : Int} {w : Int → Int} {σ : Sg} {b : Nat} (hC : CW m w σ b) : ∃ K : Nat, fX1_wedSet (b + 3) σ = some (K : Int) ∧ K < 4096 ∧ ∀ p : Nat, p < 12 → K.testBit p = decide ((p : Int) < w 85 ∧ w (68 + (p : Int)) ≠ -1) := by
  have h12 := hC.1.1.2.2.2.2.2.1
  have e6 : rd σ (b + 3) 6 = w 85 := hC.2.2.2.1.1
  have go : ∀ (r n : Nat) (i : Nat) (a : Nat), (i : Int) + r = w 85 → r < n → a < 4096 → (∀ p : Nat, p < 12 → a.testBit p = decide (p < i ∧ w (68 + (p : Int)) ≠ -1)) → ∃ K : Nat, fX1_wedSet_L4 (b + 3) σ n (a : Int) (i : Int) = some (K : Int) ∧ K < 4096 ∧ ∀ p : Nat, p < 12 → K.testBit p = decide ((p : Int) < w 85 ∧ w (68 + (p : Int)) ≠ -1) := by
    intro r
    induction r with
    | zero =>
      intro n i a hi hn ha hb
      cases n with
      | zero => omega
      | succ n =>
        refine ⟨a, ?_, ha, fun p hp => ?_⟩
        · rw [fX1_wedSet_L4, e6, if_neg (by omega)]
        · rw [hb p hp]
          have : p < i ↔ (p : Int) < w 85 := by omega
          simp only [this]
    | succ r ih =>
      intro n i a hi hn ha hb
      cases n with
      | zero => omega
      | succ n =>
        have e8 : rd σ (b + 3 + 5) (i : Int) = w (68 + (i : Int)) := (hC.2.2.2.1.2 (i : Int) ⟨by omega, by omega⟩).2.2.2.2.1
        have ei : bw ((i : Int) + 1) = ((i + 1 : Nat) : Int) := by rw [bw_id (by omega) (by omega)]; omega
        rw [fX1_wedSet_L4, e6, if_pos (by omega), grd_pos (by omega), e8, ei]
        by_cases c : w (68 + (i : Int)) = -1
        · rw [if_pos c]
          refine ih n (i + 1) a (by omega) (by omega) ha (fun p hp => ?_)
          rw [hb p hp]
          by_cases e : p = i
          · rw [e]; simp [c]
          · have : p < i + 1 ↔ p < i := by omega
            simp only [this]
        · rw [if_neg c, bor_bit (by omega) (by omega) (by omega) (by omega)]
          refine ih n (i + 1) ((a : Int).toNat ||| 2 ^ (i : Int).toNat) (by omega) (by omega) ?_ (fun p hp => ?_)
          · exact Nat.or_lt_two_pow (n := 12) (by omega) (Nat.pow_lt_pow_right (by decide) (by omega))
          · rw [show (a : Int).toNat = a by omega, show (i : Int).toNat = i by omega, Nat.testBit_or, hb p hp, Nat.testBit_two_pow]
            by_cases e : p = i
            · rw [e]; simp [c]
            · have : p < i + 1 ↔ p < i := by omega
              have e2 : ¬ i = p := fun z => e z.symm
              simp [this, e2]
  unfold fX1_wedSet
  exact go (w 85).toNat FU 0 0 (by omega) (by unfold FU; omega) (by decide) (fun p hp => by simp)
