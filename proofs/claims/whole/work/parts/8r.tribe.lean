/-! tribe: closed after as many rounds as there are persons -/
theorem cntN_sub {K L : Nat} : ∀ n : Nat, (∀ j, j < n → K.testBit j = true → L.testBit j = true) → cntN K n ≤ cntN L n ∧ (cntN L n ≤ cntN K n → ∀ j, j < n → K.testBit j = L.testBit j)
  | 0, _ => ⟨Nat.le_refl _, fun _ j hj => by omega⟩
  | n + 1, h => by
    obtain ⟨h1, h2⟩ := cntN_sub n (fun j hj => h j (by omega))
    have h3 := h n (by omega)
    rw [cntN, cntN]
    by_cases a : K.testBit n = true
    · have b := h3 a
      rw [if_pos a, if_pos b]
      refine ⟨by omega, fun hle j hj => ?_⟩
      by_cases e : j = n
      · rw [e, a, b]
      · exact h2 (by omega) j (by omega)
    · rw [if_neg a]
      by_cases b : L.testBit n = true
      · rw [if_pos b]
        exact ⟨by omega, fun hle => by omega⟩
      · rw [if_neg b]
        refine ⟨by omega, fun hle j hj => ?_⟩
        by_cases e : j = n
        · rw [e, Bool.eq_false_iff.mpr a, Bool.eq_false_iff.mpr b]
        · exact h2 (by omega) j (by omega)
theorem cntN_eq {K L n : Nat} (hK : K < 2 ^ n) (hL : L < 2 ^ n) (h : ∀ j, j < n → K.testBit j = true → L.testBit j = true) (hc : cntN L n ≤ cntN K n) : L = K := by
  apply Nat.eq_of_testBit_eq
  intro j
  by_cases e : j < n
  · exact ((cntN_sub n h).2 hc j e).symm
  · have h2 : 2 ^ n ≤ 2 ^ j := Nat.pow_le_pow_right (by decide) (by omega)
    rw [Nat.testBit_lt_two_pow (by omega), Nat.testBit_lt_two_pow (by omega)]
def swpS (w : Int → Int) : Nat → Nat → Nat → Nat
  | 0, _, K => K
  | r + 1, p, K => swpS w r (p + 1) (if K.testBit p then K ||| (w (139 + (p : Int))).toNat else K)
def rnS (w : Int → Int) (n : Nat) : Nat → Nat → Nat
  | 0, K => K
  | r + 1, K => rnS w n r (swpS w n 0 K)
theorem swpS_sub {w : Int → Int} : ∀ (r p K : Nat), ∀ j, K.testBit j = true → (swpS w r p K).testBit j = true
  | 0, _, _, _, h => h
  | r + 1, p, K, j, h => by
    rw [swpS]
    refine swpS_sub r (p + 1) _ j ?_
    split
    · rw [Nat.testBit_or, h]; rfl
    · exact h
theorem swpS_lt {w : Int → Int} {n : Nat} (hk : ∀ p : Nat, p < n → (w (139 + (p : Int))).toNat < 2 ^ n) : ∀ (r p K : Nat), p + r ≤ n → K < 2 ^ n → swpS w r p K < 2 ^ n
  | 0, _, _, _, h => h
  | r + 1, p, K, hp, h => by
    rw [swpS]
    refine swpS_lt hk r (p + 1) _ (by omega) ?_
    split
    · exact Nat.or_lt_two_pow h (hk p (by omega))
    · exact h
theorem rnS_lt {w : Int → Int} {n : Nat} (hk : ∀ p : Nat, p < n → (w (139 + (p : Int))).toNat < 2 ^ n) : ∀ (r K : Nat), K < 2 ^ n → rnS w n r K < 2 ^ n
  | 0, _, h => h
  | r + 1, K, h => rnS_lt hk r _ (swpS_lt hk n 0 K (by omega) h)
theorem rnS_id {w : Int → Int} {n K : Nat} (h : swpS w n 0 K = K) : ∀ r : Nat, rnS w n r K = K
  | 0 => rfl
  | r + 1 => by rw [rnS, h]; exact rnS_id h r
theorem rnS_add {w : Int → Int} {n b : Nat} : ∀ (a K : Nat), rnS w n (a + b) K = rnS w n b (rnS w n a K)
  | 0, K => by rw [Nat.zero_add]; rfl
  | a + 1, K => by
    rw [show a + 1 + b = (a + b) + 1 by omega, rnS, rnS]
    exact rnS_add a _
theorem rnS_fix {w : Int → Int} {n : Nat} (hk : ∀ p : Nat, p < n → (w (139 + (p : Int))).toNat < 2 ^ n) : ∀ (r K : Nat), K < 2 ^ n → n ≤ cntN K n + r → swpS w n 0 (rnS w n r K) = rnS w n r K
  | 0, K, h, hc => by
    have hl := cntN_le (K := swpS w n 0 K) n
    show swpS w n 0 K = K
    exact cntN_eq h (swpS_lt hk n 0 K (by omega) h) (fun j _ hj => swpS_sub n 0 K j hj) (by omega)
  | r + 1, K, h, hc => by
    by_cases e : swpS w n 0 K = K
    · rw [rnS_id e]; exact e
    · have h1 := cntN_sub (K := K) (L := swpS w n 0 K) n (fun j _ hj => swpS_sub n 0 K j hj)
      have h2 : ¬ cntN (swpS w n 0 K) n ≤ cntN K n := fun z => e (cntN_eq h (swpS_lt hk n 0 K (by omega) h) (fun j _ hj => swpS_sub n 0 K j hj) z)
      rw [rnS]
      exact rnS_fix hk r _ (swpS_lt hk n 0 K (by omega) h) (by omega)
theorem rnS_12 {w : Int → Int} {n K : Nat} (hk : ∀ p : Nat, p < n → (w (139 + (p : Int))).toNat < 2 ^ n) (hK : K < 2 ^ n) (hn : n ≤ 12) : rnS w n 12 K = rnS w n n K := by
  rw [show 12 = n + (12 - n) by omega, rnS_add, rnS_id (rnS_fix hk n K hK (by omega))]
theorem sweep_c {m : Int} {w : Int → Int} {σ : Sg} {x3 : Int} {k6 : Int → Int → Option Int} (hC : CW m w σ 1) (hKS : KS w) : ∀ (r n p : Nat) (K : Nat), (p : Int) + r = w 85 → r < n → K < 4096 → fX1_allKinOf_L17 4 σ k6 x3 n (K : Int) (p : Int) = k6 ((swpS w r p K : Nat) : Int) (bw (x3 + 1))
  | 0, n, p, K, hi, hn, hK => by
    have e6 : rd σ 4 6 = w 85 := hC.2.2.2.1.1
    cases n with
    | zero => omega
    | succ n =>
      rw [fX1_allKinOf_L17, e6, if_neg (by omega)]
      rfl
  | r + 1, n, p, K, hi, hn, hK => by
    have e6 : rd σ 4 6 = w 85 := hC.2.2.2.1.1
    have h12 := hC.1.1.2.2.2.2.2.1
    have hp : isP w (p : Int) := ⟨by omega, by omega⟩
    have hkin := (hC.1.2.2.1 _ hp).2.2.2.2.2
    have ek : rd σ 10 (p : Int) = w (139 + (p : Int)) := (hC.2.2.2.1.2 _ hp).2.2.2.2.2
    cases n with
    | zero => omega
    | succ n =>
      rw [fX1_allKinOf_L17, e6, if_pos (by omega), kb_bit (by omega) (by omega) (by omega) (by omega), Int.toNat_natCast, Int.toNat_natCast, bw_id (z := (p : Int) + 1) (by omega) (by omega), swpS]
      by_cases z : K.testBit p = true
      · rw [if_pos z, if_pos rfl, if_pos z, grd_pos (by omega), show rd σ (4 + 6) (p : Int) = w (139 + (p : Int)) from ek, bor_nat (by omega) (by omega) (by omega) (by omega), Int.toNat_natCast]
        exact sweep_c hC hKS r n (p + 1) _ (by omega) (by omega) (Nat.or_lt_two_pow (n := 12) hK (by omega))
      · rw [if_neg z, if_neg (by decide), if_neg z]
        exact sweep_c hC hKS r n (p + 1) _ (by omega) (by omega) hK
theorem sweep_m {w : Int → Int} {σ : Sg} {x3 : Int} {k6 : Int → Int → Option Int} (hW : Wf w) (hw : rd σ 85 = w) : ∀ (r n p : Nat) (K : Nat), (p : Int) + r = w 85 → r < n → K < 4096 → fX11_tribe_L25 σ k6 x3 n (K : Int) (p : Int) = k6 ((swpS w r p K : Nat) : Int) (bw (x3 + 1))
  | 0, n, p, K, hi, hn, hK => by
    cases n with
    | zero => omega
    | succ n =>
      rw [fX11_tribe_L25, hw, if_neg (by omega)]
      rfl
  | r + 1, n, p, K, hi, hn, hK => by
    have h12 := hW.1.2.2.2.2.2.1
    have hp : isP w (p : Int) := ⟨by omega, by omega⟩
    have hkin := (hW.2.2.1 _ hp).2.2.2.2.2
    have e0 : bor (K : Int) 0 = (K : Int) := by
      rw [bor_nat (by omega) (by omega) (by omega) (by omega), Int.toNat_natCast]
      simp
    cases n with
    | zero => omega
    | succ n =>
      rw [fX11_tribe_L25, hw, if_pos (by omega), kb_bit (by omega) (by omega) (by omega) (by omega), Int.toNat_natCast, Int.toNat_natCast, bw_id (z := (p : Int) + 1) (by omega) (by omega), bw_id (z := 139 + (p : Int)) (by omega) (by omega), e0, swpS]
      by_cases z : K.testBit p = true
      · rw [if_pos z, if_pos rfl, if_pos z, grd_pos (by omega), bor_nat (by omega) (by omega) (by omega) (by omega), Int.toNat_natCast]
        exact sweep_m hW hw r n (p + 1) _ (by omega) (by omega) (Nat.or_lt_two_pow (n := 12) hK (by omega))
      · rw [if_neg z, if_neg (by decide), if_neg z]
        exact sweep_m hW hw r n (p + 1) _ (by omega) (by omega) hK
theorem op_tribe {has : Bool} {N : Nat} (hN : N ≤ 511) (x1 : Int) (h1 : bw x1 = x1) : OpP has N (fX10_tribe x1) (fX11_tribe x1) := by
  intro σ h
  have hC := h.1
  have hW := hC.1
  have h12 := hW.1.2.2.2.2.2.1
  have hKS : KS (rd σ 85) := h.2.2.2.1
  unfold fX10_tribe fX11_tribe
  rw [show fX1_has 4 x1 σ = _ from has_c hC x1, isPerson_m hW rfl]
  by_cases c : isP (rd σ 85) x1
  · have p1 := c.1
    have p2 := c.2
    obtain ⟨n, hn⟩ : ∃ n : Nat, rd σ 85 85 = (n : Int) := ⟨(rd σ 85 85).toNat, by omega⟩
    have e6 : rd σ 4 6 = (n : Int) := (show rd σ 4 6 = rd σ 85 85 from hC.2.2.2.1.1).trans hn
    have hk : ∀ p : Nat, p < n → (rd σ 85 (139 + (p : Int))).toNat < 2 ^ n := fun p hp => by
      have := (hKS (p : Int) ⟨by omega, by omega⟩).1
      rw [hn, Int.toNat_natCast] at this
      exact this
    have n4 : (2 : Nat) ^ n ≤ 2 ^ 12 := Nat.pow_le_pow_right (by decide) (by omega)
    have hK : (2 : Nat) ^ x1.toNat < 2 ^ n := Nat.pow_lt_pow_right (by decide) (by omega)
    have gc : ∀ (r m : Nat) (i : Int) (K : Nat), i + r = (n : Int) → 0 ≤ i → r < m → K < 2 ^ n → fX1_allKinOf_L6 4 σ m (K : Int) i = some ((rnS (rd σ 85) n r K : Nat) : Int) := by
      intro r
      induction r with
      | zero =>
        intro m i K hi i0 hm hK
        cases m with
        | zero => omega
        | succ m =>
          rw [fX1_allKinOf_L6, e6, if_neg (by omega)]
          rfl
      | succ r ih =>
        intro m i K hi i0 hm hK
        cases m with
        | zero => omega
        | succ m =>
          rw [fX1_allKinOf_L6, e6, if_pos (by omega), show (0 : Int) = ((0 : Nat) : Int) from rfl, sweep_c hC hKS n FU 0 K (by omega) (by unfold FU; omega) (by omega), bw_id (z := i + 1) (by omega) (by omega), rnS]
          exact ih m (i + 1) _ (by omega) (by omega) (by omega) (swpS_lt hk n 0 K (by omega) hK)
    have gm : ∀ (r m : Nat) (i : Int) (K : Nat), i + r = 12 → 0 ≤ i → r < m → K < 2 ^ n → fX11_tribe_L16 σ m (K : Int) i = some ((rnS (rd σ 85) n r K : Nat) : Int) := by
      intro r
      induction r with
      | zero =>
        intro m i K hi i0 hm hK
        cases m with
        | zero => omega
        | succ m =>
          rw [fX11_tribe_L16, if_neg (by omega)]
          rfl
      | succ r ih =>
        intro m i K hi i0 hm hK
        cases m with
        | zero => omega
        | succ m =>
          rw [fX11_tribe_L16, if_pos (by omega), show (0 : Int) = ((0 : Nat) : Int) from rfl, sweep_m hW rfl n FU 0 K (by omega) (by unfold FU; omega) (by omega), bw_id (z := i + 1) (by omega) (by omega), rnS]
          exact ih m (i + 1) _ (by omega) (by omega) (by omega) (swpS_lt hk n 0 K (by omega) hK)
    unfold fX1_allKinOf
    rw [if_pos c, if_neg n10, if_neg n10, bshl_1i (by omega) (by omega), gc n FU 0 _ (by omega) (by omega) (by unfold FU; omega) hK, gm 12 FU 0 _ (by omega) (by omega) (by unfold FU; omega) hK, rnS_12 hk hK (by omega), Option.bind_some, wp_some, wp_some]
  · rw [if_neg c, if_pos p00, if_pos p00, wp_some, wp_some]
