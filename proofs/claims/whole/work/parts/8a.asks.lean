/-! asks -/
theorem bxor_nat {x y : Int} (h1 : 0 ≤ x) (h2 : x < 2147483648) (h3 : 0 ≤ y) (h4 : y < 2147483648) : bxor x y = ((x.toNat ^^^ y.toNat : Nat) : Int) := by
  unfold bxor
  show ((Int32.ofInt x).toBitVec ^^^ (Int32.ofInt y).toBitVec).toInt = _
  have n1 : ((Int32.ofInt x).toBitVec ^^^ (Int32.ofInt y).toBitVec).toNat = x.toNat ^^^ y.toNat := by rw [BitVec.toNat_xor, i32_tn h1 h2, i32_tn h3 h4]
  have hlt : x.toNat ^^^ y.toNat < 2 ^ 31 := Nat.xor_lt_two_pow (by omega) (by omega)
  rw [BitVec.toInt_eq_toNat_cond, n1, if_pos (by omega)]
theorem fdv {x y : Int} (h1 : 0 ≤ x) (h2 : x < 2147483648) (h3 : 0 < y) (h4 : y < 2147483648) : fJ9_floorDiv_7cf53 x y = some (tdv x y) := by
  unfold fJ9_floorDiv_7cf53
  rw [grd_pos (by omega), bxor_nat h1 h2 (by omega) h4, if_neg (by omega)]
def wbareN (w : Int → Int) : Nat → Int → Int → Int
  | 0, _, a => a
  | n + 1, i, a => wbareN w n (i + 1) (a + if w (4 + w (239 + 3 * i)) = 0 then w (241 + 3 * i) else 0)
theorem wbareN_r {w : Int → Int} (hW : Wf w) : ∀ (r : Nat) (i a : Int), i + r = w 89 → 0 ≤ i → 0 ≤ a → a ≤ 99 * i → 0 ≤ wbareN w r i a ∧ wbareN w r i a ≤ 99 * w 89
  | 0, i, a, hi, i0, a0, a1 => by
    rw [wbareN]
    omega
  | r + 1, i, a, hi, i0, a0, a1 => by
    obtain ⟨-, -, v⟩ := hW.2.2.2.2.2.1.2 i i0 (by omega)
    rw [wbareN]
    refine wbareN_r hW r (i + 1) _ (by omega) (by omega) ?_ ?_ <;> split <;> omega
theorem wbare_c {w : Int → Int} {σ : Sg} (hC : CW 150 w σ 1) : ∀ (r m : Nat) (i a : Int), i + r = w 89 → 0 ≤ i → r < m → 0 ≤ a → a ≤ 99 * i → fX9_worthBare_L4 1 σ m a i = some (wbareN w r i a)
  | 0, m, i, a, hi, i0, hm, a0, a1 => by
    have e2 : rd σ 22 2 = w 89 := hC.2.2.2.2.1.2.2.1.2.1
    cases m with
    | zero => omega
    | succ m =>
      rw [fX9_worthBare_L4]
      show (if i < rd σ 22 2 then _ else _) = _
      rw [e2, if_neg (by omega)]
      rfl
  | r + 1, m, i, a, hi, i0, hm, a0, a1 => by
    have e2 : rd σ 22 2 = w 89 := hC.2.2.2.2.1.2.2.1.2.1
    have hb := hC.1.2.2.2.2.2.1.1
    obtain ⟨v1, v2, v3⟩ := hC.1.2.2.2.2.2.1.2 i i0 (by omega)
    obtain ⟨t1, t2, t3⟩ := hC.2.2.2.2.1.2.2.1.2.2 i i0 (by omega)
    have t1 : rd σ 23 (4 * i) = w (239 + 3 * i) := t1
    have t3 : rd σ 23 (4 * i + 2) = w (241 + 3 * i) := t3
    have fb := isF_b v1
    have es : rd σ 2 (w (239 + 3 * i)) = w (4 + w (239 + 3 * i)) := hC.2.2.1.1 _ v1
    cases m with
    | zero => omega
    | succ m =>
      have c0 : fX6_cell 22 48 i 0 σ = some (w (239 + 3 * i)) := by
        rw [cell_c e2 (by omega) (by omega) (by omega) (by omega), Int.add_zero]
        exact congrArg some t1
      have c2 : fX6_cell 22 48 i 2 σ = some (w (241 + 3 * i)) := by
        rw [cell_c e2 (by omega) (by omega) (by omega) (by omega)]
        exact congrArg some t3
      have cb : fX9_isBare 1 (w (239 + 3 * i)) σ = some (if w (4 + w (239 + 3 * i)) = 0 then 1 else 0) := by
        unfold fX9_isBare
        rw [hasField_c hC, if_pos v1, if_neg n10, grd_pos fb]
        show (if rd σ 2 (w (239 + 3 * i)) = 0 then some 1 else some 0) = _
        rw [es]
        split <;> rfl
      rw [fX9_worthBare_L4, wbareN]
      show (if i < rd σ 22 2 then (fX6_cell 22 48 i 0 σ).bind _ else _) = _
      rw [e2, if_pos (by omega), c0, Option.bind_some, cb, Option.bind_some]
      by_cases z : w (4 + w (239 + 3 * i)) = 0
      · rw [if_pos z, if_neg n10]
        show (fX6_cell 22 48 i 2 σ).bind _ = _
        rw [c2, Option.bind_some, bw_id (z := a + w (241 + 3 * i)) (by omega) (by omega), bw_id (z := i + 1) (by omega) (by omega), if_pos z]
        exact wbare_c hC r m (i + 1) _ (by omega) (by omega) (by omega) (by omega) (by omega)
      · rw [if_neg z, if_pos p00, bw_id (z := i + 1) (by omega) (by omega), if_neg z, Int.add_zero]
        exact wbare_c hC r m (i + 1) _ (by omega) (by omega) (by omega) (by omega) (by omega)
theorem wbare_m {w : Int → Int} {σ : Sg} (hW : Wf w) (hw : rd σ 85 = w) {k : Int → Option Int} {x : Int} : ∀ (r m : Nat) (i a : Int), i + r = w 89 → 0 ≤ i → r < m → 0 ≤ a → a ≤ 99 * i → fX11_asks_L14 σ k x m a i = k (wbareN w r i a)
  | 0, m, i, a, hi, i0, hm, a0, a1 => by
    cases m with
    | zero => omega
    | succ m =>
      rw [fX11_asks_L14, hw, if_neg (by omega)]
      rfl
  | r + 1, m, i, a, hi, i0, hm, a0, a1 => by
    have hb := hW.2.2.2.2.2.1.1
    obtain ⟨v1, v2, v3⟩ := hW.2.2.2.2.2.1.2 i i0 (by omega)
    have fb := isF_b v1
    cases m with
    | zero => omega
    | succ m =>
      rw [fX11_asks_L14, wbareN, hw, if_pos (by omega), bw_id (z := 3 * i) (by omega) (by omega), bw_id (z := 239 + 3 * i) (by omega) (by omega), grd_pos (by omega), bw_id (z := 4 + w (239 + 3 * i)) (by omega) (by omega), grd_pos (by omega), bw_id (z := 239 + 3 * i + 2) (by omega) (by omega), show 239 + 3 * i + 2 = 241 + 3 * i by omega, bw_id (z := i + 1) (by omega) (by omega)]
      by_cases z : w (4 + w (239 + 3 * i)) = 0
      · rw [if_pos z, grd_pos (by omega), bw_id (z := a + w (241 + 3 * i)) (by omega) (by omega), if_pos z]
        exact wbare_m hW hw r m (i + 1) _ (by omega) (by omega) (by omega) (by omega) (by omega)
      · rw [if_neg z, if_neg z, bw_id (z := a + 0) (by omega) (by omega)]
        exact wbare_m hW hw r m (i + 1) _ (by omega) (by omega) (by omega) (by omega) (by omega)
theorem op_asks {has : Bool} {N : Nat} (hN : N ≤ 511) : OpP has N (fX10_asks ) (fX11_asks ) := by
  intro σ h
  have hC := h.1
  have hW := hC.1
  have h1 := hW.1.2.2.2.2.2.2.2.1
  have hb := hW.2.2.2.2.2.1.1
  have e5 : rd σ 1 5 = rd σ 85 1 := hC.2.1.2.2.2.2.2.1
  have hr := wbareN_r hW (rd σ 85 89).toNat 0 0 (by omega) (by omega) (by omega) (by omega)
  have ec : fX9_worthBare 1 σ = some (wbareN (rd σ 85) (rd σ 85 89).toNat 0 0) := wbare_c hC _ FU 0 0 (by omega) (by omega) (by unfold FU; omega) (by omega) (by omega)
  have ed : tdv (rd σ 85 1) 10 = rd σ 85 1 / 10 := tdv_pos h1.1 (by omega) (by decide) (by decide)
  unfold fX10_asks fX11_asks
  rw [e5, fdv h1.1 (by omega) (by decide) (by decide), Option.bind_some, ec, Option.bind_some, wbare_m hW rfl (rd σ 85 89).toNat FU 0 0 (by omega) (by omega) (by unfold FU; omega) (by omega) (by omega), ed]
  generalize wbareN (rd σ 85) (rd σ 85 89).toNat 0 0 = s at hr
  by_cases c : s < rd σ 85 1 / 10
  · rw [if_pos c, if_pos c, wp_some, wp_some]
  · rw [if_neg c, if_neg c, bw_id (z := rd σ 85 1 / 10 + s) (by omega) (by omega), fdv (by omega) (by omega) (by decide) (by decide), Option.bind_some, wp_some, wp_some]
