/-! ways of one step, and a VOW as a step of the row -/
def go2 (w : Int → Int) (x y : Int) : Int := if (0 ≤ x ∧ x < w 80) ∧ 0 ≤ y ∧ y < w 81 then 8 * y + x else -1
def dxW (way : Int) : Int := if way = 1 then 1 else if way = 3 then -1 else 0
def dyW (way : Int) : Int := if way = 2 then 1 else if way = 0 then -1 else 0
def goW (w : Int → Int) (c way : Int) : Int := go2 w (c % 8 + dxW way) (c / 8 + dyW way)
theorem goW_F {w : Int → Int} (h0 : w 80 ≤ 8) (h1 : w 81 ≤ 7) (c way : Int) : goW w c way = -1 ∨ isF w (goW w c way) := by
  unfold goW go2
  generalize c % 8 + dxW way = x
  generalize c / 8 + dyW way = y
  by_cases h : (0 ≤ x ∧ x < w 80) ∧ 0 ≤ y ∧ y < w 81
  · rw [if_pos h]
    right
    obtain ⟨⟨a1, a2⟩, a3, a4⟩ := h
    have x8 : x < 8 := by omega
    have y7 : y < 7 := by omega
    have e1 : (8 * y + x) % 8 = x := by omega
    have e2 : (8 * y + x) / 8 = y := by omega
    exact ⟨by omega, by omega, by rw [e1]; exact a2, by rw [e2]; exact a4⟩
  · rw [if_neg h]
    exact Or.inl rfl
theorem dxW_other {way : Int} (h1 : way ≠ 1) (h3 : way ≠ 3) : dxW way = 0 := by unfold dxW; rw [if_neg h1, if_neg h3]
theorem dyW_other {way : Int} (h1 : way ≠ 2) (h3 : way ≠ 0) : dyW way = 0 := by unfold dyW; rw [if_neg h1, if_neg h3]
theorem dx1 : dxW 1 = 1 ∧ dyW 1 = 0 := by decide
theorem dx3 : dxW 3 = -1 ∧ dyW 3 = 0 := by decide
theorem dx2 : dxW 2 = 0 ∧ dyW 2 = 1 := by decide
theorem dx0 : dxW 0 = 0 ∧ dyW 0 = -1 := by decide
theorem go2_eq {w : Int → Int} {x y x2 y2 : Int} (h1 : x = x2) (h2 : y = y2) : go2 w x y = go2 w x2 y2 := by rw [h1, h2]
theorem beside_c {w : Int → Int} {σ : Sg} {b : Nat} {c : Int} (way : Int) (h0 : rd σ b 0 = w 80) (h1 : rd σ b 1 = w 81) (hc : 0 ≤ c ∧ c < 64) : fX9_beside b c way σ = goW w c way := by
  have q1 : band c 7 = c % 8 := band_7 (bw_id (by omega) (by omega))
  have q2 : bshr c 3 = c / 8 := bshr_3 (bw_id (by omega) (by omega))
  have j50 : ∀ x z y : Int, -20 ≤ x → x ≤ 20 → -20 ≤ z - y → z - y ≤ 20 → fX9_beside_J50 b σ x z y = go2 w x (z - y) := by
    intro x z y a1 a2 a3 a4
    unfold fX9_beside_J50 go2
    rw [h0, h1, bw_id (z := z - y) (by omega) (by omega), bw_id (z := 8 * (z - y)) (by omega) (by omega), bw_id (z := 8 * (z - y) + x) (by omega) (by omega)]
    generalize z - y = u
    by_cases hx : x < 0
    · rw [if_pos hx, if_neg (by omega)]
    · by_cases hx2 : x < w 80
      · by_cases hy : u < 0
        · rw [if_neg hx, if_pos hx2, if_pos hy, if_neg (by omega)]
        · by_cases hy2 : u < w 81
          · rw [if_neg hx, if_pos hx2, if_neg hy, if_pos hy2, if_pos (by omega)]
          · rw [if_neg hx, if_pos hx2, if_neg hy, if_neg hy2, if_neg (by omega)]
      · rw [if_neg hx, if_neg hx2, if_neg (by omega)]
  have key : ∀ a1 a2 a3 a4 : Int, (a1 = 0 ∨ a1 = 1) → (a2 = 0 ∨ a2 = 1) → (a3 = 0 ∨ a3 = 1) → (a4 = 0 ∨ a4 = 1) → fX9_beside_J50 b σ (bw (bw (c % 8 + a1) - a2)) (bw (c / 8 + a3)) a4 = go2 w (c % 8 + (a1 - a2)) (c / 8 + (a3 - a4)) := by
    intro a1 a2 a3 a4 b1 b2 b3 b4
    rw [bw_id (z := c % 8 + a1) (by omega) (by omega), bw_id (z := c % 8 + a1 - a2) (by omega) (by omega), bw_id (z := c / 8 + a3) (by omega) (by omega), j50 _ _ _ (by omega) (by omega) (by omega) (by omega)]
    exact go2_eq (by omega) (by omega)
  unfold fX9_beside fX9_beside_J14 fX9_beside_J25 fX9_beside_J40
  rw [q1, q2]
  unfold goW
  by_cases w1 : way = 1
  · subst w1
    rw [if_pos rfl, if_neg (by decide), if_neg (by decide), if_neg (by decide), key 1 0 0 0 (by omega) (by omega) (by omega) (by omega), dx1.1, dx1.2]
    exact go2_eq (by omega) (by omega)
  · by_cases w3 : way = 3
    · subst w3
      rw [if_neg (by decide), if_pos rfl, if_neg (by decide), if_neg (by decide), key 0 1 0 0 (by omega) (by omega) (by omega) (by omega), dx3.1, dx3.2]
      exact go2_eq (by omega) (by omega)
    · by_cases w2 : way = 2
      · subst w2
        rw [if_neg (by decide), if_neg (by decide), if_pos rfl, if_neg (by decide), key 0 0 1 0 (by omega) (by omega) (by omega) (by omega), dx2.1, dx2.2]
        exact go2_eq (by omega) (by omega)
      · by_cases w0 : way = 0
        · subst w0
          rw [if_neg (by decide), if_neg (by decide), if_neg (by decide), if_pos rfl, key 0 0 0 1 (by omega) (by omega) (by omega) (by omega), dx0.1, dx0.2]
          exact go2_eq (by omega) (by omega)
        · rw [if_neg w1, if_neg w3, if_neg w2, if_neg w0, dxW_other w1 w3, dyW_other w2 w0]
          rw [key 0 0 0 0 (by omega) (by omega) (by omega) (by omega)]
          exact go2_eq (by omega) (by omega)
theorem wentTo_m {w : Int → Int} {σ : Sg} {c : Int} (way : Int) (hW : Wf w) (hw : rd σ 85 = w) (hc : 0 ≤ c ∧ c < 64) : fX11_wentTo c way σ = goW w c way := by
  have q1 : trm c 8 = c % 8 := trm_pos (by omega) (by omega) (by omega) (by omega)
  have q2 : tdv c 8 = c / 8 := tdv_pos (by omega) (by omega) (by omega) (by omega)
  have key : ∀ a1 a2 : Int, (-1 ≤ a1 ∧ a1 ≤ 1) → (-1 ≤ a2 ∧ a2 ≤ 1) → fX11_wentTo_J47 σ (bw (c % 8 + a1)) (c / 8) a2 = go2 w (c % 8 + a1) (c / 8 + a2) := by
    intro a1 a2 b1 b2
    unfold fX11_wentTo_J47 go2
    rw [isOn_m hW hw, bw_id (z := c % 8 + a1) (by omega) (by omega), bw_id (z := c / 8 + a2) (by omega) (by omega), bw_id (z := 8 * (c / 8 + a2)) (by omega) (by omega), bw_id (z := 8 * (c / 8 + a2) + (c % 8 + a1)) (by omega) (by omega)]
    by_cases h : (0 ≤ c % 8 + a1 ∧ c % 8 + a1 < w 80) ∧ 0 ≤ c / 8 + a2 ∧ c / 8 + a2 < w 81
    · rw [if_pos h, if_neg (by decide), if_pos h]
    · rw [if_neg h, if_pos rfl, if_neg h]
  unfold fX11_wentTo fX11_wentTo_J23
  rw [q1, q2]
  unfold goW
  by_cases w1 : way = 1
  · subst w1
    rw [if_pos rfl, if_neg (by decide), if_neg (by decide), key 1 0 (by omega) (by omega), dx1.1, dx1.2]
  · by_cases w3 : way = 3
    · subst w3
      rw [if_neg (by decide), if_pos rfl, if_neg (by decide), if_neg (by decide), key (-1) 0 (by omega) (by omega), dx3.1, dx3.2]
    · by_cases w2 : way = 2
      · subst w2
        rw [if_neg (by decide), if_neg (by decide), if_pos rfl, key 0 1 (by omega) (by omega), dx2.1, dx2.2]
      · by_cases w0 : way = 0
        · subst w0
          rw [if_neg (by decide), if_neg (by decide), if_neg (by decide), if_pos rfl, key 0 (-1) (by omega) (by omega), dx0.1, dx0.2]
        · rw [if_neg w1, if_neg w3, if_neg w2, if_neg w0, dxW_other w1 w3, dyW_other w2 w0]
          rw [key 0 0 (by omega) (by omega)]
