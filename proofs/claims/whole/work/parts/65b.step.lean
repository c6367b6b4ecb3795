/-! a VOW as a step of the row -/
def sumN (f : Int → Int) : Nat → Int
  | 0 => 0
  | n + 1 => sumN f n + f n
theorem sumN_r {f : Int → Int} {k : Int} (h : ∀ i : Int, 0 ≤ i → 0 ≤ f i ∧ f i ≤ k) : ∀ n : Nat, 0 ≤ sumN f n ∧ sumN f n ≤ n * k
  | 0 => by simp [sumN]
  | n + 1 => by
    have h1 := sumN_r h n
    have h2 := h n (by omega)
    have h3 : ((n + 1 : Nat) : Int) * k = n * k + k := by rw [Int.natCast_add, Int.add_mul]; simp
    rw [sumN, h3]
    omega
theorem sumN_0 {f : Int → Int} {a : Nat} (h : ∀ i : Int, (a : Int) ≤ i → f i = 0) : ∀ n : Nat, sumN f (a + n) = sumN f a
  | 0 => rfl
  | n + 1 => by rw [← Nat.add_assoc, sumN, sumN_0 h n, h _ (by omega)]; omega
/-- what a VOW asks of a field -/
def askW (w : Int → Int) (p q at' c : Int) : Int := if isF w c then liftW w p q (foundW w p q) (apW at' c) (w (4 + c)) else 0
def upW (w : Int → Int) (p q at' c : Int) : Int := if isF w c then min (w (4 + c)) (askW w p q at' c) else 0
def dnW (w : Int → Int) (p q at' c : Int) : Int := if isF w c then min (w (4 + c)) (askW w p q at' c / 2) else 0
theorem askW_r (w : Int → Int) (p q x c : Int) : 0 ≤ askW w p q x c ∧ askW w p q x c ≤ 99 := by
  unfold askW
  split
  · exact liftW_r _ _ _ _ _ _
  · omega
theorem upW_r {w : Int → Int} (hW : Wf w) (p q x c : Int) : 0 ≤ upW w p q x c ∧ upW w p q x c ≤ 99 ∧ (isF w c → upW w p q x c ≤ w (4 + c)) := by
  have h := askW_r w p q x c
  unfold upW
  split
  · next hc => have := hW.2.1 c hc; omega
  · next hc => exact ⟨by omega, by omega, fun z => absurd z hc⟩
theorem dnW_r {w : Int → Int} (hW : Wf w) (p q x c : Int) : 0 ≤ dnW w p q x c ∧ dnW w p q x c ≤ 99 ∧ (isF w c → dnW w p q x c ≤ w (4 + c)) := by
  have h := askW_r w p q x c
  unfold dnW
  split
  · next hc => have := hW.2.1 c hc; omega
  · next hc => exact ⟨by omega, by omega, fun z => absurd z hc⟩
def subW (w l : Int → Int) : Int → Int := fun j => if 4 ≤ j ∧ j < 68 then w j - l (j - 4) else w j
def riseW (w : Int → Int) (p q x : Int) : Int → Int := upz (subW w (upW w p q x)) 1 (w 1 + sumN (upW w p q x) 64)
def drS (w l : Int → Int) (wind : Int) : Nat → Int → Int
  | 0 => w
  | n + 1 => if l n = 0 then drS w l wind n else if goW w n wind = -1 then upz (upz (drS w l wind n) (4 + n) (drS w l wind n (4 + n) - l n)) 1 (drS w l wind n 1 + l n) else upz (upz (drS w l wind n) (4 + n) (drS w l wind n (4 + n) - l n)) (4 + goW w n wind) (upz (drS w l wind n) (4 + n) (drS w l wind n (4 + n) - l n) (4 + goW w n wind) + l n)
def capW (w : Int → Int) : Int → Int := fun j => if 4 ≤ j ∧ j < 68 then min 99 (w j) else w j
def driftW (w : Int → Int) (p q x : Int) : Int → Int := capW (drS w (dnW w p q x) (w 82) 64)
def vow0W (w : Int → Int) (p q x : Int) : Int → Int := if 6 ≤ foundW w p q then riseW w p q x else if 3 ≤ foundW w p q then driftW w p q x else w
def muchW (w : Int → Int) (p q x : Int) : Int := if 6 ≤ foundW w p q then sumN (upW w p q x) 64 else if 3 ≤ foundW w p q then sumN (dnW w p q x) 64 else 0
def whatW (w : Int → Int) (p q : Int) : Int := if 6 ≤ foundW w p q then 0 else if 3 ≤ foundW w p q then 1 else 2
def vowW (t : Int) (w : Int → Int) (p q x : Int) : Int → Int := upz (upz (noteW t (vow0W w p q x) (whatW w p q) p (muchW w p q x)) (68 + p) q) (68 + q) p
section DrS
variable {w l : Int → Int} {wind : Int}
theorem drS_lo (hW : Wf w) : ∀ (n : Nat), n ≤ 64 → (∀ c : Int, ¬ isF w c → l c = 0) → ∀ j : Int, j ≠ 1 → ¬ isF w (j - 4) → drS w l wind n j = w j
  | 0, _, _, _, _, _ => rfl
  | n + 1, hn, hl, j, h1, h2 => by
    have ih := drS_lo hW n (by omega) hl j h1 h2
    rw [drS]
    split
    · exact ih
    · next h0 =>
      have hF : isF w n := Decidable.not_not.mp (fun z => h0 (hl n z))
      have hj : j ≠ 4 + (n : Int) := fun e => h2 (by rw [e, show (4 + (n : Int)) - 4 = n by omega]; exact hF)
      split
      · rw [upz_n h1, upz_n hj]; exact ih
      · next h3 =>
        have hG := (goW_F hW.1.1.2 hW.1.2.1.2 n wind).resolve_left h3
        have hj2 : j ≠ 4 + goW w n wind := fun e => h2 (by rw [e, show (4 + goW w n wind) - 4 = goW w n wind by omega]; exact hG)
        rw [upz_n hj2, upz_n hj]; exact ih
theorem drS_r (hW : Wf w) (hl : ∀ c : Int, 0 ≤ l c ∧ l c ≤ 99 ∧ (isF w c → l c ≤ w (4 + c))) (hz : ∀ c : Int, ¬ isF w c → l c = 0) : ∀ (n : Nat), n ≤ 64 → (∀ c : Int, isF w c → 0 ≤ drS w l wind n (4 + c) ∧ drS w l wind n (4 + c) ≤ 99 + 99 * n ∧ ((n : Int) ≤ c → w (4 + c) ≤ drS w l wind n (4 + c))) ∧ w 1 ≤ drS w l wind n 1 ∧ drS w l wind n 1 ≤ w 1 + 99 * n
  | 0, _ => ⟨fun c hc => by have := hW.2.1 c hc; rw [drS]; omega, by rw [drS]; omega, by rw [drS]; omega⟩
  | n + 1, hn => by
    obtain ⟨ih1, ih2, ih3⟩ := drS_r hW hl hz n (by omega)
    have hln := hl n
    rw [drS]
    split
    · exact ⟨fun c hc => by have := ih1 c hc; omega, by omega, by omega⟩
    · next h0 =>
      have hF : isF w n := Decidable.not_not.mp (fun z => h0 (hz n z))
      have hn1 := ih1 n hF
      have hln2 := hln.2.2 hF
      split
      · refine ⟨fun c hc => ?_, by rw [upz_s]; omega, by rw [upz_s]; omega⟩
        have hcb := isF_b hc
        have hc1 := ih1 c hc
        rw [upz_n (by omega)]
        by_cases e : c = n
        · subst e
          rw [upz_s]; omega
        · rw [upz_n (by omega)]; omega
      · next h3 =>
        have hG := (goW_F hW.1.1.2 hW.1.2.1.2 n wind).resolve_left h3
        have hGb := isF_b hG
        have hg1 := ih1 _ hG
        refine ⟨fun c hc => ?_, by rw [upz_n (by omega), upz_n (by omega)]; omega, by rw [upz_n (by omega), upz_n (by omega)]; omega⟩
        have hcb := isF_b hc
        have hc1 := ih1 c hc
        by_cases e2 : c = goW w n wind
        · subst e2
          rw [upz_s]
          by_cases e : goW w n wind = n
          · rw [e, upz_s]; omega
          · rw [upz_n (by omega)]; omega
        · rw [upz_n (by omega)]
          by_cases e : c = n
          · subst e
            rw [upz_s]; omega
          · rw [upz_n (by omega)]; omega
theorem drS_56 (hz : ∀ c : Int, 56 ≤ c → l c = 0) : ∀ k : Nat, drS w l wind (56 + k) = drS w l wind 56
  | 0 => rfl
  | k + 1 => by rw [← Nat.add_assoc, drS, if_pos (hz _ (by omega)), drS_56 hz k]
end DrS
