/-! hopes: with or without, against all sets -/
theorem andn_bit {S L : Nat} (hS : S < 4096) (j : Nat) : (S &&& (L ^^^ (2 ^ 32 - 1))).testBit j = (S.testBit j && !L.testBit j) := by
  rw [Nat.testBit_and, Nat.testBit_xor, Nat.testBit_two_pow_sub_one]
  by_cases h : j < 12
  · rw [decide_eq_true (show j < 32 by omega), Bool.xor_true]
  · have h2 : 2 ^ 12 ≤ 2 ^ j := Nat.pow_le_pow_right (by decide) (by omega)
    rw [Nat.testBit_lt_two_pow (show S < 2 ^ j by omega)]
    simp
theorem bandn_nat {S L : Nat} (hS : S < 4096) (hL : L < 4096) : band (S : Int) (bxor (L : Int) (-1)) = ((S &&& (L ^^^ (2 ^ 32 - 1)) : Nat) : Int) := by
  unfold band bxor
  rw [Int32.ofInt_toInt]
  show ((Int32.ofInt (S : Int)).toBitVec &&& ((Int32.ofInt (L : Int)).toBitVec ^^^ (Int32.ofInt (-1)).toBitVec)).toInt = _
  have n1 : ((Int32.ofInt (S : Int)).toBitVec &&& ((Int32.ofInt (L : Int)).toBitVec ^^^ (Int32.ofInt (-1)).toBitVec)).toNat = S &&& (L ^^^ (2 ^ 32 - 1)) := by
    rw [BitVec.toNat_and, BitVec.toNat_xor, i32_tn (by omega) (by omega), i32_tn (by omega) (by omega), Int.toNat_natCast, Int.toNat_natCast]
    rfl
  have hlt : S &&& (L ^^^ (2 ^ 32 - 1)) ≤ S := Nat.and_le_left
  rw [BitVec.toInt_eq_toNat_cond, n1, if_pos (by omega)]
theorem and_zero_iff {A B : Nat} : A &&& B = 0 ↔ ∀ j, A.testBit j = true → B.testBit j = false := by
  constructor
  · intro h j hj
    have := congrArg (fun n => n.testBit j) h
    simp only [Nat.testBit_and, Nat.zero_testBit, hj, Bool.true_and] at this
    exact this
  · intro h
    apply Nat.eq_of_testBit_eq
    intro j
    rw [Nat.testBit_and, Nat.zero_testBit]
    cases e : A.testBit j with
    | false => rfl
    | true => rw [h j e]; rfl
theorem bshl_h : ∀ h : Nat, h ≤ 9 → bshl (h : Int) 12 = 4096 * h := by decide +kernel
def hpS (w : Int → Int) (T : Nat) : Nat → Int
  | 0 => 0
  | n + 1 => hpS w T n + if T.testBit n = true then w (115 + (n : Int)) else 0
def hpV (w : Int → Int) (T P : Nat) : Int := 4096 * hpS w T P + 4095 - T
def indS (w : Int → Int) (T : Nat) : Prop := ∀ a b : Nat, T.testBit a = true → T.testBit b = true → (w (139 + (a : Int))).toNat.testBit b = false
def cndS (w : Int → Int) (T S P : Nat) : Prop := (∀ j, T.testBit j = true → S.testBit j = true ∧ j < P) ∧ indS w T
theorem hpS_congr {w : Int → Int} {T U : Nat} : ∀ n : Nat, (∀ j, j < n → T.testBit j = U.testBit j) → hpS w T n = hpS w U n
  | 0, _ => rfl
  | n + 1, h => by rw [hpS, hpS, hpS_congr n (fun j hj => h j (by omega)), h n (by omega)]
theorem hpS_r {w : Int → Int} {T : Nat} : ∀ n : Nat, (∀ j : Nat, j < n → 0 ≤ w (115 + (j : Int)) ∧ w (115 + (j : Int)) ≤ 9) → 0 ≤ hpS w T n ∧ hpS w T n ≤ 9 * n
  | 0, _ => ⟨Int.le_refl _, Int.le_refl _⟩
  | n + 1, h => by
    have h1 := hpS_r (T := T) n (fun j hj => h j (by omega))
    have h2 := h n (by omega)
    rw [hpS]
    split <;> omega
theorem cnd_lt {w : Int → Int} {T S P : Nat} (h : cndS w T S P) : T < 2 ^ P := by
  apply Nat.lt_of_not_le
  intro hle
  obtain ⟨i, hi, hb⟩ := Nat.exists_ge_and_testBit_of_ge_two_pow hle
  have := (h.1 i hb).2
  omega
theorem bit_lt {T n : Nat} (h : ∀ j, T.testBit j = true → j < n) : T < 2 ^ n := by
  apply Nat.lt_of_not_le
  intro hle
  obtain ⟨i, hi, hb⟩ := Nat.exists_ge_and_testBit_of_ge_two_pow hle
  have := h i hb
  omega
/-- with P -/
theorem add_bit {T P : Nat} (h : T < 2 ^ P) (j : Nat) : (2 ^ P + T).testBit j = if j = P then true else T.testBit j := by
  by_cases e : j = P
  · rw [if_pos e, e, Nat.testBit_two_pow_add_eq, Nat.testBit_lt_two_pow h]; rfl
  · rw [if_neg e]
    by_cases l : j < P
    · rw [Nat.testBit_two_pow_add_gt l]
    · have h2 : 2 ^ (P + 1) ≤ 2 ^ j := Nat.pow_le_pow_right (by decide) (by omega)
      have h3 : 2 ^ (P + 1) = 2 * 2 ^ P := by rw [Nat.pow_succ]; omega
      rw [Nat.testBit_lt_two_pow (by omega), Nat.testBit_lt_two_pow (by omega)]
theorem hpV_add {w : Int → Int} {T P : Nat} (h : T < 2 ^ P) : hpV w (2 ^ P + T) (P + 1) = 4096 * w (115 + (P : Int)) - ((2 ^ P : Nat) : Int) + hpV w T P := by
  unfold hpV
  rw [hpS, add_bit h P, if_pos rfl, if_pos rfl, hpS_congr (U := T) P (fun j hj => by rw [add_bit h j, if_neg (by omega)])]
  omega
theorem hpV_same {w : Int → Int} {T P : Nat} (h : T < 2 ^ P) : hpV w T (P + 1) = hpV w T P := by
  unfold hpV
  rw [hpS, Nat.testBit_lt_two_pow h]
  simp
/-- a set with P is one without, and P -/
theorem split_bit {T P : Nat} (h : T < 2 ^ (P + 1)) (hb : T.testBit P = true) : ∃ U, U < 2 ^ P ∧ T = 2 ^ P + U := by
  have hge : 2 ^ P ≤ T := Nat.ge_two_pow_of_testBit hb
  have h3 : 2 ^ (P + 1) = 2 * 2 ^ P := by rw [Nat.pow_succ]; omega
  exact ⟨T - 2 ^ P, by omega, by omega⟩
theorem cnd_down {w : Int → Int} {T S P : Nat} (h : cndS w T S (P + 1)) (hb : T.testBit P = false) : cndS w T S P := by
  refine ⟨fun j hj => ⟨(h.1 j hj).1, ?_⟩, h.2⟩
  have := (h.1 j hj).2
  by_cases e : j = P
  · rw [e, hb] at hj; exact absurd hj (by decide)
  · omega
theorem hope_c {m : Int} {w : Int → Int} {σ : Sg} (hC : CW m w σ 1) (hk : ∀ p : Nat, (p : Int) < w 85 → (w (139 + (p : Int))).toNat.testBit p = false ∧ ∀ q : Nat, (q : Int) < w 85 → (w (139 + (p : Int))).toNat.testBit q = (w (139 + (q : Int))).toNat.testBit p) : ∀ (P n S : Nat), (P : Int) ≤ w 85 → P < n → S < 4096 → ∃ T : Nat, cndS w T S P ∧ rg_X1_hopeAmong n 4 (S : Int) ((P : Int) - 1) σ = some (hpV w T P) ∧ ∀ U, cndS w U S P → hpV w U P ≤ hpV w T P
  | 0, n, S, hP, hn, hS => by
    cases n with
    | zero => omega
    | succ n =>
      refine ⟨0, ⟨fun j hj => absurd hj (by simp), fun a b ha => absurd ha (by simp)⟩, ?_, fun U hU => ?_⟩
      · show gX1_hopeAmong 4 (rg_X1_hopeAmong n) (S : Int) _ σ = _
        unfold gX1_hopeAmong
        rw [if_pos (by omega)]
        rfl
      · have := cnd_lt hU
        have : U = 0 := by simp at this; exact this
        rw [this]
        exact Int.le_refl _
  | P + 1, n, S, hP, hn, hS => by
    have h12 := hC.1.1.2.2.2.2.2.1
    have hp : isP w (P : Int) := ⟨by omega, by omega⟩
    have hkin := (hC.1.2.2.1 _ hp).2.2.2.2.2
    have hho := (hC.1.2.2.1 _ hp).2.2.1
    have ek : rd σ 10 (P : Int) = w (139 + (P : Int)) := (hC.2.2.2.1.2 _ hp).2.2.2.2.2
    have eh : rd σ 7 (P : Int) = w (115 + (P : Int)) := (hC.2.2.2.1.2 _ hp).2.2.1
    obtain ⟨k, hk1⟩ : ∃ k : Nat, w (139 + (P : Int)) = (k : Int) := ⟨(w (139 + (P : Int))).toNat, by omega⟩
    obtain ⟨ho, ho1⟩ : ∃ h : Nat, w (115 + (P : Int)) = (h : Int) := ⟨(w (115 + (P : Int))).toNat, by omega⟩
    have hkk := hk P (by omega)
    rw [hk1, Int.toNat_natCast] at hkk
    have p12 : 2 ^ P ≤ 2 ^ 12 := Nat.pow_le_pow_right (by decide) (by omega)
    have p11 : 2 ^ P < 4096 := Nat.pow_lt_pow_right (n := 12) (by decide) (by omega)
    generalize hW : S &&& (2 ^ P ^^^ (2 ^ 32 - 1)) = W
    have Wl : W ≤ S := by rw [← hW]; exact Nat.and_le_left
    have Wb : ∀ j, W.testBit j = (S.testBit j && !decide (P = j)) := fun j => by rw [← hW, andn_bit hS, Nat.testBit_two_pow]
    have WP : W.testBit P = false := by rw [Wb]; simp
    have eW : band (S : Int) (bxor (bshl 1 (P : Int)) (-1)) = (W : Int) := by
      rw [bandn_bit (by omega) (by omega) (by omega) (by omega), Int.toNat_natCast, Int.toNat_natCast, hW]
    have cW : ∀ U, cndS w U S P → cndS w U W P := fun U hU => ⟨fun j hj => ⟨by
      have h1 := hU.1 j hj
      rw [Wb, h1.1]
      have : ¬ P = j := by omega
      simp [this], (hU.1 j hj).2⟩, hU.2⟩
    have cS : ∀ U, cndS w U W P → cndS w U S (P + 1) := fun U hU => ⟨fun j hj => ⟨by
      have h1 := (hU.1 j hj).1
      rw [Wb] at h1
      exact (Bool.and_eq_true_iff.mp h1).1, by have := (hU.1 j hj).2; omega⟩, hU.2⟩
    have ePs : ((P + 1 : Nat) : Int) - 1 = (P : Int) := by omega
    cases n with
    | zero => omega
    | succ n =>
      rw [ePs]
      show ∃ T : Nat, cndS w T S (P + 1) ∧ gX1_hopeAmong 4 (rg_X1_hopeAmong n) (S : Int) (P : Int) σ = some (hpV w T (P + 1)) ∧ _
      unfold gX1_hopeAmong fX1_hopeAmong_J36
      rw [if_neg (by omega), if_pos (by omega), eW, bw_id (z := (P : Int) - 1) (by omega) (by omega)]
      obtain ⟨T2, a1, a2, a3⟩ := hope_c hC hk P n W (by omega) (by omega) (by omega)
      have l2 := cnd_lt a1
      have skip : (∀ U, cndS w U S (P + 1) → U.testBit P = true → hpV w U (P + 1) ≤ hpV w T2 P) → (∀ U, cndS w U S (P + 1) → hpV w U (P + 1) ≤ hpV w T2 (P + 1)) := by
        intro hh U hU
        rw [hpV_same l2]
        cases e : U.testBit P with
        | true => exact hh U hU e
        | false =>
          have hd := cnd_down hU e
          rw [hpV_same (cnd_lt hd)]
          exact a3 U (cW U hd)
      by_cases c1 : (W : Int) = (S : Int)
      · rw [if_pos c1, a2, Option.bind_some]
        refine ⟨T2, cS T2 a1, by rw [hpV_same l2], skip (fun U hU hb => ?_)⟩
        have h1 := (hU.1 P hb).1
        have e : W = S := by omega
        rw [← e, WP] at h1
        exact absurd h1 (by decide)
      · have SP : S.testBit P = true := by
          cases e : S.testBit P with
          | true => rfl
          | false =>
            refine absurd ?_ c1
            have : W = S := by
              apply Nat.eq_of_testBit_eq
              intro j
              rw [Wb]
              by_cases z : P = j
              · rw [← z, e]; rfl
              · simp [z]
            rw [this]
        rw [if_neg c1, grd_pos (by omega), show rd σ (4 + 3) (P : Int) = w (115 + (P : Int)) from eh, show rd σ (4 + 6) (P : Int) = w (139 + (P : Int)) from ek]
        by_cases c2 : w (115 + (P : Int)) = 0
        · rw [if_pos c2, a2, Option.bind_some]
          refine ⟨T2, cS T2 a1, by rw [hpV_same l2], skip (fun U hU hb => ?_)⟩
          obtain ⟨V, v1, v2⟩ := split_bit (cnd_lt hU) hb
          have hV : cndS w V S P := by
            have hj : ∀ j, V.testBit j = true → U.testBit j = true ∧ j < P := fun j hj => by
              have l : j < P := by
                apply Nat.lt_of_not_le
                intro hle
                have : 2 ^ P ≤ 2 ^ j := Nat.pow_le_pow_right (by decide) hle
                rw [Nat.testBit_lt_two_pow (by omega)] at hj
                exact absurd hj (by decide)
              refine ⟨?_, l⟩
              rw [v2, add_bit v1, if_neg (by omega)]
              exact hj
            exact ⟨fun j hb => ⟨(hU.1 j (hj j hb).1).1, (hj j hb).2⟩, fun a b ha hb => hU.2 a b (hj a ha).1 (hj b hb).1⟩
          have := a3 V (cW V hV)
          rw [v2, hpV_add v1, c2]
          omega
        · rw [if_neg c2, grd_pos (by omega), grd_pos (by omega), hk1, ho1]
          generalize hX : W &&& (k ^^^ (2 ^ 32 - 1)) = X
          have Xl : X ≤ W := by rw [← hX]; exact Nat.and_le_left
          have Xb : ∀ j, X.testBit j = (W.testBit j && !k.testBit j) := fun j => by rw [← hX, andn_bit (by omega)]
          have eX : band (W : Int) (bxor (k : Int) (-1)) = (X : Int) := by rw [bandn_nat (by omega) (by omega), hX]
          obtain ⟨T1, b1, b2, b3⟩ := hope_c hC hk P n X (by omega) (by omega) (by omega)
          have l1 := cnd_lt b1
          have r1 := hpS_r (w := w) (T := T1) P (fun j hj => (hC.1.2.2.1 _ ⟨by omega, by omega⟩).2.2.1)
          have r2 := hpS_r (w := w) (T := T2) P (fun j hj => (hC.1.2.2.1 _ ⟨by omega, by omega⟩).2.2.1)
          have c1' : cndS w (2 ^ P + T1) S (P + 1) := by
            refine ⟨fun j hj => ?_, fun a b ha hb => ?_⟩
            · rw [add_bit l1] at hj
              by_cases e : j = P
              · rw [e]; exact ⟨SP, by omega⟩
              · rw [if_neg e] at hj
                obtain ⟨x1, x2⟩ := b1.1 j hj
                rw [Xb, Wb] at x1
                exact ⟨(Bool.and_eq_true_iff.mp (Bool.and_eq_true_iff.mp x1).1).1, by omega⟩
            · rw [add_bit l1] at ha hb
              have no : ∀ j, T1.testBit j = true → k.testBit j = false ∧ j < P := fun j hj => by
                obtain ⟨x1, x2⟩ := b1.1 j hj
                rw [Xb] at x1
                have := (Bool.and_eq_true_iff.mp x1).2
                exact ⟨by simpa using this, x2⟩
              by_cases e1 : a = P
              · rw [e1, hk1, Int.toNat_natCast]
                by_cases e2 : b = P
                · rw [e2]; exact hkk.1
                · rw [if_neg e2] at hb
                  exact (no b hb).1
              · rw [if_neg e1] at ha
                by_cases e2 : b = P
                · rw [e2]
                  have := hkk.2 a (by have := (no a ha).2; omega)
                  rw [← this]
                  exact (no a ha).1
                · rw [if_neg e2] at hb
                  exact b1.2 a b ha hb
          have up : ∀ U, cndS w U S (P + 1) → U.testBit P = true → hpV w U (P + 1) ≤ hpV w (2 ^ P + T1) (P + 1) := by
            intro U hU hb
            obtain ⟨V, v1, v2⟩ := split_bit (cnd_lt hU) hb
            have hj : ∀ j, V.testBit j = true → U.testBit j = true ∧ j < P := fun j hj => by
              have l : j < P := by
                apply Nat.lt_of_not_le
                intro hle
                have : 2 ^ P ≤ 2 ^ j := Nat.pow_le_pow_right (by decide) hle
                rw [Nat.testBit_lt_two_pow (by omega)] at hj
                exact absurd hj (by decide)
              refine ⟨?_, l⟩
              rw [v2, add_bit v1, if_neg (by omega)]
              exact hj
            have hV : cndS w V X P := by
              refine ⟨fun j hb2 => ⟨?_, (hj j hb2).2⟩, fun a b ha hb => hU.2 a b (hj a ha).1 (hj b hb).1⟩
              have q1 := hU.2 P j hb (hj j hb2).1
              rw [hk1, Int.toNat_natCast] at q1
              have q2 := (hU.1 j (hj j hb2).1).1
              have q3 : ¬ P = j := by have := (hj j hb2).2; omega
              rw [Xb, Wb, q1, q2]
              simp [q3]
            have := b3 V hV
            rw [v2, hpV_add v1, hpV_add l1]
            omega
          have e1 : hpV w (2 ^ P + T1) (P + 1) = 4096 * (ho : Int) - ((2 ^ P : Nat) : Int) + hpV w T1 P := by rw [hpV_add l1, ho1]
          have wd : bw (bw (bshl (ho : Int) 12 - bshl 1 (P : Int)) + hpV w T1 P) = hpV w (2 ^ P + T1) (P + 1) := by
            have v1 : 0 ≤ hpV w T1 P ∧ hpV w T1 P ≤ 4096 * 108 + 4095 := by unfold hpV; omega
            rw [bshl_h ho (by omega), bshl_1i (by omega) (by omega), Int.toNat_natCast, e1, bw_id (z := 4096 * (ho : Int) - ((2 ^ P : Nat) : Int)) (by omega) (by omega), bw_id (by omega) (by omega)]
          rw [eX, b2, Option.bind_some, grd_pos (by omega), wd, band_nat (by omega) (by omega) (by omega) (by omega), Int.toNat_natCast, Int.toNat_natCast]
          by_cases c3 : k &&& W = 0
          · rw [if_pos (show ((k &&& W : Nat) : Int) = 0 by rw [c3]; rfl)]
            refine ⟨2 ^ P + T1, c1', rfl, fun U hU => ?_⟩
            cases e : U.testBit P with
            | true => exact up U hU e
            | false =>
              have hd := cnd_down hU e
              have h2 := cW U hd
              have h3 : cndS w U X P := by
                refine ⟨fun j hj => ⟨?_, (h2.1 j hj).2⟩, h2.2⟩
                have q1 := (h2.1 j hj).1
                rw [Xb, q1]
                cases z : k.testBit j with
                | false => rfl
                | true =>
                  have := and_zero_iff.mp c3 j z
                  rw [q1] at this
                  exact absurd this (by decide)
              have := b3 U h3
              rw [hpV_same (cnd_lt hd), e1]
              omega
          · have c3' : ¬ ((k &&& W : Nat) : Int) = 0 := by omega
            rw [if_neg c3', a2, Option.bind_some, max_eq]
            by_cases c4 : hpV w (2 ^ P + T1) (P + 1) ≤ hpV w T2 P
            · refine ⟨T2, cS T2 a1, by rw [hpV_same l2]; congr 1; omega, skip (fun U hU hb => ?_)⟩
              have := up U hU hb
              omega
            · refine ⟨2 ^ P + T1, c1', by congr 1; omega, fun U hU => ?_⟩
              cases e : U.testBit P with
              | true => exact up U hU e
              | false =>
                have hd := cnd_down hU e
                have := a3 U (cW U hd)
                rw [hpV_same (cnd_lt hd)]
                omega
