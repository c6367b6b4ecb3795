/-! hopes: the model -/
noncomputable def hopV (w : Int → Int) (n K : Nat) : Int := @ite _ (indS w K) (Classical.propDecidable _) (hpS w K n) (-1)
theorem hopeOf_m {w : Int → Int} {σ : Sg} {n K : Nat} (hW : Wf w) (hw : rd σ 85 = w) (hn : w 85 = (n : Int)) (hK : K < 2 ^ n) : fX11_hopeOf (K : Int) σ = some (hopV w n K) := by
  have h12 := hW.1.2.2.2.2.2.1
  have n12 : 2 ^ n ≤ 2 ^ 12 := Nat.pow_le_pow_right (by decide) (by omega)
  have go : ∀ (r m i : Nat), i + r = n → r < m → (∀ a, a < i → K.testBit a = true → (w (139 + (a : Int))).toNat &&& K = 0) → fX11_hopeOf_L4 σ (K : Int) m (hpS w K i) (i : Int) = some (hopV w n K) := by
    intro r
    induction r with
    | zero =>
      intro m i hi hm ha
      cases m with
      | zero => omega
      | succ m =>
        have hind : indS w K := fun a b h1 h2 => by
          have l : a < n := by
            apply Nat.lt_of_not_le
            intro hle
            have : 2 ^ n ≤ 2 ^ a := Nat.pow_le_pow_right (by decide) hle
            rw [Nat.testBit_lt_two_pow (by omega)] at h1
            exact absurd h1 (by decide)
          cases z : (w (139 + (a : Int))).toNat.testBit b with
          | false => rfl
          | true =>
            have := and_zero_iff.mp (ha a (by omega) h1) b z
            rw [h2] at this
            exact absurd this (by decide)
        rw [fX11_hopeOf_L4, hw, hn, if_neg (by omega), show i = n by omega]
        unfold hopV
        rw [if_pos hind]
    | succ r ih =>
      intro m i hi hm ha
      have hp : isP w (i : Int) := ⟨by omega, by omega⟩
      have hkin := (hW.2.2.1 _ hp).2.2.2.2.2
      have hho := (hW.2.2.1 _ hp).2.2.1
      have hr := hpS_r (w := w) (T := K) i (fun j hj => (hW.2.2.1 _ ⟨by omega, by omega⟩).2.2.1)
      cases m with
      | zero => omega
      | succ m =>
        have ih2 := ih m (i + 1) (by omega) (by omega)
        rw [show ((i + 1 : Nat) : Int) = (i : Int) + 1 by omega, hpS] at ih2
        rw [fX11_hopeOf_L4, hw, hn, if_pos (by omega), kb_bit (by omega) (by omega) (by omega) (by omega), Int.toNat_natCast, Int.toNat_natCast, bw_id (z := (i : Int) + 1) (by omega) (by omega), bw_id (z := 139 + (i : Int)) (by omega) (by omega), bw_id (z := 115 + (i : Int)) (by omega) (by omega)]
        cases z : K.testBit i with
        | false =>
          rw [z, if_neg (by decide), Int.add_zero] at ih2
          rw [if_neg (show ¬ false = true by decide), if_pos p00]
          refine ih2 (fun a h1 h2 => ?_)
          by_cases e : a = i
          · rw [e, z] at h2; exact absurd h2 (by decide)
          · exact ha a (by omega) h2
        | true =>
          rw [z, if_pos rfl] at ih2
          rw [if_pos rfl, if_neg n10, grd_pos (by omega), band_nat (by omega) (by omega) (by omega) (by omega), Int.toNat_natCast, grd_pos (by omega), bw_id (z := hpS w K i + w (115 + (i : Int))) (by omega) (by omega)]
          by_cases c : (w (139 + (i : Int))).toNat &&& K = 0
          · rw [if_pos (show (((w (139 + (i : Int))).toNat &&& K : Nat) : Int) = 0 by rw [c]; rfl)]
            refine ih2 (fun a h1 h2 => ?_)
            by_cases e : a = i
            · rw [e]; exact c
            · exact ha a (by omega) h2
          · have c' : ¬ (((w (139 + (i : Int))).toNat &&& K : Nat) : Int) = 0 := by omega
            rw [if_neg c']
            unfold hopV
            rw [if_neg]
            intro hind
            exact c (and_zero_iff.mpr (fun j hj => by
              cases y : K.testBit j with
              | false => rfl
              | true =>
                have := hind i j z y
                rw [hj] at this
                exact absurd this (by decide)))
  unfold fX11_hopeOf
  exact go n FU 0 (by omega) (by unfold FU; omega) (fun a h => by omega)
theorem hopesL_m {w : Int → Int} {σ : Sg} {n : Nat} {x1 : Int} {k49 : Int → Option Int} (hW : Wf w) (hw : rd σ 85 = w) (hn : w 85 = (n : Int)) : ∀ (r m c B : Nat), c + r = 2 ^ n → r < m → B < c → (∀ K, K < c → hopV w n K ≤ hopV w n B) → (∀ K, K < B → hopV w n K < hopV w n B) → ∃ B', B' < 2 ^ n ∧ (∀ K, K < 2 ^ n → hopV w n K ≤ hopV w n B') ∧ (∀ K, K < B' → hopV w n K < hopV w n B') ∧ fX11_hopes_L15 σ k49 x1 m (B : Int) (c : Int) = k49 (B' : Int)
  | 0, m, c, B, hi, hm, hB, h1, h2 => by
    have h12 := hW.1.2.2.2.2.2.1
    cases m with
    | zero => omega
    | succ m =>
      have n12 : 2 ^ n ≤ 2 ^ 12 := Nat.pow_le_pow_right (by decide) (by omega)
      refine ⟨B, by omega, fun K hK => h1 K (by omega), h2, ?_⟩
      rw [fX11_hopes_L15, hw, hn, bshl_1i (by omega) (by omega), Int.toNat_natCast, if_neg (by omega)]
  | r + 1, m, c, B, hi, hm, hB, h1, h2 => by
    have h12 := hW.1.2.2.2.2.2.1
    have n12 : 2 ^ n ≤ 2 ^ 12 := Nat.pow_le_pow_right (by decide) (by omega)
    cases m with
    | zero => omega
    | succ m =>
      rw [fX11_hopes_L15, hw, hn, bshl_1i (by omega) (by omega), Int.toNat_natCast, if_pos (by omega), hopeOf_m hW hw hn (by omega), Option.bind_some, hopeOf_m hW hw hn (by omega), Option.bind_some, bw_id (z := (c : Int) + 1) (by omega) (by omega), show (c : Int) + 1 = ((c + 1 : Nat) : Int) by omega]
      by_cases d : hopV w n B < hopV w n c
      · rw [if_pos d]
        refine hopesL_m hW hw hn r m (c + 1) c (by omega) (by omega) (by omega) (fun K hK => ?_) (fun K hK => ?_)
        · by_cases e : K = c
          · rw [e]; exact Int.le_refl _
          · have := h1 K (by omega); omega
        · have := h1 K (by omega); omega
      · rw [if_neg d]
        refine hopesL_m hW hw hn r m (c + 1) B (by omega) (by omega) (by omega) (fun K hK => ?_) h2
        by_cases e : K = c
        · rw [e]; omega
        · exact h1 K (by omega)
theorem op_hopes {has : Bool} {N : Nat} (hN : N ≤ 511) (x1 : Int) (h1 : bw x1 = x1) : OpP has N (fX10_hopes x1) (fX11_hopes x1) := by
  intro σ h
  have hC := h.1
  have hW := hC.1
  have h12 := hW.1.2.2.2.2.2.1
  have hKS : KS (rd σ 85) := h.2.2.2.1
  by_cases cx : x1 = 0 ∨ x1 = 1
  · obtain ⟨n, hn⟩ : ∃ n : Nat, rd σ 85 85 = (n : Int) := ⟨(rd σ 85 85).toNat, by omega⟩
    have e6 : rd σ 4 6 = (n : Int) := (show rd σ 4 6 = rd σ 85 85 from hC.2.2.2.1.1).trans hn
    have n12 : 2 ^ n ≤ 2 ^ 12 := Nat.pow_le_pow_right (by decide) (by omega)
    have n1 : 0 < 2 ^ n := Nat.pow_pos (by decide)
    have hk : ∀ p : Nat, (p : Int) < rd σ 85 85 → (rd σ 85 (139 + (p : Int))).toNat.testBit p = false ∧ ∀ q : Nat, (q : Int) < rd σ 85 85 → (rd σ 85 (139 + (p : Int))).toNat.testBit q = (rd σ 85 (139 + (q : Int))).toNat.testBit p := by
      intro p hp
      have hP : isP (rd σ 85) (p : Int) := ⟨by omega, hp⟩
      obtain ⟨-, k2, k3⟩ := hKS (p : Int) hP
      have r1 := (hW.2.2.1 _ hP).2.2.2.2.2
      refine ⟨?_, fun q hq => ?_⟩
      · rw [kinW_bit r1 (by omega) (by omega), Int.toNat_natCast] at k2
        cases z : (rd σ 85 (139 + (p : Int))).toNat.testBit p with
        | false => rfl
        | true => rw [z, if_pos rfl] at k2; exact absurd k2 (by decide)
      · have hQ : isP (rd σ 85) (q : Int) := ⟨by omega, hq⟩
        have r2 := (hW.2.2.1 _ hQ).2.2.2.2.2
        have := k3 (q : Int) hQ
        rw [kinW_bit r1 (by omega) (by omega), kinW_bit r2 (by omega) (by omega), Int.toNat_natCast, Int.toNat_natCast] at this
        cases z : (rd σ 85 (139 + (p : Int))).toNat.testBit q with
        | false =>
          cases y : (rd σ 85 (139 + (q : Int))).toNat.testBit p with
          | false => rfl
          | true => rw [z, y, if_neg (by decide), if_pos rfl] at this; exact absurd this (by decide)
        | true =>
          cases y : (rd σ 85 (139 + (q : Int))).toNat.testBit p with
          | false => rw [z, y, if_pos rfl, if_neg (by decide)] at this; exact absurd this (by decide)
          | true => rfl
    obtain ⟨T, t1, t2, t3⟩ := hope_c hC hk n 40 (2 ^ n - 1) (by omega) (by omega) (by omega)
    have lt := cnd_lt t1
    have cnd_of : ∀ U, U < 2 ^ n → indS (rd σ 85) U → cndS (rd σ 85) U (2 ^ n - 1) n := fun U hU hi => ⟨fun j hj => by
      have l : j < n := by
        apply Nat.lt_of_not_le
        intro hle
        have : 2 ^ n ≤ 2 ^ j := Nat.pow_le_pow_right (by decide) hle
        rw [Nat.testBit_lt_two_pow (by omega)] at hj
        exact absurd hj (by decide)
      rw [Nat.testBit_two_pow_sub_one, decide_eq_true_eq]
      exact ⟨l, l⟩, hi⟩
    have i0 : indS (rd σ 85) 0 := fun a b ha => absurd ha (by simp)
    have v0 : hopV (rd σ 85) n 0 = 0 := by
      unfold hopV
      rw [if_pos i0]
      have : ∀ k : Nat, hpS (rd σ 85) 0 k = 0 := by
        intro k
        induction k with
        | zero => rfl
        | succ k ih => rw [hpS, ih]; simp
      exact this n
    obtain ⟨B, b1, b2, b3, b4⟩ := hopesL_m (σ := σ) (x1 := x1) (k49 := fun v7_2 => if x1 = 0 then (fX11_hopeOf v7_2 σ).bind fun r9 => some r9 else some v7_2) hW rfl hn (2 ^ n - 1) FU 1 0 (by omega) (by unfold FU; omega) (by omega) (fun K hK => by rw [show K = 0 by omega]; exact Int.le_refl _) (fun K hK => by omega)
    have rT := hpS_r (w := rd σ 85) (T := T) n (fun j hj => (hW.2.2.1 _ ⟨by omega, by omega⟩).2.2.1)
    have rB := hpS_r (w := rd σ 85) (T := B) n (fun j hj => (hW.2.2.1 _ ⟨by omega, by omega⟩).2.2.1)
    have iB : indS (rd σ 85) B := by
      have := b2 0 n1
      rw [v0] at this
      unfold hopV at this
      by_cases z : indS (rd σ 85) B
      · exact z
      · rw [if_neg z] at this
        exact absurd this (by decide)
    have vB : hopV (rd σ 85) n B = hpS (rd σ 85) B n := by unfold hopV; rw [if_pos iB]
    have vT : hopV (rd σ 85) n T = hpS (rd σ 85) T n := by unfold hopV; rw [if_pos t1.2]
    have q1 := t3 B (cnd_of B b1 iB)
    have q2 := b2 T lt
    rw [vB, vT] at q2
    unfold hpV at q1
    have eTB : T = B := by
      by_cases z : T < B
      · have := b3 T z
        rw [vB, vT] at this
        omega
      · omega
    have cls : fX10_hopes_J11 σ x1 = some (if x1 = 0 then hpS (rd σ 85) B n else (B : Int)) := by
      unfold fX10_hopes_J11 fX1_hopeAmong
      rw [e6, bshl_1i (by omega) (by omega), Int.toNat_natCast, bw_id (z := ((2 ^ n : Nat) : Int) - 1) (by omega) (by omega), bw_id (z := (n : Int) - 1) (by omega) (by omega), show ((2 ^ n : Nat) : Int) - 1 = ((2 ^ n - 1 : Nat) : Int) by omega, t2, Option.bind_some, eTB]
      unfold hpV
      by_cases c0 : x1 = 0
      · rw [if_pos c0, if_pos c0, show (12 : Int) = ((12 : Nat) : Int) from rfl, bshr_n (by decide) (bw_id (by omega) (by omega))]
        congr 1
        omega
      · rw [if_neg c0, if_neg c0, band_m (k := 12) (by decide) (by decide) (bw_id (by omega) (by omega)), bw_id (by omega) (by omega)]
        congr 1
        omega
    have mdl : fX11_hopes x1 σ = some (if x1 = 0 then hpS (rd σ 85) B n else (B : Int)) := by
      unfold fX11_hopes
      rw [isIn_m, if_pos (show 0 ≤ x1 ∧ x1 ≤ 1 by omega), if_neg n10]
      refine b4.trans ?_
      by_cases c0 : x1 = 0
      · rw [if_pos c0, if_pos c0, hopeOf_m hW rfl hn b1, Option.bind_some, vB]
      · rw [if_neg c0, if_neg c0]
    have cls2 : fX10_hopes x1 σ = fX10_hopes_J11 σ x1 := by
      unfold fX10_hopes
      by_cases c0 : x1 = 0
      · rw [if_pos c0]
      · rw [if_neg c0, if_pos (by omega)]
    rw [cls2, cls, wp_some, mdl, wp_some]
  · unfold fX10_hopes fX11_hopes
    rw [if_neg (by omega), if_neg (by omega), isIn_m, if_neg (show ¬ (0 ≤ x1 ∧ x1 ≤ 1) by omega), if_pos p00, wp_some, wp_some]
