/-! bits of sets; kin -/
theorem kb_bit {K b : Int} (h0 : 0 ≤ K) (h1 : K < 2147483648) (b0 : 0 ≤ b) (b1 : b < 31) : band (bshr K b) 1 = if K.toNat.testBit b.toNat = true then 1 else 0 := by
  have hb : b = (b.toNat : Int) := by omega
  have hK : K = (K.toNat : Int) := by omega
  rw [band_1 (bshr_nr K b), hb, bshr_n (by omega) (bw_id (by omega) (by omega))]
  have e : K / 2 ^ b.toNat % 2 = ((K.toNat / 2 ^ b.toNat % 2 : Nat) : Int) := by
    rw [Int.natCast_emod, Int.natCast_ediv, Int.natCast_pow, ← hK]
    rfl
  rw [e, show ((b.toNat : Int)).toNat = b.toNat by omega, Nat.testBit_eq_decide_div_mod_eq]
  have h2 : K.toNat / 2 ^ b.toNat % 2 = 0 ∨ K.toNat / 2 ^ b.toNat % 2 = 1 := by omega
  rcases h2 with h2 | h2 <;> simp [h2]
theorem bshl_1i {b : Int} (b0 : 0 ≤ b) (b1 : b < 31) : bshl 1 b = ((2 ^ b.toNat : Nat) : Int) := by
  have hb : b = (b.toNat : Int) := by omega
  have := bshl_1n b.toNat (by omega)
  rw [← hb] at this
  rw [this, Int.natCast_pow]
  rfl
theorem pow31 {k : Nat} (h : k < 31) : 2 ^ k ≤ 1073741824 := by
  have : 2 ^ k ≤ 2 ^ 30 := Nat.pow_le_pow_right (by decide) (by omega)
  have e : (2 : Nat) ^ 30 = 1073741824 := by decide
  omega
theorem bor_bit {K b : Int} (h0 : 0 ≤ K) (h1 : K < 2147483648) (b0 : 0 ≤ b) (b1 : b < 31) : bor K (bshl 1 b) = ((K.toNat ||| 2 ^ b.toNat : Nat) : Int) := by
  have hp := pow31 (k := b.toNat) (by omega)
  have hge : (0 : Int) ≤ ((2 ^ b.toNat : Nat) : Int) := Int.natCast_nonneg _
  rw [bshl_1i b0 b1, bor_nat h0 h1 (by omega) (by omega), Int.toNat_natCast]
theorem bandn_bit {K b : Int} (h0 : 0 ≤ K) (h1 : K < 2147483648) (b0 : 0 ≤ b) (b1 : b < 31) : band K (bxor (bshl 1 b) (-1)) = ((K.toNat &&& (2 ^ b.toNat ^^^ (2 ^ 32 - 1)) : Nat) : Int) := by
  have hp := pow31 (k := b.toNat) (by omega)
  have hge : (0 : Int) ≤ ((2 ^ b.toNat : Nat) : Int) := Int.natCast_nonneg _
  unfold band bxor
  rw [Int32.ofInt_toInt, bshl_1i b0 b1]
  show ((Int32.ofInt K).toBitVec &&& ((Int32.ofInt ((2 ^ b.toNat : Nat) : Int)).toBitVec ^^^ (Int32.ofInt (-1)).toBitVec)).toInt = _
  have n1 : ((Int32.ofInt K).toBitVec &&& ((Int32.ofInt ((2 ^ b.toNat : Nat) : Int)).toBitVec ^^^ (Int32.ofInt (-1)).toBitVec)).toNat = K.toNat &&& (2 ^ b.toNat ^^^ (2 ^ 32 - 1)) := by
    rw [BitVec.toNat_and, BitVec.toNat_xor, i32_tn h0 h1, i32_tn (by omega) (by omega), Int.toNat_natCast]
    rfl
  have hlt : K.toNat &&& (2 ^ b.toNat ^^^ (2 ^ 32 - 1)) ≤ K.toNat := Nat.and_le_left
  rw [BitVec.toInt_eq_toNat_cond, n1, if_pos (by omega)]
def kset (t : Int) (K b : Int) : Int := if t = 0 then band K (bxor (bshl 1 b) (-1)) else bor K (bshl 1 b)
theorem kset_ok {t K b : Int} {n : Nat} (hn : n ≤ 12) (h0 : 0 ≤ K) (h1 : K.toNat < 2 ^ n) (b0 : 0 ≤ b) (b1 : b.toNat < n) : 0 ≤ kset t K b ∧ (kset t K b).toNat < 2 ^ n ∧ ∀ c : Nat, c < 31 → (kset t K b).toNat.testBit c = if c = b.toNat then decide (¬ t = 0) else K.toNat.testBit c := by
  have hp : 2 ^ n ≤ 4096 := by
    have : 2 ^ n ≤ 2 ^ 12 := Nat.pow_le_pow_right (by decide) hn
    have e : (2 : Nat) ^ 12 = 4096 := by decide
    omega
  unfold kset
  by_cases ht : t = 0
  · rw [if_pos ht, bandn_bit h0 (by omega) b0 (by omega)]
    have hlt : K.toNat &&& (2 ^ b.toNat ^^^ (2 ^ 32 - 1)) ≤ K.toNat := Nat.and_le_left
    refine ⟨by omega, by rw [Int.toNat_natCast]; omega, fun c hc => ?_⟩
    rw [Int.toNat_natCast, Nat.testBit_and, Nat.testBit_xor, Nat.testBit_two_pow, Nat.testBit_two_pow_sub_one]
    by_cases e : c = b.toNat
    · rw [if_pos e]
      simp [ht, e]
      omega
    · rw [if_neg e]
      have : ¬ b.toNat = c := fun z => e z.symm
      simp [this]
      omega
  · rw [if_neg ht, bor_bit h0 (by omega) b0 (by omega)]
    refine ⟨by omega, ?_, fun c hc => ?_⟩
    · rw [Int.toNat_natCast]
      exact Nat.or_lt_two_pow h1 (Nat.pow_lt_pow_right (by decide) b1)
    · rw [Int.toNat_natCast, Nat.testBit_or, Nat.testBit_two_pow]
      by_cases e : c = b.toNat
      · rw [if_pos e]
        simp [ht, e]
      · rw [if_neg e]
        have : ¬ b.toNat = c := fun z => e z.symm
        simp [this]
theorem kinW_bit {w : Int → Int} {a b : Int} (h : 0 ≤ w (139 + a) ∧ w (139 + a) < 4096) (b0 : 0 ≤ b) (b1 : b < 12) : kinW w a b = if (w (139 + a)).toNat.testBit b.toNat = true then 1 else 0 := kb_bit h.1 (by omega) b0 (by omega)
/-- kin on both sides -/
theorem op_kin {has : Bool} {N : Nat} (hN : N ≤ 511) (x1 x2 x3 : Int) (hx : x3 = 0 ∨ x3 = 1) (h1 : bw x1 = x1) (h2 : bw x2 = x2) : OpE has N (fX10_kin x1 x2 x3) (fX11_kin x1 x2 x3) := by
  intro σ h
  have hC := h.1
  have hW := hC.1
  have h12 := hW.1.2.2.2.2.2.1
  have har : fX1_areTwo 4 x1 x2 σ = if isP (rd σ 85) x1 ∧ isP (rd σ 85) x2 ∧ x1 ≠ x2 then 1 else 0 := areTwo_c hC x1 x2
  by_cases ht : isP (rd σ 85) x1 ∧ isP (rd σ 85) x2 ∧ x1 ≠ x2
  · obtain ⟨p1, p2, hne⟩ := ht
    have a0 := p1.1
    have a1 := p1.2
    have b0 := p2.1
    have b1 := p2.2
    have k1 := (hW.2.2.1 x1 p1).2.2.2.2.2
    have k2 := (hW.2.2.1 x2 p2).2.2.2.2.2
    have c1 : rd σ 10 x1 = rd σ 85 (139 + x1) := (hC.2.2.2.1.2 x1 p1).2.2.2.2.2
    have c2 : rd σ 10 x2 = rd σ 85 (139 + x2) := (hC.2.2.2.1.2 x2 p2).2.2.2.2.2
    obtain ⟨m1, m2, m3⟩ := h.2.2.2.1 x1 p1
    obtain ⟨n1, n2, n3⟩ := h.2.2.2.1 x2 p2
    have v1 := kset_ok (t := x3) (K := rd σ 85 (139 + x1)) (b := x2) (n := (rd σ 85 85).toNat) (by omega) k1.1 m1 b0 (by omega)
    have v2 := kset_ok (t := x3) (K := rd σ 85 (139 + x2)) (b := x1) (n := (rd σ 85 85).toNat) (by omega) k2.1 n1 a0 (by omega)
    have h4096 : 2 ^ (rd σ 85 85).toNat ≤ 4096 := by
      have : 2 ^ (rd σ 85 85).toNat ≤ 2 ^ 12 := Nat.pow_le_pow_right (by decide) (by omega)
      have e : (2 : Nat) ^ 12 = 4096 := by decide
      omega
    have r1 : bw (kset x3 (rd σ 85 (139 + x1)) x2) = kset x3 (rd σ 85 (139 + x1)) x2 := bw_id (by omega) (by omega)
    have r2 : bw (kset x3 (rd σ 85 (139 + x2)) x1) = kset x3 (rd σ 85 (139 + x2)) x1 := bw_id (by omega) (by omega)
    refine opE_wr (v := 1) (w' := upz (upz (rd σ 85) (139 + x1) (kset x3 (rd σ 85 (139 + x1)) x2)) (139 + x2) (kset x3 (rd σ 85 (139 + x2)) x1)) h (by rw [upz_n (by omega), upz_n (by omega)]; exact h.2.1) (by rw [upz_n (by omega), upz_n (by omega)]; exact nb_ok h.2.2.1) ?_ ?_ (fun τ e85 => ?_)
    · have hrow : ∀ a : Int, upz (upz (rd σ 85) (139 + x1) (kset x3 (rd σ 85 (139 + x1)) x2)) (139 + x2) (kset x3 (rd σ 85 (139 + x2)) x1) (139 + a) = if a = x2 then kset x3 (rd σ 85 (139 + x2)) x1 else if a = x1 then kset x3 (rd σ 85 (139 + x1)) x2 else rd σ 85 (139 + a) := by
        intro a
        by_cases e1 : a = x2
        · rw [e1, upz_s, if_pos rfl]
        · rw [upz_n (by omega), if_neg e1]
          by_cases e2 : a = x1
          · rw [e2, upz_s, if_pos rfl]
          · rw [upz_n (by omega), if_neg e2]
      have h85 : upz (upz (rd σ 85) (139 + x1) (kset x3 (rd σ 85 (139 + x1)) x2)) (139 + x2) (kset x3 (rd σ 85 (139 + x2)) x1) 85 = rd σ 85 85 := by rw [upz_n (by omega), upz_n (by omega)]
      have hbit : ∀ a c : Int, isP (rd σ 85) a → isP (rd σ 85) c → kinW (upz (upz (rd σ 85) (139 + x1) (kset x3 (rd σ 85 (139 + x1)) x2)) (139 + x2) (kset x3 (rd σ 85 (139 + x2)) x1)) a c = if (a = x2 ∧ c = x1) ∨ (a = x1 ∧ c = x2) then (if x3 = 0 then 0 else 1) else kinW (rd σ 85) a c := by
        intro a c ha hc
        have q0 := ha.1
        have q1 := ha.2
        have s0 := hc.1
        have s1 := hc.2
        have ka := (hW.2.2.1 a ha).2.2.2.2.2
        unfold kinW
        rw [hrow a]
        by_cases e1 : a = x2
        · rw [if_pos e1, kb_bit v2.1 (by omega) s0 (by omega), v2.2.2 c.toNat (by omega)]
          by_cases e2 : c = x1
          · rw [if_pos (show c.toNat = x1.toNat by omega), if_pos (show ((a = x2 ∧ c = x1) ∨ (a = x1 ∧ c = x2)) from Or.inl ⟨e1, e2⟩)]
            rcases hx with hx | hx <;> simp [hx]
          · rw [if_neg (show ¬ c.toNat = x1.toNat by omega), if_neg (show ¬ ((a = x2 ∧ c = x1) ∨ (a = x1 ∧ c = x2)) by omega), e1, kb_bit k2.1 (by omega) s0 (by omega)]
        · rw [if_neg e1]
          by_cases e3 : a = x1
          · rw [if_pos e3, kb_bit v1.1 (by omega) s0 (by omega), v1.2.2 c.toNat (by omega)]
            by_cases e2 : c = x2
            · rw [if_pos (show c.toNat = x2.toNat by omega), if_pos (show ((a = x2 ∧ c = x1) ∨ (a = x1 ∧ c = x2)) from Or.inr ⟨e3, e2⟩)]
              rcases hx with hx | hx <;> simp [hx]
            · rw [if_neg (show ¬ c.toNat = x2.toNat by omega), if_neg (show ¬ ((a = x2 ∧ c = x1) ∨ (a = x1 ∧ c = x2)) by omega), e3, kb_bit k1.1 (by omega) s0 (by omega)]
          · rw [if_neg e3, if_neg (show ¬ ((a = x2 ∧ c = x1) ∨ (a = x1 ∧ c = x2)) by omega)]
      intro a ha
      have ha' : isP (rd σ 85) a := by unfold isP at ha ⊢; rw [← h85]; exact ha
      obtain ⟨z1, z2, z3⟩ := h.2.2.2.1 a ha'
      rw [h85, hrow a]
      refine ⟨?_, ?_, fun b hb => ?_⟩
      · by_cases e1 : a = x2
        · rw [if_pos e1]; exact v2.2.1
        · rw [if_neg e1]
          by_cases e2 : a = x1
          · rw [if_pos e2]; exact v1.2.1
          · rw [if_neg e2]; exact z1
      · rw [hbit a a ha' ha', if_neg (by omega)]; exact z2
      · have hb' : isP (rd σ 85) b := by unfold isP at hb ⊢; rw [← h85]; exact hb
        rw [hbit a b ha' hb', hbit b a hb' ha']
        by_cases e : (a = x2 ∧ b = x1) ∨ (a = x1 ∧ b = x2)
        · rw [if_pos e, if_pos (show (b = x2 ∧ a = x1) ∨ (b = x1 ∧ a = x2) by omega)]
        · rw [if_neg e, if_neg (show ¬ ((b = x2 ∧ a = x1) ∨ (b = x1 ∧ a = x2)) by omega)]; exact z3 b hb'
    · have hcl : fX10_kin x1 x2 x3 σ = some (1, wr (wr (wr σ 10 x1 (kset x3 (rd σ 85 (139 + x1)) x2)) 10 x2 (kset x3 (rd σ 85 (139 + x2)) x1)) 55 3 0) := by
        unfold fX10_kin fX1_makeKin kset
        have hne' : x2 ≠ x1 := fun e => hne e.symm
        rw [har, if_pos (show isP (rd σ 85) x1 ∧ isP (rd σ 85) x2 ∧ x1 ≠ x2 from ⟨p1, p2, hne⟩), if_neg n10]
        rcases hx with hx | hx
        · rw [if_pos hx, if_pos hx, if_pos hx, grd_pos (by omega), grd_pos (by omega), grd_pos (by omega), grd_pos (by omega)]
          show some ((1 : Int), wr (wr (wr σ 10 x1 (band (rd σ 10 x1) (bxor (bshl 1 x2) (-1)))) 10 x2 (band (rd (wr σ 10 x1 (band (rd σ 10 x1) (bxor (bshl 1 x2) (-1)))) 10 x2) (bxor (bshl 1 x1) (-1)))) 55 3 0) = _
          rw [rq_i hne', c1, c2]
        · rw [if_neg (by omega), if_neg (by omega), if_neg (by omega), grd_pos (by omega), grd_pos (by omega), grd_pos (by omega), grd_pos (by omega)]
          show some ((1 : Int), wr (wr (wr σ 10 x1 (bor (rd σ 10 x1) (bshl 1 x2))) 10 x2 (bor (rd (wr σ 10 x1 (bor (rd σ 10 x1) (bshl 1 x2))) 10 x2) (bshl 1 x1))) 55 3 0) = _
          rw [rq_i hne', c1, c2]
      rw [hcl, wp_some]
      refine ⟨rfl, ?_, rq_s, (rq_i (by decide)).trans ((rq_c (by decide)).trans (rq_c (by decide))), ((Fr.rf.wr (by decide)).wr (by decide)).wr (by decide)⟩
      refine CW.fr ?_ (Fr.wr (l := [55]) Fr.rf (by decide)) (by decide)
      have off : ∀ (k : Nat) (y : Int), k ≠ 9 → vw (wr (wr σ 10 x1 (kset x3 (rd σ 85 (139 + x1)) x2)) 10 x2 (kset x3 (rd σ 85 (139 + x2)) x1)) 1 k y = vw σ 1 k y := by
        intro k y hk
        unfold vw
        split
        · rfl
        · rw [rq_c (by omega), rq_c (by omega)]
      have m0 : ¬ (150 : Int) = 0 := by decide
      refine CG_sta hC (fun k a b c => by rw [upz_n (by omega), upz_n (by omega)]) (fun k a b c d y => off k y d) (fun y a b c => off 0 y (by decide)) ?_ ?_ ?_ (fun p hp => ?_) ?_ ?_ ?_ (fun p hp => ?_)
      · rw [upz_n (by omega), upz_n (by omega)]; exact hW.1.2.2.1
      · rw [upz_n (by omega), upz_n (by omega)]; exact hW.1.2.2.2.1
      · rw [upz_n (by omega), upz_n (by omega)]; exact hW.1.2.2.2.2.1
      · have q0 := hp.1
        have q1 := hp.2
        have hh := hW.2.2.1 p hp
        refine ⟨by rw [upz_n (by omega), upz_n (by omega)]; exact hh.2.1, by rw [upz_n (by omega), upz_n (by omega)]; exact hh.2.2.1, ?_⟩
        by_cases e1 : p = x2
        · rw [e1, upz_s]; omega
        · rw [upz_n (by omega)]
          by_cases e2 : p = x1
          · rw [e2, upz_s]; omega
          · rw [upz_n (by omega)]; exact hh.2.2.2.2.2
      · rw [off 0 2 (by decide), upz_n (by omega), upz_n (by omega)]; exact hC.2.1.2.2.1
      · rw [off 0 3 (by decide), upz_n (by omega), upz_n (by omega)]; exact hC.2.1.2.2.2.1
      · rw [if_neg m0, off 0 4 (by decide), upz_n (by omega), upz_n (by omega)]
        have := hC.2.1.2.2.2.2.1
        rw [if_neg m0] at this
        exact this
      · have q0 := hp.1
        have q1 := hp.2
        obtain ⟨-, q2, q3, -, -, q6⟩ := hC.2.2.2.1.2 p hp
        refine ⟨by rw [off 5 p (by decide), upz_n (by omega), upz_n (by omega)]; exact q2, by rw [off 6 p (by decide), upz_n (by omega), upz_n (by omega)]; exact q3, ?_⟩
        show rd (wr (wr σ 10 x1 (kset x3 (rd σ 85 (139 + x1)) x2)) 10 x2 (kset x3 (rd σ 85 (139 + x2)) x1)) 10 p = _
        by_cases e1 : p = x2
        · rw [e1, rq_s, upz_s, r2]
        · rw [rq_i e1, upz_n (j := 139 + p) (by omega)]
          by_cases e2 : p = x1
          · rw [e2, rq_s, upz_s, r1]
          · rw [rq_i e2, upz_n (j := 139 + p) (by omega)]; exact q6
    · have hml : fX11_kin x1 x2 x3 τ = some (1, wr (wr (wr τ 85 (139 + x1) (kset x3 (rd σ 85 (139 + x1)) x2)) 85 (139 + x2) (kset x3 (rd σ 85 (139 + x2)) x1)) 84 4 0) := by
        unfold fX11_kin fX11_kin_J69 fX11_kin_J116 kset
        have hne' : 139 + x2 ≠ 139 + x1 := fun e => hne (by omega)
        rw [isPerson_m hW e85, isPerson_m hW e85, if_pos p1, if_neg n10, if_pos p2, if_neg n10, if_neg hne, bw_id (z := 139 + x1) (by omega) (by omega), bw_id (z := 139 + x2) (by omega) (by omega)]
        rcases hx with hx | hx
        · rw [if_pos hx, if_pos hx, if_pos hx, if_pos hx, grd_pos (by omega), grd_pos (by omega), grd_pos (by omega), grd_pos (by omega), rq_i hne', e85]
          rfl
        · rw [if_neg (by omega), if_neg (by omega), if_neg (by omega), if_neg (by omega), grd_pos (by omega), grd_pos (by omega), grd_pos (by omega), grd_pos (by omega), rq_i hne', e85]
          rfl
      rw [hml, wp_some]
      refine ⟨rfl, ?_, rq_s, fun i h4 h26 h28 => (rq_i h4).trans ((rq_c (by decide)).trans (rq_c (by decide))), ((Fr.rf.wr (by decide)).wr (by decide)).wr (by decide)⟩
      rw [wr_off _ _ (by decide), wr_row, wr_row, e85, r1, r2]
  · have e1 : fX10_kin x1 x2 x3 σ = some (0, σ) := by
      unfold fX10_kin
      rw [har, if_neg ht, if_pos p00]
    have e2 : fX11_kin x1 x2 x3 σ = some (0, σ) := by
      unfold fX11_kin
      rw [isPerson_m hW rfl, isPerson_m hW rfl]
      by_cases q1 : isP (rd σ 85) x1
      · by_cases q2 : isP (rd σ 85) x2
        · rw [if_pos q1, if_neg n10, if_pos q2, if_neg n10, if_pos (Decidable.not_not.mp (fun z => ht ⟨q1, q2, z⟩))]
        · rw [if_pos q1, if_neg n10, if_neg q2, if_pos p00]
      · rw [if_neg q1, if_pos p00]
    rw [e1, wp_some]
    show wp (fX11_kin x1 x2 x3 σ) _
    rw [e2, wp_some]
    exact ⟨rfl, h.keep Keep.rf⟩
