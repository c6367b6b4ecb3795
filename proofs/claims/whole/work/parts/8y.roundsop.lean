/-! rounds, all of it -/
def twoN (w : Int → Int) (l : Nat) : Nat := 2 ^ (w (152 + 4 * (l : Int))).toNat ||| 2 ^ (w (153 + 4 * (l : Int))).toNat
def uS (w : Int → Int) (K0 : Nat) : Nat → Nat
  | 0 => 0
  | l + 1 => if (K0 ||| uS w K0 l) &&& twoN w l = 0 then uS w K0 l ||| twoN w l else uS w K0 l
def cbS (w : Int → Int) (K0 : Nat) : Nat → Nat
  | 0 => 0
  | l + 1 => if (K0 ||| uS w K0 l) &&& twoN w l = 0 then cbS w K0 l ||| 2 ^ l else cbS w K0 l
theorem cbS_lt {w : Int → Int} {K0 : Nat} : ∀ n : Nat, cbS w K0 n < 2 ^ n
  | 0 => by rw [cbS]; decide
  | n + 1 => by
    have h := cbS_lt (w := w) (K0 := K0) n
    have h2 : 2 ^ n < 2 ^ (n + 1) := Nat.pow_lt_pow_right (by decide) (by omega)
    rw [cbS]
    split
    · exact Nat.or_lt_two_pow (by omega) h2
    · omega
theorem cbS_bit {w : Int → Int} {K0 : Nat} : ∀ (n j : Nat), j < n → ((cbS w K0 n).testBit j = true ↔ (K0 ||| uS w K0 j) &&& twoN w j = 0)
  | 0, j, h => by omega
  | n + 1, j, h => by
    have hl := cbS_lt (w := w) (K0 := K0) n
    rw [cbS]
    by_cases e : j = n
    · rw [e]
      by_cases c : (K0 ||| uS w K0 n) &&& twoN w n = 0
      · rw [if_pos c, Nat.testBit_or, Nat.testBit_two_pow_self]
        simp [c]
      · rw [if_neg c, Nat.testBit_lt_two_pow hl]
        simp [c]
    · have ih := cbS_bit (w := w) (K0 := K0) n j (by omega)
      by_cases c : (K0 ||| uS w K0 n) &&& twoN w n = 0
      · rw [if_pos c, Nat.testBit_or, Nat.testBit_two_pow, decide_eq_false (show ¬ n = j by omega), Bool.or_false]
        exact ih
      · rw [if_neg c]
        exact ih
theorem two_c {w : Int → Int} {l : Nat} (hW : Wf w) (hp : isP w (w (152 + 4 * (l : Int)))) (hq : isP w (w (153 + 4 * (l : Int)))) : bor (bshl 1 (w (152 + 4 * (l : Int)))) (bshl 1 (w (153 + 4 * (l : Int)))) = ((twoN w l : Nat) : Int) ∧ twoN w l < 4096 := by
  have h12 := hW.1.2.2.2.2.2.1
  have hp1 := hp.1
  have hp2 := hp.2
  have hq1 := hq.1
  have hq2 := hq.2
  have pl : (2 : Nat) ^ (w (152 + 4 * (l : Int))).toNat < 4096 := Nat.pow_lt_pow_right (n := 12) (by decide) (by omega)
  have ql : (2 : Nat) ^ (w (153 + 4 * (l : Int))).toNat < 4096 := Nat.pow_lt_pow_right (n := 12) (by decide) (by omega)
  have pge : (0 : Int) ≤ ((2 ^ (w (152 + 4 * (l : Int))).toNat : Nat) : Int) := Int.natCast_nonneg _
  refine ⟨?_, Nat.or_lt_two_pow (n := 12) pl ql⟩
  rw [bshl_1i (b := w (152 + 4 * (l : Int))) (by omega) (by omega), bor_bit (by omega) (by omega) (by omega) (by omega), Int.toNat_natCast]
  rfl
theorem uS_lt {w : Int → Int} {K0 nv : Nat} (h2 : ∀ l : Nat, l < nv → twoN w l < 4096) : ∀ n : Nat, n ≤ nv → uS w K0 n < 4096
  | 0, _ => by rw [uS]; decide
  | n + 1, h => by
    have := uS_lt (K0 := K0) h2 n (by omega)
    rw [uS]
    split
    · exact Nat.or_lt_two_pow (n := 12) this (h2 n (by omega))
    · exact this
theorem or_and_zero {A B T : Nat} : (A ||| B) &&& T = 0 ↔ A &&& T = 0 ∧ B &&& T = 0 := by
  rw [and_zero_iff, and_zero_iff, and_zero_iff]
  constructor
  · intro h
    exact ⟨fun j hj => h j (by rw [Nat.testBit_or, hj]; rfl), fun j hj => h j (by rw [Nat.testBit_or, hj, Bool.or_true])⟩
  · intro h j hj
    rw [Nat.testBit_or, Bool.or_eq_true] at hj
    exact hj.elim (h.1 j) (h.2 j)
theorem counting_m {w : Int → Int} {σ : Sg} {K0 nv : Nat} (hW : Wf w) (hw : rd σ 85 = w) (hn : w 87 = (nv : Int)) (hK : wedB w K0) : fX11_counting σ = some ((cbS w K0 nv : Nat) : Int) := by
  have h12 := hW.1.2.2.2.2.2.1
  have h87 := hW.2.2.2.1.1
  have hv : ∀ l : Nat, l < nv → isP w (w (152 + 4 * (l : Int))) ∧ isP w (w (153 + 4 * (l : Int))) := fun l hl => by
    obtain ⟨-, b, c, -⟩ := hW.2.2.2.1.2 (l : Int) (by omega) (by omega)
    exact ⟨b, c⟩
  have go : ∀ (r n l : Nat), l + r = nv → r < n → fX11_counting_L6 σ n ((cbS w K0 l : Nat) : Int) ((uS w K0 l : Nat) : Int) (l : Int) = some ((cbS w K0 nv : Nat) : Int) := by
    intro r
    induction r with
    | zero =>
      intro n l hl hm
      cases n with
      | zero => omega
      | succ n => rw [fX11_counting_L6, hw, if_neg (by omega), show l = nv by omega]
    | succ r ih =>
      intro n l hl hm
      cases n with
      | zero => omega
      | succ n =>
        have ih2 := ih n (l + 1) (by omega) (by omega)
        rw [show ((l + 1 : Nat) : Int) = (l : Int) + 1 by omega, cbS, uS] at ih2
        obtain ⟨p1, p2⟩ := hv l (by omega)
        obtain ⟨t1, t2⟩ := two_c hW p1 p2
        have p10 := p1.1
        have p11 := p1.2
        have p20 := p2.1
        have p21 := p2.2
        have ul := uS_lt (K0 := K0) (fun l hl => (two_c hW (hv l hl).1 (hv l hl).2).2) l (by omega)
        have cl := cbS_lt (w := w) (K0 := K0) l
        have c16 : 2 ^ l ≤ 2 ^ 16 := Nat.pow_le_pow_right (by decide) (by omega)
        have fr := wedB_free hW hK p1 p2
        have hk := hK.1
        rw [t1, band_nat (by omega) (by omega) (by omega) (by omega), Int.toNat_natCast, Int.toNat_natCast] at fr
        rw [fX11_counting_L6, hw, if_pos (by omega), ofVow_m hw (by omega) (by decide), ofVow_m hw (by omega) (by decide), Option.bind_some, Option.bind_some, show 151 + 4 * (l : Int) + 1 = 152 + 4 * (l : Int) by omega, show 151 + 4 * (l : Int) + 2 = 153 + 4 * (l : Int) by omega, t1, band_nat (by omega) (by omega) (by omega) (by omega), Int.toNat_natCast, Int.toNat_natCast, Option.bind_some, isFree_m hw (by omega), Option.bind_some, Option.bind_some, isFree_m hw (by omega), Option.bind_some, bw_id (z := (l : Int) + 1) (by omega) (by omega)]
        by_cases c1 : uS w K0 l &&& twoN w l = 0
        · have c1' : ((uS w K0 l &&& twoN w l : Nat) : Int) = 0 := by rw [c1]; rfl
          rw [if_pos c1']
          by_cases c2 : w (68 + w (152 + 4 * (l : Int))) = -1
          · rw [if_pos c2, if_neg n10]
            by_cases c3 : w (68 + w (153 + 4 * (l : Int))) = -1
            · have cc : (K0 ||| uS w K0 l) &&& twoN w l = 0 := or_and_zero.mpr ⟨by have := fr.mpr ⟨c2, c3⟩; omega, c1⟩
              rw [if_pos cc, if_pos cc] at ih2
              rw [if_pos c3, if_neg n10, bor_bit (by omega) (by omega) (by omega) (by omega), Int.toNat_natCast, Int.toNat_natCast, bor_nat (by omega) (by omega) (by omega) (by omega), Int.toNat_natCast, Int.toNat_natCast]
              exact ih2
            · have cc : ¬ (K0 ||| uS w K0 l) &&& twoN w l = 0 := fun z => c3 (fr.mp (by rw [(or_and_zero.mp z).1]; rfl)).2
              rw [if_neg cc, if_neg cc] at ih2
              rw [if_neg c3, if_pos p00]
              exact ih2
          · have cc : ¬ (K0 ||| uS w K0 l) &&& twoN w l = 0 := fun z => c2 (fr.mp (by rw [(or_and_zero.mp z).1]; rfl)).1
            rw [if_neg cc, if_neg cc] at ih2
            rw [if_neg c2, if_pos p00]
            exact ih2
        · have cc : ¬ (K0 ||| uS w K0 l) &&& twoN w l = 0 := fun z => c1 (or_and_zero.mp z).2
          have c1' : ¬ ((uS w K0 l &&& twoN w l : Nat) : Int) = 0 := by omega
          rw [if_neg cc, if_neg cc] at ih2
          rw [if_neg c1']
          exact ih2
  unfold fX11_counting
  have := go nv FU 0 (by omega) (by unfold FU; omega)
  rw [cbS, uS] at this
  exact this
def flS (w : Int → Int) (CB : Nat) : Nat → (Int → Int)
  | 0 => fun _ => 0
  | n + 1 => if CB.testBit n = true then upz (flS w CB n) (cntN CB n : Nat) (w (154 + 4 * (n : Int))) else flS w CB n
theorem flS_at {w : Int → Int} {CB : Nat} : ∀ (n l : Nat), l < n → CB.testBit l = true → flS w CB n (cntN CB l : Nat) = w (154 + 4 * (l : Int))
  | 0, l, h, _ => by omega
  | n + 1, l, h, hb => by
    rw [flS]
    by_cases e : l = n
    · rw [← e, if_pos hb, upz_s]
    · have ih := flS_at (w := w) n l (by omega) hb
      by_cases c : CB.testBit n = true
      · have := cntN_lt (K := CB) (a := l) (b := n) (by omega) hb
        rw [if_pos c, upz_n (by omega)]
        exact ih
      · rw [if_neg c]
        exact ih
theorem makeL_c {w : Int → Int} {σ0 : Sg} {K0 nv : Nat} {k113 : Sg → Option Sg} {Q : Sg → Prop} (hC : CW 150 w σ0 1) (hn : w 87 = (nv : Int)) (hK0 : K0 < 4096) : ∀ (r n l : Nat) (ρ : Sg), l + r = nv → r < n → Fr [80, 81, 82] σ0 ρ → rd ρ 80 3 = ((cntN (cbS w K0 nv) l : Nat) : Int) → (∀ j : Nat, j < l → (cbS w K0 nv).testBit j = true → rd ρ 81 (cntN (cbS w K0 nv) j : Nat) = j ∧ rd ρ 82 (cntN (cbS w K0 nv) j : Nat) = w (154 + 4 * (j : Int))) → (∀ τ, Fr [80, 81, 82] σ0 τ → rd τ 80 3 = ((cntN (cbS w K0 nv) nv : Nat) : Int) → (∀ j : Nat, j < nv → (cbS w K0 nv).testBit j = true → rd τ 81 (cntN (cbS w K0 nv) j : Nat) = j ∧ rd τ 82 (cntN (cbS w K0 nv) j : Nat) = w (154 + 4 * (j : Int))) → wp (k113 τ) Q) → wp (fX5_make_L15 1 k113 n ((K0 ||| uS w K0 l : Nat) : Int) (l : Int) ρ) Q
  | 0, n, l, ρ, hl, hm, hG, h3, hJ, hk => by
    have e2 : rd σ0 18 2 = w 87 := hC.2.2.2.2.1.1.2.1
    cases n with
    | zero => omega
    | succ n =>
      have e : l = nv := by omega
      rw [fX5_make_L15, show (1 + 17 : Nat) = 18 from rfl, hG 18 2 (by decide), e2, if_neg (by omega)]
      rw [e] at h3 hJ
      exact hk ρ hG h3 hJ
  | r + 1, n, l, ρ, hl, hm, hG, h3, hJ, hk => by
    have hW := hC.1
    have h87 := hW.2.2.2.1.1
    have e2 : rd σ0 18 2 = w 87 := hC.2.2.2.2.1.1.2.1
    have hv : ∀ l : Nat, l < nv → isP w (w (152 + 4 * (l : Int))) ∧ isP w (w (153 + 4 * (l : Int))) := fun l hl => by
      obtain ⟨-, b, c, -⟩ := hW.2.2.2.1.2 (l : Int) (by omega) (by omega)
      exact ⟨b, c⟩
    obtain ⟨g1, g2, g3, g4⟩ := hC.2.2.2.2.1.1.2.2 (l : Int) (by omega) (by omega)
    have g2 : rd σ0 19 (4 * (l : Int) + 1) = w (152 + 4 * (l : Int)) := g2
    have g3 : rd σ0 19 (4 * (l : Int) + 2) = w (153 + 4 * (l : Int)) := g3
    have g4 : rd σ0 19 (4 * (l : Int) + 3) = w (154 + 4 * (l : Int)) := g4
    have cellv : ∀ (ρ' : Sg) (j : Int), Fr [80, 81, 82] σ0 ρ' → 0 ≤ j → j < 4 → fX6_cell 18 64 (l : Int) j ρ' = some (rd σ0 19 (4 * (l : Int) + j)) := fun ρ' j hf j0 j1 => by
      rw [cell_c ((hf 18 2 (by decide)).trans e2) (by omega) (by omega) (by omega) (by omega)]
      exact congrArg some (hf 19 _ (by decide))
    obtain ⟨p1, p2⟩ := hv l (by omega)
    obtain ⟨t1, t2⟩ := two_c hW p1 p2
    obtain ⟨v1, v2, v3, v4, v5⟩ := hW.2.2.2.1.2 (l : Int) (by omega) (by omega)
    have fb := isF_b v5
    have ul := uS_lt (K0 := K0) (fun l hl => (two_c hW (hv l hl).1 (hv l hl).2).2) l (by omega)
    have kl : K0 ||| uS w K0 l < 4096 := Nat.or_lt_two_pow (n := 12) hK0 ul
    have cle := cntN_le (K := cbS w K0 nv) l
    have hbit := cbS_bit (w := w) (K0 := K0) nv l (by omega)
    cases n with
    | zero => omega
    | succ n =>
      have ih := makeL_c (k113 := k113) (Q := Q) hC hn hK0 r n (l + 1)
      rw [show ((l + 1 : Nat) : Int) = (l : Int) + 1 by omega, uS, cntN] at ih
      rw [fX5_make_L15, show (1 + 17 : Nat) = 18 from rfl, hG 18 2 (by decide), e2, if_pos (by omega), if_pos (by omega), cellv ρ 1 hG (by decide) (by decide), cellv ρ 2 hG (by decide) (by decide), Option.bind_some, Option.bind_some, g2, g3, t1, band_nat (by omega) (by omega) (by omega) (by omega), Int.toNat_natCast, Int.toNat_natCast, bw_id (z := (l : Int) + 1) (by omega) (by omega)]
      by_cases cc : (K0 ||| uS w K0 l) &&& twoN w l = 0
      · have cc' : (((K0 ||| uS w K0 l) &&& twoN w l : Nat) : Int) = 0 := by rw [cc]; rfl
        have hb := hbit.mpr cc
        rw [if_pos cc, if_pos hb] at ih
        have eo : bor ((K0 ||| uS w K0 l : Nat) : Int) ((twoN w l : Nat) : Int) = ((K0 ||| (uS w K0 l ||| twoN w l) : Nat) : Int) := by
          rw [bor_nat (by omega) (by omega) (by omega) (by omega), Int.toNat_natCast, Int.toNat_natCast, Nat.or_assoc]
        rw [if_pos cc', h3, grd_pos (by omega), cellv _ 3 (hG.wr (by decide)) (by decide) (by decide), Option.bind_some, g4, eo]
        simp (disch := decide) only [rq_c]
        rw [h3, grd_pos (by omega), bw_id (z := ((cntN (cbS w K0 nv) l : Nat) : Int) + 1) (by omega) (by omega)]
        refine ih _ (by omega) (by omega) (((hG.wr (by decide)).wr (by decide)).wr (by decide)) ?_ (fun j hj hjb => ?_) hk
        · rw [rq_s, bw_id (by omega) (by omega)]; omega
        · by_cases e : j = l
          · refine ⟨?_, ?_⟩
            · rw [e, rq_c (by decide), rq_c (by decide), rq_s, bw_id (by omega) (by omega)]
            · rw [e, rq_c (by decide), rq_s, bw_id (by omega) (by omega)]
          · have := cntN_lt (K := cbS w K0 nv) (a := j) (b := l) (by omega) hjb
            obtain ⟨q1, q2⟩ := hJ j (by omega) hjb
            refine ⟨?_, ?_⟩
            · rw [rq_c (by decide), rq_c (by decide), rq_i (by omega)]; exact q1
            · rw [rq_c (by decide), rq_i (by omega), rq_c (by decide)]; exact q2
      · have cc' : ¬ (((K0 ||| uS w K0 l) &&& twoN w l : Nat) : Int) = 0 := by omega
        have hb : ¬ (cbS w K0 nv).testBit l = true := fun z => cc (hbit.mp z)
        rw [if_neg cc, if_neg hb, Nat.add_zero] at ih
        rw [if_neg cc']
        refine ih ρ (by omega) (by omega) hG h3 (fun j hj hjb => ?_) hk
        by_cases e : j = l
        · rw [e] at hjb; exact absurd hjb hb
        · exact hJ j (by omega) hjb
theorem days_c {fl : Int → Int} {c : Nat} {τ : Sg} (hc : c ≤ 16) (hfl : ∀ j : Int, 0 ≤ j → j < c → rd τ 82 j = fl j ∧ 0 ≤ fl j ∧ fl j < 64) : ∀ (r n D : Nat) (ρ : Sg), D + r = c → r + 1 < n → Fr [80, 83] τ ρ → rd ρ 80 3 = (c : Int) → wp (fX5_make_L118 1 n 0 (D : Int) ρ) (fun s => Fr [80, 83] τ s ∧ rd s 80 3 = (c : Int) ∧ rd s 80 4 = ((dyS fl c r D : Nat) : Int) ∧ ∀ G', fitI fl (dyS fl c r D) c 0 (fun _ => 0) = some G' → ∀ j : Int, 0 ≤ j → j < c → rd s 83 j = G' j)
  | r, n, D, ρ, hD, hn, hG, h3 => by
    cases n with
    | zero => omega
    | succ n =>
      rw [fX5_make_L118, h3, if_neg (by omega), if_pos p00, wp_bind, bw_id (z := (D : Int) + 1) (by omega) (by omega)]
      have i3 := fits_c (fl := fl) (c := c) (D := D) hc (by omega) c 40 0 (fun _ => 0) (wr ρ 80 4 D) (by omega) (by omega) (by rw [rq_i (by decide)]; exact h3) (by rw [rq_s, bw_id (by omega) (by omega)]) (fun j a b => by rw [rq_c (by decide), hG 82 j (by decide)]; exact hfl j a b) (fun j a b => by omega)
      refine wp_mono i3 (fun q hq => ?_)
      obtain ⟨q1, q2, q3, q4⟩ := hq
      have f2 : Fr [80, 83] τ q.2 := fun cl j hcj => ((q1.mo (by decide : ∀ a ∈ [83], a ∈ [80, 83])) cl j hcj).trans (((hG.wr (by decide) : Fr [80, 83] τ (wr ρ 80 4 D))) cl j hcj)
      have f3 : rd q.2 80 3 = (c : Int) := (q1 80 3 (by decide)).trans (by rw [rq_i (by decide)]; exact h3)
      have f4 : rd q.2 80 4 = (D : Int) := (q1 80 4 (by decide)).trans (by rw [rq_s, bw_id (by omega) (by omega)])
      by_cases e : (fitI fl D c 0 (fun _ => 0)).isSome = true
      · have ed : dyS fl c r D = D := by
          cases r with
          | zero => rfl
          | succ r => rw [dyS, if_pos e]
        rw [if_pos e] at q3
        rw [q3, ed]
        cases n with
        | zero => omega
        | succ n =>
          rw [fX5_make_L118, f3, if_neg n10]
          have done : wp (some q.2) (fun s => Fr [80, 83] τ s ∧ rd s 80 3 = (c : Int) ∧ rd s 80 4 = (D : Int) ∧ ∀ G', fitI fl D c 0 (fun _ => 0) = some G' → ∀ j : Int, 0 ≤ j → j < c → rd s 83 j = G' j) := by
            rw [wp_some]
            exact ⟨f2, f3, f4, q4⟩
          split
          · exact done
          · exact done
      · cases r with
        | zero => exact absurd (fitI_some c 0 _ (by omega) (fun j j0 j1 => by omega)) e
        | succ r =>
          have ed : dyS fl c (r + 1) D = dyS fl c r (D + 1) := by rw [dyS, if_neg e]
          rw [if_neg e] at q3
          rw [q3, ed, show (D : Int) + 1 = ((D + 1 : Nat) : Int) by omega]
          exact days_c hc hfl r n (D + 1) q.2 (by omega) (by omega) f2 f3
termination_by r => r
theorem dayOf_c {w : Int → Int} {s : Sg} {CB nv L : Nat} {G : Int → Int} (hnv : nv ≤ 16) (hL : L < nv) (h3 : rd s 80 3 = ((cntN CB nv : Nat) : Int)) (h81 : ∀ j : Nat, j < nv → CB.testBit j = true → rd s 81 (cntN CB j : Nat) = j) (h83 : ∀ j : Int, 0 ≤ j → j < (cntN CB nv : Nat) → rd s 83 j = G j) : fX5_dayOf (L : Int) s = some (if CB.testBit L = true then G (cntN CB L : Nat) else -1) := by
  have cle := cntN_le (K := CB) nv
  have go : ∀ (r n i : Nat), i + r = cntN CB nv → r < n → (CB.testBit L = true → i ≤ cntN CB L) → fX5_dayOf_L2 s (L : Int) n (i : Int) = some (if CB.testBit L = true then G (cntN CB L : Nat) else -1) := by
    intro r
    induction r with
    | zero =>
      intro n i hi hn hb
      cases n with
      | zero => omega
      | succ n =>
        rw [fX5_dayOf_L2, h3, if_neg (by omega), if_neg (fun z => by have := cntN_lt hL z; have := hb z; omega)]
    | succ r ih =>
      intro n i hi hn hb
      cases n with
      | zero => omega
      | succ n =>
        obtain ⟨j, j1, j2, j3⟩ := cntN_sur (K := CB) (k := i) nv (by omega)
        have e81 := h81 j j1 j2
        rw [j3] at e81
        rw [fX5_dayOf_L2, h3, if_pos (by omega), grd_pos (by omega), grd_pos (by omega), e81, bw_id (z := (i : Int) + 1) (by omega) (by omega)]
        by_cases e : j = L
        · rw [if_pos (by omega), h83 i (by omega) (by omega), if_pos (by rw [← e]; exact j2), ← e, j3]
        · rw [if_neg (by omega), show (i : Int) + 1 = ((i + 1 : Nat) : Int) by omega]
          refine ih n (i + 1) (by omega) (by omega) (fun z => ?_)
          have h1 := hb z
          by_cases e2 : i = cntN CB L
          · exfalso
            by_cases l1 : j < L
            · have := cntN_lt l1 j2; omega
            · have := cntN_lt (show L < j by omega) z; omega
          · omega
  unfold fX5_dayOf
  exact go (cntN CB nv) FU 0 (by omega) (by unfold FU; omega) (fun _ => by omega)
theorem rounds_m {w fl : Int → Int} {σ0 : Sg} {x1 : Int} {CB nv c : Nat} {k48 : Int → Sg → Option (Int × Sg)} {Q : Int × Sg → Prop} (hw : rd σ0 85 = w) (hCB : CB < 65536) (hn87 : w 87 = (nv : Int)) (hnv : nv ≤ 16) (hc : c = cntN CB nv) (hfl : ∀ l : Nat, l < nv → CB.testBit l = true → fl (cntN CB l : Nat) = w (154 + 4 * (l : Int))) (hF : ∀ l : Nat, l < nv → isF w (w (154 + 4 * (l : Int)))) : ∀ (r n D : Nat) (ρ : Sg), D + r = c → r < n → Fr [105] σ0 ρ → (∀ G' ρ', fitI fl (dyS fl c r D) c 0 (fun _ => 0) = some G' → Fr [105] σ0 ρ' → (∀ l : Nat, l < nv → rd ρ' 105 l = if CB.testBit l = true then G' (cntN CB l : Nat) else -1) → wp (k48 ((dyS fl c r D : Nat) : Int) ρ') Q) → wp (fX11_rounds_L32 k48 x1 (CB : Int) n (D : Int) ρ) Q
  | r, n, D, ρ, hD, hn, hG, hk => by
    have cle := cntN_le (K := CB) nv
    have hw2 : rd ρ 85 = w := (funext fun j => hG 85 j (by decide)).trans hw
    cases n with
    | zero => omega
    | succ n =>
      have i3 := roundsFrom_m (fl := fl) (D := D) hCB hn87 hnv (by omega) hfl hF nv 40 0 c (fun _ => 0) ρ (by omega) (by omega) (by rw [cntN]; omega) hw2 (fun l hl => by omega)
      rw [cntN] at i3
      rw [fX11_rounds_L32, wp_bind, bw_id (z := (D : Int) + 1) (by omega) (by omega)]
      refine wp_mono i3 (fun q hq => ?_)
      obtain ⟨q1, q2, q3, q4⟩ := hq
      have f2 : Fr [105] σ0 q.2 := hG.tr q1
      by_cases e : (fitI fl D c 0 (fun _ => 0)).isSome = true
      · have ed : dyS fl c r D = D := by
          cases r with
          | zero => rfl
          | succ r => rw [dyS, if_pos e]
        obtain ⟨G', eG⟩ := Option.isSome_iff_exists.mp e
        rw [if_pos e] at q3
        rw [q3, if_neg n10]
        rw [ed] at hk
        exact hk G' q.2 eG f2 (q4 G' eG)
      · cases r with
        | zero => exact absurd (fitI_some c 0 _ (by omega) (fun j j0 j1 => by omega)) e
        | succ r =>
          have ed : dyS fl c (r + 1) D = dyS fl c r (D + 1) := by rw [dyS, if_neg e]
          rw [if_neg e] at q3
          rw [q3, if_pos p00, show (D : Int) + 1 = ((D + 1 : Nat) : Int) by omega]
          rw [ed] at hk
          exact rounds_m hw hCB hn87 hnv hc hfl hF r n (D + 1) q.2 (by omega) (by omega) f2 hk
termination_by r => r
theorem op_rounds {has : Bool} {N : Nat} (hN : N ≤ 511) (x1 : Int) (h1 : bw x1 = x1) : OpE has N (fX10_rounds x1) (fX11_rounds x1) := by
  intro σ h
  have hC := h.1
  have hW := hC.1
  have h87 := hW.2.2.2.1.1
  have xr := bw_of h1
  obtain ⟨nv, hn⟩ : ∃ n : Nat, rd σ 85 87 = (n : Int) := ⟨(rd σ 85 87).toNat, by omega⟩
  have hC1 : CW 150 (rd σ 85) (wr σ 80 3 0) 1 := hC.fr (l := [80]) (Fr.rf.wr (by decide)) (by decide)
  obtain ⟨K0, k1, k2, k3⟩ := wedSet_c hC1
  have hK : wedB (rd σ 85) K0 := ⟨k2, k3⟩
  have hF : ∀ l : Nat, l < nv → isF (rd σ 85) (rd σ 85 (154 + 4 * (l : Int))) := fun l hl => (hW.2.2.2.1.2 (l : Int) (by omega) (by omega)).2.2.2.2
  have hCB : cbS (rd σ 85) K0 nv < 65536 := by
    have := cbS_lt (w := rd σ 85) (K0 := K0) nv
    have h2 : 2 ^ nv ≤ 2 ^ 16 := Nat.pow_le_pow_right (by decide) (by omega)
    omega
  have hbits := cbS_bit (w := rd σ 85) (K0 := K0) nv
  generalize eCB : cbS (rd σ 85) K0 nv = CB at hCB
  have cle := cntN_le (K := CB) nv
  have hfl : ∀ l : Nat, l < nv → CB.testBit l = true → flS (rd σ 85) CB nv (cntN CB l : Nat) = rd σ 85 (154 + 4 * (l : Int)) := fun l hl hb => flS_at nv l hl hb
  have hsome := dyS_some (fl := flS (rd σ 85) CB nv) (c := cntN CB nv) (cntN CB nv) 0 (by omega)
  obtain ⟨G, eG⟩ := Option.isSome_iff_exists.mp hsome
  refine opE_ro (v := if x1 = 0 then ((dyS (flS (rd σ 85) CB nv) (cntN CB nv) (cntN CB nv) 0 : Nat) : Int) else if 10 ≤ x1 ∧ x1 - 10 < nv then (if CB.testBit (x1 - 10).toNat = true then G (cntN CB (x1 - 10).toNat : Nat) else -1) else -1) h ?_ (fun τ hk => ?_)
  · show wp (fX10_rounds x1 σ) _
    unfold fX10_rounds fX5_make
    rw [show fX1_wedSet (1 + 3) (wr σ 80 3 0) = some (K0 : Int) from k1, Option.bind_some, wp_bind]
    have m := makeL_c (w := rd σ 85) (σ0 := σ) (K0 := K0) (nv := nv) (k113 := fun s8 => fX5_make_L118 1 FU 0 0 s8) (Q := fun s => Fr [80, 81, 82, 83] σ s ∧ rd s 80 3 = ((cntN CB nv : Nat) : Int) ∧ rd s 80 4 = ((dyS (flS (rd σ 85) CB nv) (cntN CB nv) (cntN CB nv) 0 : Nat) : Int) ∧ (∀ j : Nat, j < nv → CB.testBit j = true → rd s 81 (cntN CB j : Nat) = j) ∧ ∀ j : Int, 0 ≤ j → j < (cntN CB nv : Nat) → rd s 83 j = G j) hC hn k2 nv FU 0 (wr σ 80 3 0) (by omega) (by unfold FU; omega) (Fr.rf.wr (by decide)) (by rw [rq_s, cntN]; rfl) (fun j hj => by omega) (fun τ hτ h3 hJ => ?_)
    · rw [uS, Nat.or_zero] at m
      refine wp_mono m (fun s hs => ?_)
      obtain ⟨s1, s3, s4, s81, s83⟩ := hs
      have hk : Keep σ s := Keep.fr s1 (by decide) (by decide)
      by_cases c0 : x1 = 0
      · rw [if_pos c0, wp_some, if_pos c0]
        exact ⟨s4, hk⟩
      · rw [if_neg c0, if_neg c0]
        by_cases c1 : x1 < 10
        · rw [if_pos c1, wp_some, if_neg (show ¬ (10 ≤ x1 ∧ x1 - 10 < (nv : Int)) by omega)]
          exact ⟨rfl, hk⟩
        · have e18 : rd s 18 2 = (nv : Int) := (s1 18 2 (by decide)).trans ((show rd σ 18 2 = rd σ 85 87 from hC.2.2.2.2.1.1.2.1).trans hn)
          rw [if_neg c1, bw_id (z := x1 - 10) (by omega) (by omega), e18]
          by_cases c2 : x1 - 10 < (nv : Int)
          · have := dayOf_c (w := rd σ 85) (L := (x1 - 10).toNat) (G := G) (by omega) (by omega) s3 s81 s83
            rw [show (((x1 - 10).toNat : Nat) : Int) = x1 - 10 by omega] at this
            rw [if_pos c2, this, Option.bind_some, wp_some, if_pos (show 10 ≤ x1 ∧ x1 - 10 < (nv : Int) by omega)]
            exact ⟨rfl, hk⟩
          · rw [if_neg c2, wp_some, if_neg (show ¬ (10 ≤ x1 ∧ x1 - 10 < (nv : Int)) by omega)]
            exact ⟨rfl, hk⟩
    · rw [eCB] at h3 hJ
      have hsur : ∀ j : Int, 0 ≤ j → j < (cntN CB nv : Nat) → rd τ 82 j = flS (rd σ 85) CB nv j ∧ 0 ≤ flS (rd σ 85) CB nv j ∧ flS (rd σ 85) CB nv j < 64 := fun j j0 j1 => by
        obtain ⟨l, l1, l2, l3⟩ := cntN_sur (K := CB) (k := j.toNat) nv (by omega)
        have e1 := (hJ l l1 l2).2
        have e2 := hfl l l1 l2
        have fb := isF_b (hF l l1)
        rw [l3, show ((j.toNat : Nat) : Int) = j by omega] at e1 e2
        rw [e1, e2]
        exact ⟨rfl, by omega, by omega⟩
      refine wp_mono (days_c (fl := flS (rd σ 85) CB nv) (τ := τ) (by omega) hsur (cntN CB nv) FU 0 τ (by omega) (by unfold FU; omega) Fr.rf h3) (fun s hs => ?_)
      obtain ⟨s1, s2, s3, s4⟩ := hs
      exact ⟨(hτ.mo (by decide)).tr (s1.mo (by decide)), s2, s3, fun j hj hb => (s1 81 _ (by decide)).trans (hJ j hj hb).1, s4 G eG⟩
  · have e85 : rd τ 85 = rd σ 85 := hk.1 85 (by decide)
    have key : wp (fX11_rounds_J25 x1 τ) (fun q => q.1 = (if x1 = 0 then ((dyS (flS (rd σ 85) CB nv) (cntN CB nv) (cntN CB nv) 0 : Nat) : Int) else (if CB.testBit (x1 - 10).toNat = true then G (cntN CB (x1 - 10).toNat : Nat) else -1)) ∧ Keep τ q.2) ∨ ¬ (x1 = 0 ∨ 10 ≤ x1 ∧ x1 - 10 < (nv : Int)) := by
      by_cases cx : x1 = 0 ∨ 10 ≤ x1 ∧ x1 - 10 < (nv : Int)
      · left
        unfold fX11_rounds_J25
        rw [counting_m hW e85 hn hK, eCB, Option.bind_some]
        refine rounds_m (w := rd σ 85) (fl := flS (rd σ 85) CB nv) (σ0 := τ) (c := cntN CB nv) e85 hCB hn (by omega) rfl hfl hF (cntN CB nv) FU 0 τ (by omega) (by unfold FU; omega) Fr.rf (fun G' ρ' hG' hF' hR => ?_)
        rw [eG] at hG'
        have eGG := Option.some.inj hG'
        subst eGG
        have hkk : Keep τ ρ' := Keep.fr hF' (by decide) (by decide)
        by_cases c0 : x1 = 0
        · show wp (if x1 = 0 then _ else _) _
          rw [if_pos c0, wp_some, if_pos c0]
          exact ⟨rfl, hkk⟩
        · have := hR (x1 - 10).toNat (by omega)
          rw [show (((x1 - 10).toNat : Nat) : Int) = x1 - 10 by omega] at this
          show wp (if x1 = 0 then _ else _) _
          rw [if_neg c0, bw_id (z := x1 - 10) (by omega) (by omega), grd_pos (by omega), wp_some, if_neg c0]
          exact ⟨this, hkk⟩
      · exact Or.inr cx
    show wp (fX11_rounds x1 τ) _
    unfold fX11_rounds
    by_cases c0 : x1 = 0
    · rw [if_pos c0, if_pos c0]
      have := key.resolve_right (fun z => z (Or.inl c0))
      rw [if_pos c0] at this
      exact this
    · rw [if_neg c0, isIn_m, e85, hn, bw_id (z := 9 + (nv : Int)) (by omega) (by omega)]
      by_cases c1 : 10 ≤ x1 ∧ x1 - 10 < (nv : Int)
      · rw [if_pos (show 10 ≤ x1 ∧ x1 ≤ 9 + (nv : Int) by omega), if_neg n10, if_neg c0, if_pos c1]
        have := key.resolve_right (fun z => z (Or.inr c1))
        rw [if_neg c0] at this
        exact this
      · rw [if_neg (show ¬ (10 ≤ x1 ∧ x1 ≤ 9 + (nv : Int)) by omega), if_pos p00, if_neg c0, if_neg c1, wp_some]
        exact ⟨rfl, Keep.rf⟩
