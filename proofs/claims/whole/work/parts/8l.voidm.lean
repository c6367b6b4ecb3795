/-! meets 2: the bits are who is wed, in the model too -/
def wedB (w : Int → Int) (K : Nat) : Prop := K < 4096 ∧ ∀ p : Nat, p < 12 → K.testBit p = decide ((p : Int) < w 85 ∧ w (68 + (p : Int)) ≠ -1)
theorem wedB_congr {w u : Int → Int} {K : Nat} (h : ∀ j : Int, 68 ≤ j → j < 86 → u j = w j) (hK : wedB w K) : wedB u K := by
  refine ⟨hK.1, fun p hp => ?_⟩
  rw [hK.2 p hp, h 85 (by decide) (by decide), h (68 + (p : Int)) (by omega) (by omega)]
theorem wedB_free {w : Int → Int} {K : Nat} {p q : Int} (hW : Wf w) (hK : wedB w K) (hp : isP w p) (hq : isP w q) : band (K : Int) (bor (bshl 1 p) (bshl 1 q)) = 0 ↔ (w (68 + p) = -1 ∧ w (68 + q) = -1) := by
  have h12 := hW.1.2.2.2.2.2.1
  have hp1 := hp.1
  have hp2 := hp.2
  have hq1 := hq.1
  have hq2 := hq.2
  have hk := hK.1
  have pl : (2 : Nat) ^ p.toNat < 4096 := Nat.pow_lt_pow_right (n := 12) (by decide) (by omega)
  have ql : (2 : Nat) ^ q.toNat < 4096 := Nat.pow_lt_pow_right (n := 12) (by decide) (by omega)
  have pql : (2 : Nat) ^ p.toNat ||| 2 ^ q.toNat < 4096 := Nat.or_lt_two_pow (n := 12) pl ql
  have pge : (0 : Int) ≤ ((2 ^ p.toNat : Nat) : Int) := Int.natCast_nonneg _
  rw [bshl_1i (b := p) (by omega) (by omega), bor_bit (by omega) (by omega) (by omega) (by omega), Int.toNat_natCast, band_nat (by omega) (by omega) (by omega) (by omega), Int.toNat_natCast, Int.toNat_natCast]
  have bp := hK.2 p.toNat (by omega)
  have bq := hK.2 q.toNat (by omega)
  rw [show ((p.toNat : Nat) : Int) = p by omega] at bp
  rw [show ((q.toNat : Nat) : Int) = q by omega] at bq
  constructor
  · intro h
    have h0 : K &&& (2 ^ p.toNat ||| 2 ^ q.toNat) = 0 := by omega
    have t1 := congrArg (fun n => n.testBit p.toNat) h0
    have t2 := congrArg (fun n => n.testBit q.toNat) h0
    simp only [Nat.testBit_and, Nat.testBit_or, Nat.testBit_two_pow_self, Nat.zero_testBit, Bool.true_or, Bool.or_true, Bool.and_true] at t1 t2
    rw [bp] at t1
    rw [bq] at t2
    have t3 := of_decide_eq_false t1
    have t4 := of_decide_eq_false t2
    exact ⟨by omega, by omega⟩
  · intro h
    have h0 : K &&& (2 ^ p.toNat ||| 2 ^ q.toNat) = 0 := by
      apply Nat.eq_of_testBit_eq
      intro i
      rw [Nat.testBit_and, Nat.testBit_or, Nat.zero_testBit, Nat.testBit_two_pow, Nat.testBit_two_pow]
      by_cases e1 : p.toNat = i
      · rw [← e1, bp]
        simp [h.1]
      · by_cases e2 : q.toNat = i
        · rw [← e2, bq]
          simp [h.2]
        · simp [e1, e2]
    rw [h0]; rfl
theorem vowW_wed {t : Int} {w : Int → Int} (hW : Wf w) {p q x : Int} (hp : isP w p) (hq : isP w q) : ∀ r : Int, 0 ≤ r → r < 12 → vowW t w p q x (68 + r) = if r = q then p else if r = p then q else w (68 + r) := by
  have h12 := hW.1.2.2.2.2.2.1
  have hp1 := hp.1
  have hp2 := hp.2
  have hq1 := hq.1
  have hq2 := hq.2
  have hb3 := hW.1.2.2.2.2.2.2.2.2
  have h3 := vow0W_lo hW (p := p) (q := q) (x := x) 3 (by omega) (by omega)
  intro r r0 r1
  unfold vowW
  by_cases a1 : r = q
  · rw [a1, upz_s, if_pos rfl]
  · rw [upz_n (by omega), if_neg a1]
    by_cases a2 : r = p
    · rw [a2, upz_s, if_pos rfl]
    · rw [upz_n (by omega), if_neg a2, noteW_lo (by omega) (by omega) (by omega) (by omega)]
      exact vow0W_lo hW _ (by omega) (by omega)
theorem wedB_vow {t : Int} {w : Int → Int} {K : Nat} {p q x : Int} (hW : Wf w) (hK : wedB w K) (hp : isP w p) (hq : isP w q) : ∃ K' : Nat, bor (K : Int) (bor (bshl 1 p) (bshl 1 q)) = (K' : Int) ∧ wedB (vowW t w p q x) K' := by
  have h12 := hW.1.2.2.2.2.2.1
  have hp1 := hp.1
  have hp2 := hp.2
  have hq1 := hq.1
  have hq2 := hq.2
  have hk := hK.1
  have pl : (2 : Nat) ^ p.toNat < 4096 := Nat.pow_lt_pow_right (n := 12) (by decide) (by omega)
  have ql : (2 : Nat) ^ q.toNat < 4096 := Nat.pow_lt_pow_right (n := 12) (by decide) (by omega)
  have pql : (2 : Nat) ^ p.toNat ||| 2 ^ q.toNat < 4096 := Nat.or_lt_two_pow (n := 12) pl ql
  have pge : (0 : Int) ≤ ((2 ^ p.toNat : Nat) : Int) := Int.natCast_nonneg _
  refine ⟨K ||| (2 ^ p.toNat ||| 2 ^ q.toNat), ?_, Nat.or_lt_two_pow (n := 12) hk pql, fun i hi => ?_⟩
  · rw [bshl_1i (b := p) (by omega) (by omega), bor_bit (by omega) (by omega) (by omega) (by omega), Int.toNat_natCast, bor_nat (by omega) (by omega) (by omega) (by omega), Int.toNat_natCast, Int.toNat_natCast]
  · rw [Nat.testBit_or, Nat.testBit_or, Nat.testBit_two_pow, Nat.testBit_two_pow, hK.2 i hi, vowW_wed hW hp hq (i : Int) (by omega) (by omega), vowW_lo hW hp hq (by omega)]
    by_cases e1 : (i : Int) = q
    · rw [if_pos e1]
      have : q.toNat = i := by omega
      simp [this]
      omega
    · rw [if_neg e1]
      have n1 : ¬ q.toNat = i := by omega
      by_cases e2 : (i : Int) = p
      · rw [if_pos e2]
        have : p.toNat = i := by omega
        simp [this]
        omega
      · rw [if_neg e2]
        have n2 : ¬ p.toNat = i := by omega
        simp [n1, n2]
theorem vdW_fv {t : Int} {f : Int} (hf : f ≠ -1) : ∀ (r : Nat) (i v : Int) (w : Int → Int), (vdW t r i (w, v, f)).2.2 = f
  | 0, _, _, _ => rfl
  | r + 1, i, v, w => by
    rw [vdW]
    simp only
    split
    · split
      · exact vdW_fv hf r _ _ _
      · exact vdW_fv hf r _ _ _
    · exact vdW_fv hf r _ _ _
theorem vd_fv {u : Int → Int} {d : Int} : ∀ (r : Nat) (i v : Int) (K : Nat) (w : Int → Int), OKw 0 w → 0 ≤ i → i + r = w 87 → pot w ≤ 800000000 → (∀ j : Int, 85 ≤ j → j < 311 → w j = u j) → w 0 = d → wedB w K → ((fvI u d r K i).1 = -1 → (vdW 0 r i (w, v, -1)).2.2 = -1 ∧ ∃ K' : Nat, (fvI u d r K i).2 = (K' : Int) ∧ wedB (vdW 0 r i (w, v, -1)).1 K') ∧ ((fvI u d r K i).1 ≠ -1 → (vdW 0 r i (w, v, -1)).2.2 = (fvI u d r K i).1)
  | 0, i, v, K, w, h, i0, i1, hpot, hu, hd, hK => ⟨fun _ => ⟨rfl, K, rfl, hK⟩, fun z => absurd rfl z⟩
  | r + 1, i, v, K, w, h, i0, i1, hpot, hu, hd, hK => by
    have hW := h.wf
    have fr := frN_r w
    have hw1 : w 1 ≤ 900000000 := by unfold pot at hpot; omega
    have h87 := hW.2.2.2.1.1
    obtain ⟨l1, l2, l3, l4, l5⟩ := hW.2.2.2.1.2 i i0 (by omega)
    have u1 := hu (151 + 4 * i) (by omega) (by omega)
    have u2 := hu (152 + 4 * i) (by omega) (by omega)
    have u3 := hu (153 + 4 * i) (by omega) (by omega)
    rw [vdW]
    simp only
    by_cases hday : w (151 + 4 * i) = w 0
    · simp only [if_pos hday]
      have hd2 : u (151 + 4 * i) = d := by rw [← u1, hday]; exact hd
      by_cases z : w (68 + w (152 + 4 * i)) = -1 ∧ w (68 + w (153 + 4 * i)) = -1
      · simp only [if_pos z]
        have hp2 := vowW_pot (t := 0) (x := w (154 + 4 * i)) hW l2 l3 z.1
        have hlo : ∀ j : Int, (80 ≤ j ∧ j < 311) ∨ 911 ≤ j ∨ j = 0 ∨ j = 2 → vowW 0 w (w (152 + 4 * i)) (w (153 + 4 * i)) (w (154 + 4 * i)) j = w j := fun j hj => vowW_lo hW l2 l3 (by omega)
        obtain ⟨K', e1, e2⟩ := wedB_vow (t := 0) (x := w (154 + 4 * i)) hW hK l2 l3
        have hf : fvI u d (r + 1) K i = fvI u d r K' (i + 1) := by
          rw [fvI, if_pos hd2, if_pos (by rw [← u2, ← u3]; exact (wedB_free hW hK l2 l3).mpr z), ← u2, ← u3, e1]
        rw [hf]
        exact vd_fv r (i + 1) (v + 1) K' _ (h.vow l2 l3 l5 hw1) (by omega) (by rw [hlo 87 (by omega)]; omega) (by omega) (fun j j0 j1 => (hlo j (by omega)).trans (hu j j0 j1)) ((hlo 0 (by omega)).trans hd) e2
      · simp only [if_neg z]
        have hf : fvI u d (r + 1) K i = (i, (K : Int)) := by
          rw [fvI, if_pos hd2, if_neg (by rw [← u2, ← u3]; exact fun y => z ((wedB_free hW hK l2 l3).mp y))]
        rw [hf, if_pos trivial, vdW_fv (by omega)]
        exact ⟨fun y => by have : i = -1 := y; omega, fun _ => rfl⟩
    · simp only [if_neg hday]
      have hf : fvI u d (r + 1) K i = fvI u d r K (i + 1) := by
        rw [fvI, if_neg (fun y => hday (by rw [u1, y]; exact hd.symm))]
      rw [hf]
      exact vd_fv r (i + 1) v K w h (by omega) (by omega) hpot hu hd hK
def fvS (u : Int → Int) : Nat → Int → Int → Int
  | 0, _, _ => -1
  | n + 1, K, d => if (fvI u d (u 87).toNat K 0).1 = -1 then fvS u n (fvI u d (u 87).toNat K 0).2 (d + 1) else (fvI u d (u 87).toNat K 0).1
theorem voidS_c {m g : Int} {w : Int → Int} {σ : Sg} {b : Nat} (hC : CW m w σ b) (hg : g ≤ 999) : ∀ (r n : Nat) (K d : Int), (g < d ∧ r = 0) ∨ d + r = g + 1 → 0 ≤ d → r < n → fX9_firstVoid_L22 b σ g n K d = some (fvS w r K d)
  | 0, n, K, d, hd, d0, hn => by
    cases n with
    | zero => omega
    | succ n =>
      rw [fX9_firstVoid_L22, if_pos (by omega)]
      rfl
  | r + 1, n, K, d, hd, d0, hn => by
    have h87 := hC.1.2.2.2.1.1
    cases n with
    | zero => omega
    | succ n =>
      rw [fX9_firstVoid_L22, if_neg (by omega), voidL_c hC (w 87).toNat FU K 0 (by omega) (by omega) (by unfold FU; omega), bw_id (z := d + 1) (by omega) (by omega), fvS]
      split
      · exact voidS_c hC hg r n _ (d + 1) (by omega) (by omega) (by omega)
      · rfl
theorem voidS_m {g : Int} {u : Int → Int} {σ0 : Sg} {k : Sg → Option (Int × Sg)} {Q : Int × Sg → Prop} : ∀ (r m : Nat) (K : Nat) (w : Int → Int) (σ : Sg), (g < w 0 ∧ r = 0) ∨ w 0 + r = g + 1 → g ≤ 999 → r < m → OKw 0 w → rd σ 85 = w → rd σ 84 26 = 0 → rd σ 84 28 = -1 → pot w ≤ 700000000 → (∀ j : Int, j < 0 ∨ 80 ≤ j → w j = u j) → wedB w K → Fs σ0 σ → (∀ ρ, (∀ j : Int, j < 0 ∨ 80 ≤ j → rd ρ 85 j = u j) → rd ρ 84 28 = fvS u r K (w 0) → Fs σ0 ρ → wp (k ρ) Q) → wp (fX11_meets_L37 k g m σ) Q
  | 0, m, K, w, σ, hr, hg, hm, hok, hw, ht, hfv, hp, hu, hK, hF, hQ => by
    cases m with
    | zero => omega
    | succ m =>
      rw [fX11_meets_L37, hw, if_pos (by omega)]
      exact hQ σ (by rw [hw]; exact hu) hfv hF
  | r + 1, m, K, w, σ, hr, hg, hm, hok, hw, ht, hfv, hp, hu, hK, hF, hQ => by
    have hd0 := hok.wf.1.2.2.2.2.2.2.1
    have h87 := hok.wf.2.2.2.1.1
    obtain ⟨d1, d2, d3, d4, d5⟩ := dayW_lo hok (-1) (by omega)
    have hok2 := hok.day (-1) (by omega) (by omega)
    have hi := fun j hj => (day0_hi hok (-1) (by omega) (j := j) hj).trans (hu j hj)
    have hlt : ¬ g < w 0 := by omega
    have hv := vd_fv (u := u) (d := w 0) (w 87).toNat 0 0 K (snowsW w) hok.snows (by omega) (by rw [snowsW_o (by omega)]; omega) (by rw [snows_pot]; omega) (fun j j0 j1 => (snowsW_o (by omega)).trans (hu j (by omega))) (snowsW_o (by omega)) (wedB_congr (fun j j0 j1 => snowsW_o (by omega)) hK)
    cases m with
    | zero => omega
    | succ m =>
      rw [fX11_meets_L37, hw, if_neg hlt, if_pos hfv, wp_bind]
      refine wp_mono (aDay_m hok hw ⟨fun _ => rfl, fun _ => ht⟩ hfv (by omega)) (fun q hq => ?_)
      have t2 : rd q.2 84 26 = 0 := (hq.2.2.2 84 26 (by decide) (by decide)).trans ht
      have f2 : Fs σ0 q.2 := fun c j x y => (hq.2.2.2 c j x y).trans (hF c j x y)
      by_cases c : (fvI u (w 0) (w 87).toNat K 0).1 = -1
      · obtain ⟨v1, K', v2, v3⟩ := hv.1 c
        clear hv
        refine voidS_m r m K' (dayW 0 w (-1)) q.2 (by omega) hg (by omega) hok2 hq.2.1 t2 (hq.2.2.1.trans v1) (by omega) hi (wedB_congr (fun j j0 j1 => ?_) v3) f2 (fun ρ h1 h2 h3 => hQ ρ h1 ?_ h3)
        · unfold dayW slD
          rw [upz_n (by omega), meltsW_o (by omega), if_neg (fun z => z.1 rfl)]
          rfl
        · rw [h2, fvS, ← hu 87 (by omega), if_pos c, v2, d2]
      · have v1 := hv.2 c
        clear hv
        have e2 : rd q.2 84 28 = (fvI u (w 0) (w 87).toNat K 0).1 := hq.2.2.1.trans v1
        have hres : wp (k q.2) Q := hQ q.2 (by rw [hq.2.1]; exact hi) (by rw [e2, fvS, ← hu 87 (by omega), if_neg c]) f2
        cases m with
        | zero => omega
        | succ m =>
          rw [fX11_meets_L37, e2, if_neg c]
          split
          · exact hres
          · exact hres
