/-! ask: whom to let pass -/
def cntN (K : Nat) : Nat → Nat
  | 0 => 0
  | n + 1 => cntN K n + (if K.testBit n then 1 else 0)
theorem bitc_aux : (List.range 4096).all (fun K => decide (fJ6_bitCount_0f7a4 ((K : Nat) : Int) = ((cntN K 12 : Nat) : Int))) = true := by decide +kernel
theorem bitc {K : Nat} (h : K < 4096) : fJ6_bitCount_0f7a4 (K : Int) = ((cntN K 12 : Nat) : Int) := by
  have := List.all_eq_true.mp bitc_aux K (List.mem_range.mpr h)
  exact of_decide_eq_true this
theorem cntN_le {K : Nat} : ∀ n : Nat, cntN K n ≤ n
  | 0 => Nat.le_refl _
  | n + 1 => by
    have := cntN_le (K := K) n
    rw [cntN]
    split <;> omega
theorem cntN_hi {K : Nat} (h : K < 4096) : ∀ n : Nat, cntN K (12 + n) = cntN K 12
  | 0 => rfl
  | n + 1 => by
    rw [show 12 + (n + 1) = (12 + n) + 1 by omega, cntN, cntN_hi h n]
    have : K.testBit (12 + n) = false := Nat.testBit_lt_two_pow (Nat.lt_of_lt_of_le h (Nat.pow_le_pow_right (n := 2) (i := 12) (by decide) (by omega)))
    rw [this]
    simp
theorem count_m {K : Nat} (h : K < 4096) : fX11_count (K : Int) = some ((cntN K 12 : Nat) : Int) := by
  have go : ∀ (r n k : Nat), k + r = 16 → r < n → fX11_count_L4 (K : Int) n ((cntN K k : Nat) : Int) (k : Int) = some ((cntN K 16 : Nat) : Int) := by
    intro r
    induction r with
    | zero =>
      intro n k hi hn
      cases n with
      | zero => omega
      | succ n =>
        rw [fX11_count_L4, if_neg (by omega), show k = 16 by omega]
    | succ r ih =>
      intro n k hi hn
      cases n with
      | zero => omega
      | succ n =>
        have hc := cntN_le (K := K) k
        have := ih n (k + 1) (by omega) (by omega)
        rw [fX11_count_L4, if_pos (by omega), kb_bit (by omega) (by omega) (by omega) (by omega), Int.toNat_natCast, Int.toNat_natCast, bw_id (z := (k : Int) + 1) (by omega) (by omega)]
        rw [show ((k + 1 : Nat) : Int) = (k : Int) + 1 by omega, cntN] at this
        by_cases z : K.testBit k = true
        · rw [if_pos z] at this ⊢
          rw [bw_id (by omega) (by omega)]
          exact this
        · rw [if_neg z] at this ⊢
          rw [bw_id (by omega) (by omega)]
          exact this
  unfold fX11_count
  have := go 16 FU 0 (by omega) (by unfold FU; omega)
  rw [cntN_hi h 4] at this
  exact this
def alS (w : Int → Int) (p : Int) (K : Nat) : Nat → (Int → Int) × Int
  | 0 => (fun _ => 0, 0)
  | n + 1 => if K.testBit n then (upz (alS w p K n).1 (foundW w p n) ((alS w p K n).1 (foundW w p n) + 1), max (alS w p K n).2 ((alS w p K n).1 (foundW w p n) + 1)) else alS w p K n
theorem alS_r {w : Int → Int} {p : Int} {K : Nat} : ∀ n : Nat, (∀ v, 0 ≤ (alS w p K n).1 v ∧ (alS w p K n).1 v ≤ n) ∧ 0 ≤ (alS w p K n).2 ∧ (alS w p K n).2 ≤ n
  | 0 => ⟨fun v => ⟨Int.le_refl _, Int.le_refl _⟩, Int.le_refl _, Int.le_refl _⟩
  | n + 1 => by
    obtain ⟨h1, h2, h3⟩ := alS_r (w := w) (p := p) (K := K) n
    rw [alS]
    split
    · have hf := h1 (foundW w p n)
      refine ⟨fun v => ?_, ?_, ?_⟩
      · simp only
        by_cases e : v = foundW w p n
        · rw [e, upz_s]; omega
        · rw [upz_n e]
          have := h1 v
          omega
      · simp only; omega
      · simp only; omega
    · exact ⟨fun v => ⟨(h1 v).1, by have := (h1 v).2; omega⟩, h2, by omega⟩
theorem alike_c {m : Int} {w : Int → Int} {σ0 : Sg} {p : Int} {K : Nat} (hC : CW m w σ0 1) (hp : isP w p) (hK : K < 4096) : ∀ (r n k : Nat) (ρ : Sg), (k : Int) + r = w 85 → r < n → Fr [16, 17, 73] σ0 ρ → (∀ v, 0 ≤ v → v ≤ 9 → rd ρ 73 v = (alS w p K k).1 v) → wp (fX0_mostAlike_L30 1 p (K : Int) n (alS w p K k).2 (k : Int) ρ) (fun q => q.1 = (alS w p K (w 85).toNat).2 ∧ Fr [16, 17, 73] σ0 q.2)
  | 0, n, k, ρ, hi, hn, hG, hT => by
    have e6 : rd σ0 4 6 = w 85 := hC.2.2.2.1.1
    cases n with
    | zero => omega
    | succ n =>
      rw [fX0_mostAlike_L30]
      show wp (if (k : Int) < rd ρ 4 6 then _ else _) _
      rw [hG 4 6 (by decide), e6, if_neg (by omega), wp_some, show (w 85).toNat = k by omega]
      exact ⟨rfl, hG⟩
  | r + 1, n, k, ρ, hi, hn, hG, hT => by
    have e6 : rd σ0 4 6 = w 85 := hC.2.2.2.1.1
    have h12 := hC.1.1.2.2.2.2.2.1
    have hq : isP w (k : Int) := ⟨by omega, by omega⟩
    obtain ⟨a1, a2, a3⟩ := alS_r (w := w) (p := p) (K := K) k
    cases n with
    | zero => omega
    | succ n =>
      have ih := alike_c hC hp hK r n (k + 1)
      rw [show ((k + 1 : Nat) : Int) = (k : Int) + 1 by omega] at ih
      rw [fX0_mostAlike_L30]
      show wp (if (k : Int) < rd ρ 4 6 then _ else _) _
      rw [hG 4 6 (by decide), e6, if_pos (by omega), kb_bit (by omega) (by omega) (by omega) (by omega), Int.toNat_natCast, Int.toNat_natCast, bw_id (z := (k : Int) + 1) (by omega) (by omega)]
      by_cases z : K.testBit k = true
      · have hs : alS w p K (k + 1) = (upz (alS w p K k).1 (foundW w p k) ((alS w p K k).1 (foundW w p k) + 1), max (alS w p K k).2 ((alS w p K k).1 (foundW w p k) + 1)) := by rw [alS, if_pos z]
        have hf := foundW_r w p (k : Int)
        have hfa := a1 (foundW w p (k : Int))
        rw [if_pos z, if_pos rfl, wp_bind]
        refine wp_mono (foundOf_c (hC.fr hG (by decide)) hp hq) (fun q hq2 => ?_)
        have g2 : Fr [16, 17, 73] σ0 q.2 := hG.tr (hq2.2.mo (by decide))
        have et : rd q.2 73 (foundW w p (k : Int)) = (alS w p K k).1 (foundW w p k) := (hq2.2 73 _ (by decide)).trans (hT _ hf.1 hf.2)
        rw [hq2.1, held_eq, show max 0 (min (foundW w p (k : Int)) 9) = foundW w p (k : Int) by omega, grd_pos (by omega), grd_pos (by omega), grd_pos (by omega), et, bw_id (z := (alS w p K k).1 (foundW w p k) + 1) (by omega) (by omega), rq_s, bw_id (z := (alS w p K k).1 (foundW w p k) + 1) (by omega) (by omega), max_eq]
        rw [hs] at ih
        refine ih _ (by omega) (by omega) (g2.wr (by decide)) (fun v v0 v1 => ?_)
        simp only
        by_cases e : v = foundW w p (k : Int)
        · rw [e, rq_s, upz_s, bw_id (by omega) (by omega)]
        · rw [rq_i e, upz_n e, hq2.2 73 _ (by decide)]
          exact hT v v0 v1
      · have hs : alS w p K (k + 1) = alS w p K k := by rw [alS, if_neg z]
        rw [if_neg z, if_neg (by decide)]
        rw [hs] at ih
        exact ih ρ (by omega) (by omega) hG hT
theorem alike_m {w : Int → Int} {g : Nat → Int → Int} {σ0 : Sg} {p : Int} {K : Nat} (hW : Wf w) (hL : LR w g) (hw : rd σ0 85 = w) (hp : isP w p) (hK : K < 4096) : ∀ (r n k : Nat) (ρ : Sg), (k : Int) + r = w 85 → r < n → Fr [93, 94, 100] σ0 ρ → (∀ v, 0 ≤ v → v ≤ 9 → rd ρ 100 v = (alS w p K k).1 v) → wp (fX11_mostAlike_L26 p (K : Int) n (alS w p K k).2 (k : Int) ρ) (fun q => q.1 = (alS w p K (w 85).toNat).2 ∧ Fr [93, 94, 100] σ0 q.2)
  | 0, n, k, ρ, hi, hn, hG, hT => by
    cases n with
    | zero => omega
    | succ n =>
      rw [fX11_mostAlike_L26, hG 85 85 (by decide), hw, if_neg (by omega), wp_some, show (w 85).toNat = k by omega]
      exact ⟨rfl, hG⟩
  | r + 1, n, k, ρ, hi, hn, hG, hT => by
    have h12 := hW.1.2.2.2.2.2.1
    have hq : isP w (k : Int) := ⟨by omega, by omega⟩
    have hw1 : rd ρ 85 = w := (funext fun j => hG 85 j (by decide)).trans hw
    obtain ⟨a1, a2, a3⟩ := alS_r (w := w) (p := p) (K := K) k
    cases n with
    | zero => omega
    | succ n =>
      have ih := alike_m hW hL hw hp hK r n (k + 1)
      rw [show ((k + 1 : Nat) : Int) = (k : Int) + 1 by omega] at ih
      rw [fX11_mostAlike_L26, hw1, if_pos (by omega), kb_bit (by omega) (by omega) (by omega) (by omega), Int.toNat_natCast, Int.toNat_natCast, bw_id (z := (k : Int) + 1) (by omega) (by omega)]
      by_cases z : K.testBit k = true
      · have hs : alS w p K (k + 1) = (upz (alS w p K k).1 (foundW w p k) ((alS w p K k).1 (foundW w p k) + 1), max (alS w p K k).2 ((alS w p K k).1 (foundW w p k) + 1)) := by rw [alS, if_pos z]
        have hf := foundW_r w p (k : Int)
        have hfa := a1 (foundW w p (k : Int))
        rw [if_pos z, if_neg n10, wp_bind]
        refine wp_mono (foundOf_m hW hL hw1 hp hq) (fun q hq2 => ?_)
        have g2 : Fr [93, 94, 100] σ0 q.2 := hG.tr (hq2.2.mo (by decide))
        have et : rd q.2 100 (foundW w p (k : Int)) = (alS w p K k).1 (foundW w p k) := (hq2.2 100 _ (by decide)).trans (hT _ hf.1 hf.2)
        rw [hq2.1, grd_pos (by omega), grd_pos (by omega), grd_pos (by omega), et, bw_id (z := (alS w p K k).1 (foundW w p k) + 1) (by omega) (by omega), rq_s, bw_id (z := (alS w p K k).1 (foundW w p k) + 1) (by omega) (by omega), gre_eq]
        rw [hs] at ih
        refine ih _ (by omega) (by omega) (g2.wr (by decide)) (fun v v0 v1 => ?_)
        simp only
        by_cases e : v = foundW w p (k : Int)
        · rw [e, rq_s, upz_s, bw_id (by omega) (by omega)]
        · rw [rq_i e, upz_n e, hq2.2 100 _ (by decide)]
          exact hT v v0 v1
      · have hs : alS w p K (k + 1) = alS w p K k := by rw [alS, if_neg z]
        rw [if_neg z, if_pos p00]
        rw [hs] at ih
        exact ih ρ (by omega) (by omega) hG hT
theorem alikeAll_c {m : Int} {w : Int → Int} {σ : Sg} {p : Int} {K : Nat} (hC : CW m w σ 1) (hp : isP w p) (hK : K < 4096) : wp (fX0_mostAlike 1 p (K : Int) σ) (fun q => q.1 = (alS w p K (w 85).toNat).2 ∧ Fr [16, 17, 73] σ q.2) := by
  have h12 := hC.1.1.2.2.2.2.2.1
  have go : ∀ (r n : Nat) (i : Int) (ρ : Sg), i + r = 10 → 0 ≤ i → r < n → Fr [73] σ ρ → (∀ j, 0 ≤ j → j < i → rd ρ 73 j = 0) → wp (fX0_mostAlike_L3 1 (fun s2 => fX0_mostAlike_L30 1 p (K : Int) FU 0 0 s2) p (K : Int) n i ρ) (fun q => q.1 = (alS w p K (w 85).toNat).2 ∧ Fr [16, 17, 73] σ q.2) := by
    intro r
    induction r with
    | zero =>
      intro n i ρ hi i0 hn hG hz
      cases n with
      | zero => omega
      | succ n =>
        rw [fX0_mostAlike_L3, if_neg (by omega)]
        exact wp_mono (alike_c (hC.fr hG (by decide)) hp hK (w 85).toNat FU 0 ρ (by omega) (by unfold FU; omega) Fr.rf (fun v v0 v1 => hz v v0 (by omega))) (fun q hq => ⟨hq.1, (hG.mo (by decide)).tr hq.2⟩)
    | succ r ih =>
      intro n i ρ hi i0 hn hG hz
      cases n with
      | zero => omega
      | succ n =>
        rw [fX0_mostAlike_L3, if_pos (by omega), grd_pos (by omega), bw_id (z := i + 1) (by omega) (by omega)]
        refine ih n (i + 1) _ (by omega) (by omega) (by omega) (hG.wr (by decide)) (fun j j0 j1 => ?_)
        by_cases e : j = i
        · rw [e, rq_s]; rfl
        · rw [rq_i e]; exact hz j j0 (by omega)
  unfold fX0_mostAlike
  exact go 10 FU 0 σ (by omega) (by omega) (by unfold FU; omega) Fr.rf (fun j j0 j1 => by omega)
theorem alikeAll_m {w : Int → Int} {g : Nat → Int → Int} {σ : Sg} {p : Int} {K : Nat} (hW : Wf w) (hL : LR w g) (hw : rd σ 85 = w) (hp : isP w p) (hK : K < 4096) : wp (fX11_mostAlike p (K : Int) σ) (fun q => q.1 = (alS w p K (w 85).toNat).2 ∧ Fr [93, 94, 100] σ q.2) := by
  have h12 := hW.1.2.2.2.2.2.1
  have go : ∀ (r n : Nat) (i : Int) (ρ : Sg), i + r = 10 → 0 ≤ i → r < n → Fr [100] σ ρ → (∀ j, 0 ≤ j → j < i → rd ρ 100 j = 0) → wp (fX11_mostAlike_L2 (fun s2 => fX11_mostAlike_L26 p (K : Int) FU 0 0 s2) p (K : Int) n i ρ) (fun q => q.1 = (alS w p K (w 85).toNat).2 ∧ Fr [93, 94, 100] σ q.2) := by
    intro r
    induction r with
    | zero =>
      intro n i ρ hi i0 hn hG hz
      cases n with
      | zero => omega
      | succ n =>
        rw [fX11_mostAlike_L2, if_pos (by omega)]
        exact wp_mono (alike_m hW hL ((funext fun j => hG 85 j (by decide)).trans hw) hp hK (w 85).toNat FU 0 ρ (by omega) (by unfold FU; omega) Fr.rf (fun v v0 v1 => hz v v0 (by omega))) (fun q hq => ⟨hq.1, (hG.mo (by decide)).tr hq.2⟩)
    | succ r ih =>
      intro n i ρ hi i0 hn hG hz
      cases n with
      | zero => omega
      | succ n =>
        rw [fX11_mostAlike_L2, if_neg (by omega), grd_pos (by omega), bw_id (z := i + 1) (by omega) (by omega)]
        refine ih n (i + 1) _ (by omega) (by omega) (by omega) (hG.wr (by decide)) (fun j j0 j1 => ?_)
        by_cases e : j = i
        · rw [e, rq_s]; rfl
        · rw [rq_i e]; exact hz j j0 (by omega)
  unfold fX11_mostAlike
  exact go 10 FU 0 σ (by omega) (by omega) (by unfold FU; omega) Fr.rf (fun j j0 j1 => by omega)
def nxS (w : Int → Int) (x : Int) (K : Nat) : Nat → Int × Int
  | 0 => (-1, 0)
  | n + 1 => if (n : Int) = x ∨ w (91 + (n : Int)) ≠ w (91 + x) then nxS w x K n else if (nxS w x K n).1 = -1 ∨ (alS w n K (w 85).toNat).2 < (nxS w x K n).2 then ((n : Int), (alS w n K (w 85).toNat).2) else nxS w x K n
def nxL (L : Int) (s : Int × Int) : Int := if s.1 = -1 then L else s.2
theorem next_c {m : Int} {w : Int → Int} {σ0 : Sg} {x : Int} {K : Nat} (hC : CW m w σ0 1) (hx : isP w x) (hK : K < 4096) : ∀ (r n k : Nat) (ρ : Sg), (k : Int) + r = w 85 → r < n → Fr [16, 17, 73] σ0 ρ → wp (fX0_nextToPass_L10 1 x (K : Int) n (nxS w x K k).1 (nxL 13 (nxS w x K k)) (k : Int) ρ) (fun q => q.1 = (nxS w x K (w 85).toNat).1 ∧ Fr [16, 17, 73] σ0 q.2)
  | 0, n, k, ρ, hi, hn, hG => by
    have e6 : rd σ0 4 6 = w 85 := hC.2.2.2.1.1
    cases n with
    | zero => omega
    | succ n =>
      rw [fX0_nextToPass_L10]
      show wp (if (k : Int) < rd ρ 4 6 then _ else _) _
      rw [hG 4 6 (by decide), e6, if_neg (by omega), wp_some, show (w 85).toNat = k by omega]
      exact ⟨rfl, hG⟩
  | r + 1, n, k, ρ, hi, hn, hG => by
    have e6 : rd σ0 4 6 = w 85 := hC.2.2.2.1.1
    have h12 := hC.1.1.2.2.2.2.2.1
    have hx0 := hx.1
    have hx1 := hx.2
    have hq : isP w (k : Int) := ⟨by omega, by omega⟩
    have s1 : rd ρ 5 (k : Int) = w (91 + (k : Int)) := (hG 5 _ (by decide)).trans (hC.2.2.2.1.2 _ hq).1
    have s2 : rd ρ 5 x = w (91 + x) := (hG 5 _ (by decide)).trans (hC.2.2.2.1.2 x hx).1
    cases n with
    | zero => omega
    | succ n =>
      have ih := next_c hC hx hK r n (k + 1)
      rw [show ((k + 1 : Nat) : Int) = (k : Int) + 1 by omega, nxS] at ih
      rw [fX0_nextToPass_L10]
      show wp (if (k : Int) < rd ρ 4 6 then if (k : Int) = x then _ else grd _ (grd _ (if rd ρ 5 (k : Int) = rd ρ 5 x then _ else _)) else _) _
      rw [hG 4 6 (by decide), e6, if_pos (by omega), bw_id (z := (k : Int) + 1) (by omega) (by omega)]
      by_cases c1 : (k : Int) = x
      · rw [if_pos (Or.inl c1)] at ih
        rw [if_pos c1]
        exact ih ρ (by omega) (by omega) hG
      · rw [if_neg c1, grd_pos (by omega), grd_pos (by omega), s1, s2]
        by_cases c2 : w (91 + (k : Int)) = w (91 + x)
        · rw [if_neg (fun z => z.elim c1 (fun y => y c2))] at ih
          rw [if_pos c2, wp_bind]
          refine wp_mono (alikeAll_c (hC.fr hG (by decide)) hq hK) (fun q hq2 => ?_)
          have g2 : Fr [16, 17, 73] σ0 q.2 := hG.tr hq2.2
          obtain ⟨-, a2, a3⟩ := alS_r (w := w) (p := (k : Int)) (K := K) (w 85).toNat
          rw [hq2.1]
          by_cases c3 : (nxS w x K k).1 = -1 ∨ (alS w k K (w 85).toNat).2 < (nxS w x K k).2
          · rw [if_pos c3] at ih
            have e : (alS w k K (w 85).toNat).2 < nxL 13 (nxS w x K k) := by
              unfold nxL
              split
              · omega
              · exact c3.resolve_left (by assumption)
            rw [if_pos e]
            have e2 : nxL 13 ((k : Int), (alS w k K (w 85).toNat).2) = (alS w k K (w 85).toNat).2 := if_neg (by simp only; omega)
            rw [e2] at ih
            exact ih q.2 (by omega) (by omega) g2
          · rw [if_neg c3] at ih
            have e : ¬ (alS w k K (w 85).toNat).2 < nxL 13 (nxS w x K k) := by
              unfold nxL
              rw [if_neg (fun z => c3 (Or.inl z))]
              exact fun z => c3 (Or.inr z)
            rw [if_neg e]
            exact ih q.2 (by omega) (by omega) g2
        · rw [if_pos (Or.inr c2)] at ih
          rw [if_neg c2]
          exact ih ρ (by omega) (by omega) hG
theorem next_m {w : Int → Int} {g : Nat → Int → Int} {σ0 : Sg} {x : Int} {K : Nat} (hW : Wf w) (hL : LR w g) (hw : rd σ0 85 = w) (hx : isP w x) (hK : K < 4096) : ∀ (r n k : Nat) (ρ : Sg), (k : Int) + r = w 85 → r < n → Fr [93, 94, 100] σ0 ρ → wp (fX11_ask_L38 x (K : Int) n (nxS w x K k).1 (nxL 100000 (nxS w x K k)) (k : Int) ρ) (fun q => q.1 = (nxS w x K (w 85).toNat).1 ∧ Fr [93, 94, 100] σ0 q.2)
  | 0, n, k, ρ, hi, hn, hG => by
    cases n with
    | zero => omega
    | succ n =>
      rw [fX11_ask_L38, hG 85 85 (by decide), hw, if_neg (by omega), wp_some, show (w 85).toNat = k by omega]
      exact ⟨rfl, hG⟩
  | r + 1, n, k, ρ, hi, hn, hG => by
    have h12 := hW.1.2.2.2.2.2.1
    have hx0 := hx.1
    have hx1 := hx.2
    have hq : isP w (k : Int) := ⟨by omega, by omega⟩
    have hw1 : rd ρ 85 = w := (funext fun j => hG 85 j (by decide)).trans hw
    cases n with
    | zero => omega
    | succ n =>
      have ih := next_m hW hL hw hx hK r n (k + 1)
      rw [show ((k + 1 : Nat) : Int) = (k : Int) + 1 by omega, nxS] at ih
      rw [fX11_ask_L38, hw1, if_pos (by omega), bw_id (z := (k : Int) + 1) (by omega) (by omega), bw_id (z := 91 + (k : Int)) (by omega) (by omega), bw_id (z := 91 + x) (by omega) (by omega)]
      by_cases c1 : (k : Int) = x
      · rw [if_pos (Or.inl c1)] at ih
        rw [if_pos c1]
        exact ih ρ (by omega) (by omega) hG
      · rw [if_neg c1, grd_pos (by omega), grd_pos (by omega)]
        by_cases c2 : w (91 + (k : Int)) = w (91 + x)
        · rw [if_neg (fun z => z.elim c1 (fun y => y c2))] at ih
          rw [if_pos c2, wp_bind]
          refine wp_mono (alikeAll_m hW hL hw1 hq hK) (fun q hq2 => ?_)
          have g2 : Fr [93, 94, 100] σ0 q.2 := hG.tr hq2.2
          have hw2 : rd q.2 85 = w := (funext fun j => g2 85 j (by decide)).trans hw
          obtain ⟨-, a2, a3⟩ := alS_r (w := w) (p := (k : Int)) (K := K) (w 85).toNat
          rw [hq2.1]
          by_cases c3 : (nxS w x K k).1 = -1 ∨ (alS w k K (w 85).toNat).2 < (nxS w x K k).2
          · rw [if_pos c3] at ih
            have e : (alS w k K (w 85).toNat).2 < nxL 100000 (nxS w x K k) := by
              unfold nxL
              split
              · omega
              · exact c3.resolve_left (by assumption)
            rw [if_pos e, wp_bind]
            refine wp_mono (alikeAll_m hW hL hw2 hq hK) (fun q3 hq3 => ?_)
            have e2 : nxL 100000 ((k : Int), (alS w k K (w 85).toNat).2) = (alS w k K (w 85).toNat).2 := if_neg (by simp only; omega)
            rw [e2] at ih
            rw [hq3.1]
            exact ih q3.2 (by omega) (by omega) (g2.tr hq3.2)
          · rw [if_neg c3] at ih
            have e : ¬ (alS w k K (w 85).toNat).2 < nxL 100000 (nxS w x K k) := by
              unfold nxL
              rw [if_neg (fun z => c3 (Or.inl z))]
              exact fun z => c3 (Or.inr z)
            rw [if_neg e]
            exact ih q.2 (by omega) (by omega) g2
        · rw [if_pos (Or.inr c2)] at ih
          rw [if_neg c2]
          exact ih ρ (by omega) (by omega) hG
theorem op_ask {has : Bool} {N : Nat} (hN : N ≤ 511) (x1 : Int) (h1 : bw x1 = x1) : OpE has N (fX10_ask x1) (fX11_ask x1) := by
  intro σ h
  have hC := h.1
  have hW := hC.1
  have h12 := hW.1.2.2.2.2.2.1
  by_cases c : isP (rd σ 85) x1
  · have hK := whoS_4 (w := rd σ 85) (x := x1) (n := (rd σ 85 85).toNat) (by omega)
    have hL := hC.2.2.2.2.2.2
    generalize eK : whoS (rd σ 85) x1 (rd σ 85 85).toNat = K at hK
    refine opE_ro (v := if ((cntN K 12 : Nat) : Int) < 2 then -1 else (nxS (rd σ 85) x1 K (rd σ 85 85).toNat).1) h ?_ (fun τ hk => ?_)
    · show wp (fX10_ask x1 σ) _
      unfold fX10_ask
      rw [show fX1_has 4 x1 σ = _ from has_c hC x1, if_pos c, if_neg n10, wp_bind]
      refine wp_mono (whoAll_c hC c) (fun q hq => ?_)
      rw [eK] at hq
      rw [hq.1, bitc hK]
      by_cases d : ((cntN K 12 : Nat) : Int) < 2
      · rw [if_pos d, if_pos d, wp_some]
        exact ⟨rfl, keep_c hq.2⟩
      · rw [if_neg d, if_neg d, wp_bind]
        unfold fX0_nextToPass
        refine wp_mono (next_c (hC.fr hq.2 (by decide)) c hK (rd σ 85 85).toNat FU 0 q.2 (by omega) (by unfold FU; omega) Fr.rf) (fun q2 hq2 => ?_)
        rw [wp_some]
        exact ⟨hq2.1, (keep_c hq.2).tr (Keep.fr hq2.2 (by decide) (by decide))⟩
    · have e85 : rd τ 85 = rd σ 85 := hk.1 85 (by decide)
      show wp (fX11_ask x1 τ) _
      unfold fX11_ask
      rw [isPerson_m hW e85, if_pos c, if_neg n10, wp_bind]
      refine wp_mono (whoAll_m hW hL e85 c) (fun q hq => ?_)
      have e86 : rd q.2 85 = rd σ 85 := (funext fun j => hq.2 85 j (by decide)).trans e85
      rw [eK] at hq
      rw [hq.1, count_m hK, Option.bind_some]
      by_cases d : ((cntN K 12 : Nat) : Int) < 2
      · rw [if_pos d, if_pos d, wp_some]
        exact ⟨rfl, keep_m hq.2⟩
      · rw [if_neg d, if_neg d, wp_bind]
        refine wp_mono (whoAll_m hW hL e86 c) (fun q2 hq2 => ?_)
        have e87 : rd q2.2 85 = rd σ 85 := (funext fun j => hq2.2 85 j (by decide)).trans e86
        rw [eK] at hq2
        rw [hq2.1]
        refine wp_mono (next_m hW hL e87 c hK (rd σ 85 85).toNat FU 0 q2.2 (by omega) (by unfold FU; omega) Fr.rf) (fun q3 hq3 => ?_)
        exact ⟨hq3.1, ((keep_m hq.2).tr (keep_m hq2.2)).tr (Keep.fr hq3.2 (by decide) (by decide))⟩
  · refine opE_no h (v := -1) ?_ ?_
    · unfold fX10_ask
      rw [show fX1_has 4 x1 σ = _ from has_c hC x1, if_neg c, if_pos p00]
    · unfold fX11_ask
      rw [isPerson_m hW rfl, if_neg c, if_pos p00]
