/-! best, all of it -/
theorem Bs_at {w : Int → Int} {a m : Nat} (ha : a < nP w) : (c0B w a = true → (upL (nP w) 0).foldl (fun acc b => if c1B w b = true then (if m.testBit b.toNat = true then max acc (foundW w a b + Bs w (rgL w) (lfA w (a + 1)) (mdel m b)) else acc) else acc) (Bs w (rgL w) (lfA w (a + 1)) m) = Bs w (rgL w) (lfA w a) m) ∧ (¬ c0B w a = true → Bs w (rgL w) (lfA w (a + 1)) m = Bs w (rgL w) (lfA w a) m) := by
  refine ⟨fun c => ?_, fun c => by rw [lfA_no ha c]⟩
  rw [lfA_yes ha c, Bs]
  conv => rhs; rw [rg_eq]
  rw [fold_filter, ← rg_eq]
theorem rowm_m {w : Int → Int} {σ0 : Sg} {a : Nat} {k10 : Int → Sg → Option Sg} {Q : Sg → Prop} (hW : Wf w) (hw : rd σ0 85 = w) (hB : FB w σ0) (ha : a ≤ nP w) (hk : ∀ τ, Fr [98] σ0 τ → TI w a τ → wp (k10 ((a : Int) - 1) τ) Q) : ∀ (r n m : Nat) (ρ : Sg), m + r = 2 ^ nP w → r < n → Fr [98] σ0 ρ → TI w (a + 1) ρ → (∀ t : Nat, t < m → rd ρ 98 ((4096 * a + t : Nat) : Int) = Bs w (rgL w) (lfA w a) t) → wp (fX11_laysBest_L16 k10 ((nP w : Nat) : Int) (a : Int) n (m : Int) ρ) Q
  | 0, n, m, ρ, hm, hn, hF, hT, hZ => by
    have h12 := hW.1.2.2.2.2.2.1
    have h4 := pow_nP h12
    have hp := nP_i h12
    cases n with
    | zero => omega
    | succ n =>
      rw [fX11_laysBest_L16, bshl_1i (by omega) (by omega), Int.toNat_natCast, if_neg (by omega), show (a : Int) + -1 = (a : Int) - 1 by omega, bw_id (z := (a : Int) - 1) (by omega) (by omega)]
      refine hk ρ hF (fun a' t x y z => ?_)
      by_cases e : a' = a
      · rw [e]; exact hZ t (by omega)
      · exact hT a' t (by omega) y z
  | r + 1, n, m, ρ, hm, hn, hF, hT, hZ => by
    have h12 := hW.1.2.2.2.2.2.1
    have h4 := pow_nP h12
    have hp := nP_i h12
    have hw2 : rd ρ 85 = w := (funext fun j => hF 85 j (by decide)).trans hw
    have hB2 : FB w ρ := fun x y p q s => (hF 99 _ (by decide)).trans (hB x y p q s)
    cases n with
    | zero => omega
    | succ n =>
      have nx : ∀ v : Int, bw v = v → v = Bs w (rgL w) (lfA w a) m → wp (fX11_laysBest_L16 k10 ((nP w : Nat) : Int) (a : Int) n ((m : Int) + 1) (wr ρ 98 ((4096 * a + m : Nat) : Int) v)) Q := by
        intro v hv hv2
        rw [show (m : Int) + 1 = ((m + 1 : Nat) : Int) by omega]
        refine rowm_m hW hw hB ha hk r n (m + 1) _ (by omega) (by omega) (hF.wr (by decide)) (fun a' t x y z => ?_) (fun t ht => ?_)
        · rw [rq_i (by omega)]
          exact hT a' t x y z
        · by_cases e : t = m
          · rw [e, rq_s, hv]; exact hv2
          · rw [rq_i (by omega)]; exact hZ t (by omega)
      have hr := Bs_r (w := w) (R := rgL w) (lfA w a) m
      have hl := lfA_len (w := w) (a := a)
      rw [fX11_laysBest_L16, bshl_1i (by omega) (by omega), Int.toNat_natCast, if_pos (by omega)]
      unfold fX11_laysBest_J46
      by_cases e : a = nP w
      · rw [if_pos (by omega)]
        have e0 : Bs w (rgL w) (lfA w a) m = 0 := by rw [e, lfA_end, Bs]
        have fin : wp (fX11_laysBest_L16 k10 ((nP w : Nat) : Int) (a : Int) n (bw ((m : Int) + 1)) (wr ρ 98 (bw (bw (4096 * (a : Int)) + (m : Int))) 0)) Q := by
          rw [bw_id (z := 4096 * (a : Int)) (by omega) (by omega), bw_id (z := 4096 * (a : Int) + (m : Int)) (by omega) (by omega), bw_id (z := (m : Int) + 1) (by omega) (by omega), show 4096 * (a : Int) + (m : Int) = ((4096 * a + m : Nat) : Int) by omega]
          exact nx 0 rfl e0.symm
        have hg : 0 ≤ bw (bw (4096 * (a : Int)) + (m : Int)) ∧ bw (bw (4096 * (a : Int)) + (m : Int)) < 53248 := by
          rw [bw_id (z := 4096 * (a : Int)) (by omega) (by omega), bw_id (z := 4096 * (a : Int) + (m : Int)) (by omega) (by omega)]
          omega
        show wp (fX11_laysBest_L51 _ _ _ _ (99999 + 1) 0 0 ρ) Q
        rw [fX11_laysBest_L51]
        by_cases c : (0 : Int) < ((nP w : Nat) : Int)
        · rw [if_pos c, if_neg (by omega), grd_pos hg]
          exact fin
        · rw [if_neg c, grd_pos hg]
          exact fin
      · have ha2 : a < nP w := by omega
        have hb := Bs_at (w := w) (a := a) (m := m) ha2
        have e98 := hT (a + 1) m (Nat.le_refl _) (by omega) (by omega)
        rw [if_neg (by omega), bw_id (z := (a : Int) + 1) (by omega) (by omega), bw_id (z := 4096 * ((a : Int) + 1)) (by omega) (by omega), bw_id (z := 4096 * ((a : Int) + 1) + (m : Int)) (by omega) (by omega), grd_pos (by omega), show 4096 * ((a : Int) + 1) + (m : Int) = ((4096 * (a + 1) + m : Nat) : Int) by omega, e98, show (0 : Int) = ((0 : Nat) : Int) from rfl]
        exact cell_m hW hw2 hB2 hT ha2 (by omega) (nx _ (bw_id (by omega) (by omega)) rfl) (nP w) FU 0 _ (by omega) (by unfold FU; omega) hb.1 hb.2
theorem tables_m {w : Int → Int} {σ0 : Sg} (hW : Wf w) (hw : rd σ0 85 = w) (hB : FB w σ0) : ∀ (a n : Nat) (ρ : Sg), a ≤ nP w + 1 → a < n → Fr [98] σ0 ρ → TI w a ρ → wp (fX11_laysBest_L10 ((nP w : Nat) : Int) n ((a : Int) - 1) ρ) (fun τ => Fr [98] σ0 τ ∧ TI w 0 τ)
  | 0, n, ρ, ha, hn, hF, hT => by
    cases n with
    | zero => omega
    | succ n =>
      rw [fX11_laysBest_L10, if_pos (by omega), wp_some]
      exact ⟨hF, hT⟩
  | a + 1, n, ρ, ha, hn, hF, hT => by
    have h12 := hW.1.2.2.2.2.2.1
    have h4 := pow_nP h12
    cases n with
    | zero => omega
    | succ n =>
      rw [fX11_laysBest_L10, if_neg (by omega), show ((a + 1 : Nat) : Int) - 1 = (a : Int) by omega]
      exact rowm_m (σ0 := ρ) hW ((funext fun j => hF 85 j (by decide)).trans hw) (fun x y p q s => (hF 99 _ (by decide)).trans (hB x y p q s)) (by omega) (fun τ hτ hT2 => tables_m hW hw hB a n τ (by omega) (by omega) (hF.tr hτ) hT2) (2 ^ nP w) FU 0 ρ (by omega) (by unfold FU; omega) Fr.rf hT (fun t ht => by omega)
theorem takenBy_m {w : Int → Int} {ρ : Sg} {a m : Nat} (hW : Wf w) (hw : rd ρ 85 = w) (hB : FB w ρ) (hT : TI w 0 ρ) (ha : a < nP w) (hm : m < 2 ^ nP w) : fX11_takenBy (a : Int) (m : Int) ρ = some (if c0B w a = true then ((rgL w).find? (tkF w (rgL w) a (lfA w (a + 1)) m)).getD (-1) else -1) := by
  have h12 := hW.1.2.2.2.2.2.1
  have h4 := pow_nP h12
  have hp := nP_i h12
  have go : ∀ (r n j : Nat), j + r = nP w → r < n → fX11_takenBy_L2 ρ (a : Int) (m : Int) n (j : Int) = some (if c0B w a = true then ((upL r (j : Int)).find? (fun b => c1B w b && tkF w (rgL w) a (lfA w (a + 1)) m b)).getD (-1) else -1) := by
    intro r
    induction r with
    | zero =>
      intro n j hj hn
      cases n with
      | zero => omega
      | succ n =>
        rw [fX11_takenBy_L2, hw, if_neg (by omega)]
        show _ = some (if c0B w a = true then -1 else -1)
        split <;> rfl
    | succ r ih =>
      intro n j hj hn
      cases n with
      | zero => omega
      | succ n =>
        have ih2 := ih n (j + 1) (by omega) (by omega)
        have eb : band (m : Int) (bxor (bshl 1 (j : Int)) (-1)) = ((mdel m (j : Int) : Nat) : Int) := by
          rw [bandn_bit (by omega) (by omega) (by omega) (by omega), Int.toNat_natCast]
          rfl
        have hml : mdel m (j : Int) ≤ m := Nat.and_le_left
        rw [fX11_takenBy_L2, hw, if_pos (by omega), canHave_m hW hw (by omega) (by omega) (by omega), Option.bind_some, bw_id (z := (j : Int) + 1) (by omega) (by omega), show (j : Int) + 1 = ((j + 1 : Nat) : Int) by omega, upL, List.find?_cons]
        by_cases c : m.testBit j = true ∧ c0B w a = true ∧ c1B w j = true
        · have s0 := of_decide_eq_true c.2.1
          have s1 := of_decide_eq_true c.2.2
          have hne : (a : Int) ≠ (j : Int) := fun z => by rw [z] at s0; omega
          have ef := hB (a : Int) (j : Int) ⟨by omega, by omega⟩ ⟨by omega, by omega⟩ hne
          have et := hT (a + 1) (mdel m (j : Int)) (by omega) (by omega) (by omega)
          have et2 := hT a m (by omega) (by omega) (by omega)
          have hf := foundW_r w (a : Int) (j : Int)
          have hr := Bs_r (w := w) (R := rgL w) (lfA w (a + 1)) (mdel m (j : Int))
          have hl := lfA_len (w := w) (a := a + 1)
          rw [if_pos c, if_neg n10, eb, bw_id (z := 12 * (a : Int)) (by omega) (by omega), bw_id (z := 12 * (a : Int) + (j : Int)) (by omega) (by omega), grd_pos (by omega), bw_id (z := (a : Int) + 1) (by omega) (by omega), bw_id (z := 4096 * ((a : Int) + 1)) (by omega) (by omega), bw_id (z := 4096 * ((a : Int) + 1) + ((mdel m (j : Int) : Nat) : Int)) (by omega) (by omega), grd_pos (by omega), bw_id (z := 4096 * (a : Int)) (by omega) (by omega), bw_id (z := 4096 * (a : Int) + (m : Int)) (by omega) (by omega), grd_pos (by omega), ef, show 4096 * ((a : Int) + 1) + ((mdel m (j : Int) : Nat) : Int) = ((4096 * (a + 1) + mdel m (j : Int) : Nat) : Int) by omega, et, show 4096 * (a : Int) + (m : Int) = ((4096 * a + m : Nat) : Int) by omega, et2, bw_id (z := foundW w (a : Int) (j : Int) + _) (by omega) (by omega), if_pos c.2.1]
          by_cases y : foundW w (a : Int) (j : Int) + Bs w (rgL w) (lfA w (a + 1)) (mdel m (j : Int)) = Bs w (rgL w) (lfA w a) m
          · have ht : (c1B w (j : Int) && tkF w (rgL w) a (lfA w (a + 1)) m (j : Int)) = true := by
              rw [c.2.2]
              unfold tkF
              rw [Int.toNat_natCast, c.1, ← lfA_yes ha c.2.1, decide_eq_true y]
              rfl
            rw [if_pos y, ht]
            rfl
          · have ht : (c1B w (j : Int) && tkF w (rgL w) a (lfA w (a + 1)) m (j : Int)) = false := by
              rw [c.2.2]
              unfold tkF
              rw [Int.toNat_natCast, c.1, ← lfA_yes ha c.2.1, decide_eq_false y]
              rfl
            rw [if_neg y, ht]
            rw [if_pos c.2.1] at ih2
            exact ih2
        · rw [if_neg c, if_pos p00]
          by_cases q : c0B w a = true
          · have ht : (c1B w (j : Int) && tkF w (rgL w) a (lfA w (a + 1)) m (j : Int)) = false := by
              cases z1 : c1B w (j : Int) with
              | false => rfl
              | true =>
                unfold tkF
                rw [Int.toNat_natCast]
                cases z2 : m.testBit j with
                | false => rfl
                | true => exact absurd ⟨z2, q, z1⟩ c
            rw [ht]
            exact ih2
          · rw [if_neg q] at ih2 ⊢
            exact ih2
  unfold fX11_takenBy
  have := go (nP w) FU 0 (by omega) (by unfold FU; omega)
  rw [show (0 : Int) = ((0 : Nat) : Int) from rfl, this]
  have e2 : (rgL w).find? (tkF w (rgL w) a (lfA w (a + 1)) m) = (upL (nP w) ((0 : Nat) : Int)).find? (fun b => c1B w b && tkF w (rgL w) a (lfA w (a + 1)) m b) := by
    conv => lhs; rw [rg_eq]
    rw [find_flt, ← rg_eq]
    rfl
  rw [e2]
theorem find_mem {w : Int → Int} {f : Int → Bool} {b : Int} (h12 : 0 ≤ w 85 ∧ w 85 ≤ 12) (h : (rgL w).find? f = some b) : isP w b ∧ w (68 + b) = -1 ∧ w (91 + b) = 1 ∧ f b = true := by
  have hm := List.mem_of_find?_eq_some h
  have := frL_mem.mp hm
  have hp := nP_i h12
  exact ⟨⟨this.1.1, by omega⟩, this.2.1, this.2.2, List.find?_some h⟩
