/-! stable: the class -/
theorem lf_idx {w : Int → Int} (h12 : 0 ≤ w 85 ∧ w 85 ≤ 12) {a : Int} (ha : Lp w a) : ∃ i : Nat, i < (lfL w).length ∧ (lfL w).getD i 0 = a := by
  have hp := nP_i h12
  have a1 := ha.1.2
  have hm : a ∈ lfL w := frL_mem.mpr ⟨⟨ha.1.1, by omega⟩, ha.2⟩
  obtain ⟨i, hi, e⟩ := List.getElem_of_mem hm
  exact ⟨i, hi, by rw [getD_ge hi]; exact e⟩
theorem rg_idx {w : Int → Int} (h12 : 0 ≤ w 85 ∧ w 85 ≤ 12) {b : Int} (hb : Rp w b) : ∃ j : Nat, j < (rgL w).length ∧ (rgL w).getD j 0 = b := by
  have hp := nP_i h12
  have a1 := hb.1.2
  have hm : b ∈ rgL w := frL_mem.mpr ⟨⟨hb.1.1, by omega⟩, hb.2⟩
  obtain ⟨j, hj, e⟩ := List.getElem_of_mem hm
  exact ⟨j, hj, by rw [getD_ge hj]; exact e⟩
def F2 (w : Int → Int) (ρ : Sg) (a b : Int) : Prop := rd ρ 68 (12 * a + b) = matchW w a b ∧ rd ρ 68 (12 * b + a) = matchW w b a
theorem fit2In_c {m : Int} {w : Int → Int} {σ0 : Sg} {i : Nat} {k10 : Int → Sg → Option Sg} {Q : Sg → Prop} (hC : CW m w σ0 1) (hG : GA w σ0) (hi : i < (lfL w).length) (hk : ∀ τ, Fr [16, 17, 68] σ0 τ → (∀ i' j' : Nat, i' < (lfL w).length → j' < (rgL w).length → i' < i + 1 → F2 w τ ((lfL w).getD i' 0) ((rgL w).getD j' 0)) → wp (k10 ((i + 1 : Nat) : Int) τ) Q) : ∀ (r n j : Nat) (ρ : Sg), j + r = (rgL w).length → r < n → Fr [16, 17, 68] σ0 ρ → (∀ i' j' : Nat, i' < (lfL w).length → j' < (rgL w).length → i' < i ∨ i' = i ∧ j' < j → F2 w ρ ((lfL w).getD i' 0) ((rgL w).getD j' 0)) → wp (fX0_settle_L20 1 k10 (i : Int) n (j : Int) ρ) Q
  | 0, n, j, ρ, hj, hn, hF, hB => by
    have h12 := hC.1.1.2.2.2.2.2.1
    have l0 := lr_len h12
    cases n with
    | zero => omega
    | succ n =>
      have e6 : rd ρ 65 6 = ((rgL w).length : Int) := (hF 65 6 (by decide)).trans hG.2.1
      rw [fX0_settle_L20, e6, if_neg (by omega), bw_id (z := (i : Int) + 1) (by omega) (by omega), show (i : Int) + 1 = ((i + 1 : Nat) : Int) by omega]
      exact hk ρ hF (fun i' j' a b c => hB i' j' a b (by omega))
  | r + 1, n, j, ρ, hj, hn, hF, hB => by
    have h12 := hC.1.1.2.2.2.2.2.1
    have l0 := lr_len h12
    obtain ⟨pa, -, sa⟩ := lf_mem h12 hi
    obtain ⟨pb, -, sb⟩ := rg_mem h12 (show j < (rgL w).length by omega)
    have a0 := pa.1
    have a1 := pa.2
    have b0 := pb.1
    have b1 := pb.2
    cases n with
    | zero => omega
    | succ n =>
      have e6 : rd ρ 65 6 = ((rgL w).length : Int) := (hF 65 6 (by decide)).trans hG.2.1
      have e69 : ∀ τ, Fr [16, 17, 68] σ0 τ → rd τ 69 (i : Int) = (lfL w).getD i 0 := fun τ hτ => (hτ 69 _ (by decide)).trans (hG.2.2.1 i hi)
      have e70 : ∀ τ, Fr [16, 17, 68] σ0 τ → rd τ 70 (j : Int) = (rgL w).getD j 0 := fun τ hτ => (hτ 70 _ (by decide)).trans (hG.2.2.2 j (by omega))
      have i16 : (0 : Int) ≤ (i : Int) ∧ (i : Int) < 12 := by omega
      have j16 : (0 : Int) ≤ (j : Int) ∧ (j : Int) < 12 := by omega
      rw [fX0_settle_L20, e6, if_pos (by omega), grd_pos i16, grd_pos j16, grd_pos i16, grd_pos j16, e69 ρ hF, e70 ρ hF, wp_bind]
      refine wp_mono (matchOf_c (hC.fr hF (by decide)) pa pb) (fun q hq => ?_)
      have hm1 := matchW_r w ((lfL w).getD i 0) ((rgL w).getD j 0)
      have hm2 := matchW_r w ((rgL w).getD j 0) ((lfL w).getD i 0)
      have g1 : Fr [16, 17, 68] σ0 (wr q.2 68 (12 * (lfL w).getD i 0 + (rgL w).getD j 0) (matchW w ((lfL w).getD i 0) ((rgL w).getD j 0))) := (hF.tr (hq.2.mo (by decide))).wr (by decide)
      rw [bw_id (z := 12 * (lfL w).getD i 0) (by omega) (by omega), bw_id (z := 12 * (lfL w).getD i 0 + (rgL w).getD j 0) (by omega) (by omega), hq.1, grd_pos (by omega), grd_pos j16, grd_pos i16, grd_pos j16, grd_pos i16, e69 _ g1, e70 _ g1, wp_bind]
      refine wp_mono (matchOf_c (hC.fr g1 (by decide)) pb pa) (fun q2 hq2 => ?_)
      rw [bw_id (z := 12 * (rgL w).getD j 0) (by omega) (by omega), bw_id (z := 12 * (rgL w).getD j 0 + (lfL w).getD i 0) (by omega) (by omega), grd_pos (by omega), hq2.1, bw_id (z := (j : Int) + 1) (by omega) (by omega), show (j : Int) + 1 = ((j + 1 : Nat) : Int) by omega]
      refine fit2In_c hC hG hi hk r n (j + 1) _ (by omega) (by omega) ((g1.tr (hq2.2.mo (by decide))).wr (by decide)) (fun i' j' x y z => ?_)
      obtain ⟨pa', -, sa'⟩ := lf_mem h12 x
      obtain ⟨pb', -, sb'⟩ := rg_mem h12 y
      have a0' := pa'.1
      have a1' := pa'.2
      have b0' := pb'.1
      have b1' := pb'.2
      have nab : ∀ u v : Int, w (91 + u) = 0 → w (91 + v) = 1 → u ≠ v := fun u v hu hv q => by rw [q] at hu; omega
      have n1 := nab _ _ sa' sb
      have n2 := nab _ _ sa sb'
      by_cases e : i' = i ∧ j' = j
      · rw [e.1, e.2]
        have n3 := nab _ _ sa sb
        refine ⟨?_, ?_⟩
        · rw [rq_i (by omega), hq2.2 68 _ (by decide), rq_s, bw_id (by omega) (by omega)]
        · rw [rq_s, bw_id (by omega) (by omega)]
      · have hne : ¬ ((lfL w).getD i' 0 = (lfL w).getD i 0 ∧ (rgL w).getD j' 0 = (rgL w).getD j 0) := fun q => e ⟨frL_inj x hi q.1, frL_inj y (show j < (rgL w).length by omega) q.2⟩
        have old := hB i' j' x y (by
          rcases z with z | z
          · exact Or.inl z
          · refine Or.inr ⟨z.1, ?_⟩
            by_cases e2 : j' = j
            · exact absurd ⟨z.1, e2⟩ e
            · omega)
        refine ⟨?_, ?_⟩
        · rw [rq_i (by omega), hq2.2 68 _ (by decide), rq_i (by omega), hq.2 68 _ (by decide)]
          exact old.1
        · rw [rq_i (by omega), hq2.2 68 _ (by decide), rq_i (by omega), hq.2 68 _ (by decide)]
          exact old.2
theorem fit2_c {m : Int} {w : Int → Int} {σ0 : Sg} {k114 : Sg → Option Sg} {Q : Sg → Prop} (hC : CW m w σ0 1) (hG : GA w σ0) (hk : ∀ τ, Fr [16, 17, 68] σ0 τ → (∀ a b, Lp w a → Rp w b → F2 w τ a b) → wp (k114 τ) Q) : ∀ (r n i : Nat) (ρ : Sg), i + r = (lfL w).length → r < n → Fr [16, 17, 68] σ0 ρ → (∀ i' j' : Nat, i' < (lfL w).length → j' < (rgL w).length → i' < i → F2 w ρ ((lfL w).getD i' 0) ((rgL w).getD j' 0)) → wp (fX0_settle_L10 1 k114 n (i : Int) ρ) Q
  | 0, n, i, ρ, hi, hn, hF, hB => by
    have h12 := hC.1.1.2.2.2.2.2.1
    cases n with
    | zero => omega
    | succ n =>
      rw [fX0_settle_L10, hF 65 5 (by decide), hG.1, if_neg (by omega)]
      refine hk ρ hF (fun a b ha hb => ?_)
      obtain ⟨i', x1, x2⟩ := lf_idx h12 ha
      obtain ⟨j', y1, y2⟩ := rg_idx h12 hb
      rw [← x2, ← y2]
      exact hB i' j' x1 y1 (by omega)
  | r + 1, n, i, ρ, hi, hn, hF, hB => by
    have h12 := hC.1.1.2.2.2.2.2.1
    have l0 := lr_len h12
    cases n with
    | zero => omega
    | succ n =>
      rw [fX0_settle_L10, hF 65 5 (by decide), hG.1, if_pos (by omega)]
      exact fit2In_c hC hG (by omega) (fun τ hτ hB2 => fit2_c hC hG hk r n (i + 1) τ (by omega) (by omega) hτ hB2) (rgL w).length FU 0 ρ (by omega) (by unfold FU; omega) hF (fun i' j' a b c => hB i' j' a b (by omega))
/-- what the two rows of the class hold -/
def MC (w : Int → Int) (ρ : Sg) (A : Int → Nat) (H : Int → Int) : Prop := (∀ p, isP w p → rd ρ 66 p = H p ∧ rd ρ 67 p = (A p : Int)) ∧ (∀ p, A p < 4096) ∧ ∀ p, isP w p → bw (H p) = H p
def Good (w : Int → Int) (A : Int → Nat) (H : Int → Int) : Prop := StI w A H ∧ ∀ A' H', StI w A' H' → Term w A' H' → SubA w A A'
theorem askA_lt {A : Int → Nat} {a b : Int} (h : ∀ p, A p < 4096) (hb : 0 ≤ b ∧ b < 12) : ∀ p, askA A a b p < 4096 := by
  intro p
  unfold askA
  split
  · exact Nat.or_lt_two_pow (n := 12) (h a) (Nat.pow_lt_pow_right (by decide) (by omega))
  · exact h p
theorem nextL_c {w : Int → Int} {ρ : Sg} {A : Int → Nat} {H : Int → Int} {a : Int} {k77 : Int → Sg → Option (Int × Sg)} {Q : Int × Sg → Prop} (h12 : 0 ≤ w 85 ∧ w 85 ≤ 12) (hG : GA w ρ) (hF : ∀ a b, Lp w a → Rp w b → F2 w ρ a b) (hM : MC w ρ A H) (ha : Lp w a) (hN : (∀ b, Rp w b → 0 < matchW w a b → (A a).testBit b.toNat = true) → wp (k77 (-1) ρ) Q) (hS : ∀ b, Nxt w A a b → wp (k77 b ρ) Q) : ∀ (r n j : Nat) (x2 x3 : Int), j + r = (rgL w).length → r < n → (x2 = -1 ∧ x3 = 0 ∧ (∀ j' : Nat, j' < j → (A a).testBit ((rgL w).getD j' 0).toNat = true ∨ matchW w a ((rgL w).getD j' 0) = 0) ∨ (∃ jj : Nat, jj < j ∧ x2 = (rgL w).getD jj 0 ∧ (A a).testBit x2.toNat = false ∧ x3 = matchW w a x2 ∧ 0 < x3 ∧ ∀ j' : Nat, j' < j → (A a).testBit ((rgL w).getD j' 0).toNat = true ∨ ¬ prfS w a ((rgL w).getD j' 0) x2)) → wp (fX0_asksNext_L7 k77 a n x2 x3 (j : Int) ρ) Q
  | 0, n, j, x2, x3, hj, hn, hI => by
    cases n with
    | zero => omega
    | succ n =>
      rw [fX0_asksNext_L7, hG.2.1, if_neg (by omega)]
      rcases hI with ⟨e1, e2, e3⟩ | ⟨jj, e1, e2, e3, e4, e5, e6⟩
      · rw [e1]
        refine hN (fun b hb h0 => ?_)
        obtain ⟨j', y1, y2⟩ := rg_idx h12 hb
        rcases e3 j' (by omega) with z | z
        · rw [← y2]; exact z
        · rw [y2] at z; omega
      · obtain ⟨q1, q2, q3⟩ := rg_mem h12 (show jj < (rgL w).length by omega)
        refine hS x2 ⟨by rw [e2]; exact ⟨q1, q2, q3⟩, e3, by omega, fun c hc hp => ?_⟩
        obtain ⟨j', y1, y2⟩ := rg_idx h12 hc
        rcases e6 j' (by omega) with z | z
        · rw [← y2]; exact z
        · rw [y2] at z; exact absurd hp z
  | r + 1, n, j, x2, x3, hj, hn, hI => by
    have l0 := lr_len h12
    have a0 := ha.1.1
    have a1 := ha.1.2
    obtain ⟨q1, q2, q3⟩ := rg_mem h12 (show j < (rgL w).length by omega)
    have b0 := q1.1
    have b1 := q1.2
    have hr := hF a _ ha ⟨q1, q2, q3⟩
    have hl := hM.2.1 a
    have hmr := matchW_r w a ((rgL w).getD j 0)
    cases n with
    | zero => omega
    | succ n =>
      have ih := nextL_c (k77 := k77) (Q := Q) h12 hG hF hM ha hN hS r n (j + 1)
      rw [show ((j + 1 : Nat) : Int) = (j : Int) + 1 by omega] at ih
      rw [fX0_asksNext_L7, hG.2.1, if_pos (by omega), grd_pos (by omega), hG.2.2.2 j (by omega), bw_id (z := 12 * a) (by omega) (by omega), bw_id (z := 12 * a + (rgL w).getD j 0) (by omega) (by omega), grd_pos (by omega), grd_pos (by omega), grd_pos (by omega), grd_pos (by omega), (hM.1 a ha.1).2, kb_bit (by omega) (by omega) (by omega) (by omega), Int.toNat_natCast, hr.1, bw_id (z := (j : Int) + 1) (by omega) (by omega)]
      cases z : (A a).testBit ((rgL w).getD j 0).toNat with
      | true =>
        rw [if_pos rfl, if_neg n10]
        refine ih x2 x3 (by omega) (by omega) ?_
        rcases hI with ⟨e1, e2, e3⟩ | ⟨jj, e1, e2, e3, e4, e5, e6⟩
        · refine Or.inl ⟨e1, e2, fun j' hj' => ?_⟩
          by_cases e : j' = j
          · rw [e]; exact Or.inl z
          · exact e3 j' (by omega)
        · refine Or.inr ⟨jj, by omega, e2, e3, e4, e5, fun j' hj' => ?_⟩
          by_cases e : j' = j
          · rw [e]; exact Or.inl z
          · exact e6 j' (by omega)
      | false =>
        rw [if_neg (show ¬ false = true by decide), if_pos p00]
        by_cases c : x3 < matchW w a ((rgL w).getD j 0)
        · rw [if_pos c]
          refine ih _ _ (by omega) (by omega) (Or.inr ⟨j, by omega, rfl, z, rfl, ?_, fun j' hj' => ?_⟩)
          · rcases hI with ⟨e1, e2, e3⟩ | ⟨jj, e1, e2, e3, e4, e5, e6⟩ <;> omega
          · by_cases e : j' = j
            · right; rw [e]; intro q; unfold prfS at q; omega
            · rcases hI with ⟨e1, e2, e3⟩ | ⟨jj, e1, e2, e3, e4, e5, e6⟩
              · rcases e3 j' (by omega) with y | y
                · exact Or.inl y
                · right; intro q; unfold prfS at q; omega
              · rcases e6 j' (by omega) with y | y
                · exact Or.inl y
                · right; intro q; unfold prfS at q y; omega
        · rw [if_neg c]
          refine ih x2 x3 (by omega) (by omega) ?_
          rcases hI with ⟨e1, e2, e3⟩ | ⟨jj, e1, e2, e3, e4, e5, e6⟩
          · refine Or.inl ⟨e1, e2, fun j' hj' => ?_⟩
            by_cases e : j' = j
            · right; rw [e]; omega
            · exact e3 j' (by omega)
          · refine Or.inr ⟨jj, by omega, e2, e3, e4, e5, fun j' hj' => ?_⟩
            by_cases e : j' = j
            · right
              rw [e]
              have := frL_lt (w := w) (s := 1) (n := nP w) (i := jj) (j := j) e1 (show j < (rgL w).length by omega)
              intro q
              have h7 : x2 < (rgL w).getD j 0 := by rw [e2]; exact this
              unfold prfS at q
              omega
            · exact e6 j' (by omega)
theorem asks_c {w : Int → Int} {ρ : Sg} {A : Int → Nat} {H : Int → Int} {a : Int} (h12 : 0 ≤ w 85 ∧ w 85 ≤ 12) (hG : GA w ρ) (hF : ∀ a b, Lp w a → Rp w b → F2 w ρ a b) (hM : MC w ρ A H) (hD : Good w A H) (ha : Lp w a) (hH : H a = -1) : wp (fX0_asksNext a ρ) (fun q => (q.1 = 0 ∧ q.2 = ρ ∧ ∀ b, Rp w b → 0 < matchW w a b → (A a).testBit b.toNat = true) ∨ (q.1 = 1 ∧ Fr [66, 67] ρ q.2 ∧ ∃ A2 H2, MC w q.2 A2 H2 ∧ Good w A2 H2 ∧ bitsA A + 1 ≤ bitsA A2)) := by
  unfold fX0_asksNext
  refine nextL_c h12 hG hF hM ha (fun h => ?_) (fun b hb => ?_) (rgL w).length FU 0 (-1) 0 (by omega) (by have := lr_len h12; unfold FU; omega) (Or.inl ⟨rfl, rfl, fun j' hj' => by omega⟩)
  · show wp (if (-1 : Int) = -1 then _ else _) _
    rw [if_pos rfl, wp_some]
    exact Or.inl ⟨rfl, rfl, h⟩
  · have hR := hb.1
    have a0 := ha.1.1
    have a1 := ha.1.2
    have b0 := hR.1.1
    have b1 := hR.1.2
    have hl := hM.2.1 a
    have hab := LR_ne ha hR
    have hr := hF a b ha hR
    have hm1 := matchW_r w b a
    have mA : ∀ τ, Fr [66] (wr ρ 67 a ((A a ||| 2 ^ b.toNat : Nat) : Int)) τ → ∀ p, isP w p → rd τ 67 p = ((askA A a b p : Nat) : Int) := by
      intro τ hτ p hp
      rw [hτ 67 p (by decide)]
      unfold askA
      by_cases e : p = a
      · have hlt : A a ||| 2 ^ b.toNat < 4096 := Nat.or_lt_two_pow (n := 12) hl (Nat.pow_lt_pow_right (by decide) (by omega))
        rw [if_pos e, e, rq_s, bw_id (by omega) (by omega)]
      · rw [if_neg e, rq_i e]
        exact (hM.1 p hp).2
    have hup := bitsA_up h12.2 ha hb
    have hsub : ∀ A' H', StI w A' H' → Term w A' H' → SubA w (askA A a b) A' := fun A' H' x y => ask_sub hD.1 x y (hD.2 A' H' x y) ha hH hb
    -- the two ends
    have no : (matchW w b a = 0 ∨ H b ≠ -1 ∧ ¬ prfS w b a (H b)) → wp (some ((1 : Int), wr ρ 67 a ((A a ||| 2 ^ b.toNat : Nat) : Int))) (fun q => (q.1 = 0 ∧ q.2 = ρ ∧ ∀ b, Rp w b → 0 < matchW w a b → (A a).testBit b.toNat = true) ∨ (q.1 = 1 ∧ Fr [66, 67] ρ q.2 ∧ ∃ A2 H2, MC w q.2 A2 H2 ∧ Good w A2 H2 ∧ bitsA A + 1 ≤ bitsA A2)) := by
      intro h
      rw [wp_some]
      refine Or.inr ⟨rfl, Fr.rf.wr (by decide), askA A a b, H, ⟨fun p hp => ⟨?_, mA _ Fr.rf p hp⟩, askA_lt hM.2.1 (by omega), hM.2.2⟩, ⟨ask_no hD.1 ha hH hb h, hsub⟩, hup⟩
      rw [rq_c (by decide)]
      exact (hM.1 p hp).1
    have yes : 0 < matchW w b a → (H b = -1 ∨ prfS w b a (H b)) → wp (fX0_asksNext_J161 a b (H b) (wr ρ 67 a ((A a ||| 2 ^ b.toNat : Nat) : Int))) (fun q => (q.1 = 0 ∧ q.2 = ρ ∧ ∀ b, Rp w b → 0 < matchW w a b → (A a).testBit b.toNat = true) ∨ (q.1 = 1 ∧ Fr [66, 67] ρ q.2 ∧ ∃ A2 H2, MC w q.2 A2 H2 ∧ Good w A2 H2 ∧ bitsA A + 1 ≤ bitsA A2)) := by
      intro h0 h
      have hs2 := ask_yes hD.1 ha hH hb h0 h
      have fin : ∀ τ, Fr [66] (wr ρ 67 a ((A a ||| 2 ^ b.toNat : Nat) : Int)) τ → (∀ p, isP w p → rd τ 66 p = (if H b = -1 then H else upz H (H b) (-1)) p) → wp (fX0_asksNext_J175 a b τ) (fun q => (q.1 = 0 ∧ q.2 = ρ ∧ ∀ b, Rp w b → 0 < matchW w a b → (A a).testBit b.toNat = true) ∨ (q.1 = 1 ∧ Fr [66, 67] ρ q.2 ∧ ∃ A2 H2, MC w q.2 A2 H2 ∧ Good w A2 H2 ∧ bitsA A + 1 ≤ bitsA A2)) := by
        intro τ hτ h66
        unfold fX0_asksNext_J175
        rw [grd_pos (by omega), grd_pos (by omega), wp_some]
        have f2 : Fr [66] (wr ρ 67 a ((A a ||| 2 ^ b.toNat : Nat) : Int)) (wr (wr τ 66 b a) 66 a b) := (hτ.wr (by decide)).wr (by decide)
        refine Or.inr ⟨rfl, (Fr.rf.wr (by decide) : Fr [66, 67] ρ (wr ρ 67 a ((A a ||| 2 ^ b.toNat : Nat) : Int))).tr (f2.mo (by decide)), askA A a b, tkeH H a b, ⟨fun p hp => ⟨?_, mA _ f2 p hp⟩, askA_lt hM.2.1 (by omega), fun p hp => ?_⟩, ⟨hs2, hsub⟩, hup⟩
        · rw [wr_row, wr_row, bw_id (z := a) (by omega) (by omega), bw_id (z := b) (by omega) (by omega)]
          unfold tkeH
          show upz (upz _ _ _) _ _ p = upz (upz _ _ _) _ _ p
          unfold upz
          rw [h66 p hp]
          rfl
        · unfold tkeH
          by_cases e1 : p = a
          · rw [e1, upz_s, bw_id (by omega) (by omega)]
          · rw [upz_n e1]
            by_cases e2 : p = b
            · rw [e2, upz_s, bw_id (by omega) (by omega)]
            · rw [upz_n e2]
              by_cases e3 : H b = -1
              · rw [if_pos e3]; exact hM.2.2 p hp
              · rw [if_neg e3]
                by_cases e4 : p = H b
                · rw [e4, upz_s]; rfl
                · rw [upz_n e4]; exact hM.2.2 p hp
      unfold fX0_asksNext_J161
      by_cases e : H b = -1
      · rw [if_pos e]
        refine fin _ Fr.rf (fun p hp => ?_)
        rw [if_pos e, rq_c (by decide)]
        exact (hM.1 p hp).1
      · have ho := ((hD.1.2.1 b hR).resolve_left e).1.1
        have o0 := ho.1
        have o1 := ho.2
        rw [if_neg e, grd_pos (by omega)]
        refine fin _ (Fr.rf.wr (by decide)) (fun p hp => ?_)
        rw [if_neg e, wr_row]
        show upz _ _ _ p = upz _ _ _ p
        unfold upz
        rw [show rd (wr ρ 67 a ((A a ||| 2 ^ b.toNat : Nat) : Int)) 66 p = H p from (rq_c (by decide)).trans (hM.1 p hp).1]
        rfl
    show wp (if b = -1 then _ else _) _
    have eA : bor (rd ρ 67 a) (bshl 1 b) = ((A a ||| 2 ^ b.toNat : Nat) : Int) := by
      rw [(hM.1 a ha.1).2, bor_bit (by omega) (by omega) (by omega) (by omega), Int.toNat_natCast]
    rw [if_neg (by omega), grd_pos (by omega), grd_pos (by omega), eA, bw_id (z := 12 * b) (by omega) (by omega), bw_id (z := 12 * b + a) (by omega) (by omega), grd_pos (by omega), grd_pos (by omega)]
    have e66 : rd (wr ρ 67 a ((A a ||| 2 ^ b.toNat : Nat) : Int)) 66 b = H b := (rq_c (by decide)).trans (hM.1 b hR.1).1
    have e68 : ∀ j, rd (wr ρ 67 a ((A a ||| 2 ^ b.toNat : Nat) : Int)) 68 j = rd ρ 68 j := fun j => rq_c (by decide)
    rw [e66, e68, e68, hr.2]
    by_cases e : H b = -1
    · rw [if_pos e]
      unfold fX0_asksNext_J139
      by_cases c : 0 < matchW w b a
      · rw [if_pos c]
        exact yes c (Or.inl e)
      · rw [if_neg c, if_pos (by omega), if_neg (by omega)]
        exact no (Or.inl (by omega))
    · obtain ⟨ho, ho2⟩ := (hD.1.2.1 b hR).resolve_left e
      have hr2 := hF (H b) b ho hR
      have h4 := (hD.1.2.2.2.1 b hR e).2
      have o0 := ho.1.1
      have o1 := ho.1.2
      rw [if_neg e, bw_id (z := 12 * b + H b) (by omega) (by omega), grd_pos (by omega), hr2.2]
      unfold fX0_asksNext_J139
      by_cases c : matchW w b (H b) < matchW w b a
      · rw [if_pos c]
        exact yes (by omega) (Or.inr (Or.inl c))
      · rw [if_neg c]
        by_cases c2 : matchW w b a = matchW w b (H b)
        · rw [if_pos c2]
          by_cases c3 : a < H b
          · rw [if_pos c3]
            exact yes (by omega) (Or.inr (Or.inr ⟨c2.symm, c3⟩))
          · rw [if_neg c3]
            exact no (Or.inr ⟨e, fun z => by unfold prfS at z; omega⟩)
        · rw [if_neg c2]
          exact no (Or.inr ⟨e, fun z => by unfold prfS at z; omega⟩)
