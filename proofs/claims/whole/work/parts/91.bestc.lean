/-! best: the class -/
abbrev nP (w : Int → Int) : Nat := (w 85).toNat
abbrev lfL (w : Int → Int) : List Int := frL w 0 (nP w)
abbrev rgL (w : Int → Int) : List Int := frL w 1 (nP w)
theorem idx_or {i k set j : Nat} (hs : set < 2 ^ k) (hj : j < k) : i * 2 ^ k + set ||| 2 ^ j = i * 2 ^ k + (set ||| 2 ^ j) := by
  have h2 : set ||| 2 ^ j < 2 ^ k := Nat.or_lt_two_pow hs (Nat.pow_lt_pow_right (by decide) hj)
  rw [← Nat.shiftLeft_eq, Nat.shiftLeft_add_eq_or_of_lt hs, Nat.or_assoc, ← Nat.shiftLeft_add_eq_or_of_lt h2]
def GA (w : Int → Int) (ρ : Sg) : Prop := rd ρ 65 5 = ((lfL w).length : Int) ∧ rd ρ 65 6 = ((rgL w).length : Int) ∧ (∀ i : Nat, i < (lfL w).length → rd ρ 69 i = (lfL w).getD i 0) ∧ (∀ j : Nat, j < (rgL w).length → rd ρ 70 j = (rgL w).getD j 0)
theorem GA_fr {w : Int → Int} {l : List Nat} {ρ τ : Sg} (h : GA w ρ) (hF : Fr l ρ τ) (h65 : 65 ∉ l) (h69 : 69 ∉ l) (h70 : 70 ∉ l) : GA w τ :=
  ⟨(hF 65 5 h65).trans h.1, (hF 65 6 h65).trans h.2.1, fun i hi => (hF 69 _ h69).trans (h.2.2.1 i hi), fun j hj => (hF 70 _ h70).trans (h.2.2.2 j hj)⟩
theorem side_mem {w : Int → Int} {s : Int} (h12 : 0 ≤ w 85 ∧ w 85 ≤ 12) {i : Nat} (hi : i < (frL w s (nP w)).length) : isP w ((frL w s (nP w)).getD i 0) ∧ w (68 + (frL w s (nP w)).getD i 0) = -1 ∧ w (91 + (frL w s (nP w)).getD i 0) = s := by
  rw [getD_ge hi]
  have := frL_mem.mp (List.getElem_mem hi)
  have h1 := this.1.2
  have h3 : ((nP w : Nat) : Int) = w 85 := by
    show (((w 85).toNat : Nat) : Int) = w 85
    omega
  exact ⟨⟨this.1.1, h3 ▸ h1⟩, this.2⟩
theorem lf_mem {w : Int → Int} (h12 : 0 ≤ w 85 ∧ w 85 ≤ 12) {i : Nat} (hi : i < (lfL w).length) : isP w ((lfL w).getD i 0) ∧ w (68 + (lfL w).getD i 0) = -1 ∧ w (91 + (lfL w).getD i 0) = 0 := side_mem h12 hi
theorem rg_mem {w : Int → Int} (h12 : 0 ≤ w 85 ∧ w 85 ≤ 12) {i : Nat} (hi : i < (rgL w).length) : isP w ((rgL w).getD i 0) ∧ w (68 + (rgL w).getD i 0) = -1 ∧ w (91 + (rgL w).getD i 0) = 1 := side_mem h12 hi
theorem lr_len {w : Int → Int} (h12 : 0 ≤ w 85 ∧ w 85 ≤ 12) : (lfL w).length + (rgL w).length ≤ 12 := by
  have h1 := frL_two (w := w) (w 85).toNat
  have h2 : (lfL w).length = (frL w 0 (w 85).toNat).length := rfl
  have h3 : (rgL w).length = (frL w 1 (w 85).toNat).length := rfl
  omega
def BF (w : Int → Int) (ρ : Sg) : Prop := ∀ i j : Nat, i < (lfL w).length → j < (rgL w).length → rd ρ 68 (12 * (lfL w).getD i 0 + (rgL w).getD j 0) = foundW w ((lfL w).getD i 0) ((rgL w).getD j 0)
theorem fitIn_c {m : Int} {w : Int → Int} {σ0 : Sg} {i : Nat} {k10 : Int → Sg → Option (Int × Sg)} {Q : Int × Sg → Prop} (hC : CW m w σ0 1) (hG : GA w σ0) (hi : i < (lfL w).length) : ∀ (r n j : Nat) (ρ : Sg), j + r = (rgL w).length → r < n → Fr [16, 17, 68] σ0 ρ → (∀ i' j' : Nat, i' < (lfL w).length → j' < (rgL w).length → i' < i ∨ i' = i ∧ j' < j → rd ρ 68 (12 * (lfL w).getD i' 0 + (rgL w).getD j' 0) = foundW w ((lfL w).getD i' 0) ((rgL w).getD j' 0)) → (∀ τ, Fr [16, 17, 68] σ0 τ → (∀ i' j' : Nat, i' < (lfL w).length → j' < (rgL w).length → i' < i + 1 → rd τ 68 (12 * (lfL w).getD i' 0 + (rgL w).getD j' 0) = foundW w ((lfL w).getD i' 0) ((rgL w).getD j' 0)) → wp (k10 ((i + 1 : Nat) : Int) τ) Q) → wp (fX0_pair_L20 1 k10 (i : Int) n (j : Int) ρ) Q
  | 0, n, j, ρ, hj, hn, hF, hB, hk => by
    have h12 := hC.1.1.2.2.2.2.2.1
    have l0 := lr_len h12
    cases n with
    | zero => omega
    | succ n =>
      have e6 : rd ρ 65 6 = ((rgL w).length : Int) := (hF 65 6 (by decide)).trans hG.2.1
      rw [fX0_pair_L20, e6, if_neg (by omega), bw_id (z := (i : Int) + 1) (by omega) (by omega), show (i : Int) + 1 = ((i + 1 : Nat) : Int) by omega]
      exact hk ρ hF (fun i' j' a b c => hB i' j' a b (by omega))
  | r + 1, n, j, ρ, hj, hn, hF, hB, hk => by
    have h12 := hC.1.1.2.2.2.2.2.1
    have l0 := lr_len h12
    obtain ⟨pa, -, -⟩ := lf_mem h12 hi
    obtain ⟨pb, -, -⟩ := rg_mem h12 (show j < (rgL w).length by omega)
    have a0 := pa.1
    have a1 := pa.2
    have b0 := pb.1
    have b1 := pb.2
    cases n with
    | zero => omega
    | succ n =>
      have e6 : rd ρ 65 6 = ((rgL w).length : Int) := (hF 65 6 (by decide)).trans hG.2.1
      have e69 : rd ρ 69 (i : Int) = (lfL w).getD i 0 := (hF 69 _ (by decide)).trans (hG.2.2.1 i hi)
      have e70 : rd ρ 70 (j : Int) = (rgL w).getD j 0 := (hF 70 _ (by decide)).trans (hG.2.2.2 j (by omega))
      rw [fX0_pair_L20, e6, if_pos (by omega), grd_pos (by omega), grd_pos (by omega), grd_pos (by omega), grd_pos (by omega), e69, e70, wp_bind]
      refine wp_mono (foundOf_c (hC.fr hF (by decide)) pa pb) (fun q hq => ?_)
      have hf := foundW_r w ((lfL w).getD i 0) ((rgL w).getD j 0)
      rw [bw_id (z := 12 * (lfL w).getD i 0) (by omega) (by omega), bw_id (z := 12 * (lfL w).getD i 0 + (rgL w).getD j 0) (by omega) (by omega), grd_pos (by omega), bw_id (z := (j : Int) + 1) (by omega) (by omega), show (j : Int) + 1 = ((j + 1 : Nat) : Int) by omega, hq.1]
      refine fitIn_c hC hG hi r n (j + 1) _ (by omega) (by omega) ((hF.tr (hq.2.mo (by decide))).wr (by decide)) (fun i' j' x y z => ?_) hk
      obtain ⟨pa', -, -⟩ := lf_mem h12 x
      obtain ⟨pb', -, -⟩ := rg_mem h12 y
      have a0' := pa'.1
      have a1' := pa'.2
      have b0' := pb'.1
      have b1' := pb'.2
      by_cases e : 12 * (lfL w).getD i' 0 + (rgL w).getD j' 0 = 12 * (lfL w).getD i 0 + (rgL w).getD j 0
      · have ea : (lfL w).getD i' 0 = (lfL w).getD i 0 := by omega
        have eb : (rgL w).getD j' 0 = (rgL w).getD j 0 := by omega
        rw [ea, eb, rq_s, bw_id (by omega) (by omega)]
      · rw [rq_i e, hq.2 68 _ (by decide)]
        refine hB i' j' x y ?_
        rcases z with z | z
        · exact Or.inl z
        · refine Or.inr ⟨z.1, ?_⟩
          by_cases e2 : j' = j
          · rw [z.1, e2] at e; exact absurd rfl e
          · omega
theorem fitAll_c {m : Int} {w : Int → Int} {σ0 : Sg} {k77 : Sg → Option (Int × Sg)} {Q : Int × Sg → Prop} (hC : CW m w σ0 1) (hG : GA w σ0) (hk : ∀ τ, Fr [16, 17, 68] σ0 τ → BF w τ → wp (k77 τ) Q) : ∀ (r n i : Nat) (ρ : Sg), i + r = (lfL w).length → r < n → Fr [16, 17, 68] σ0 ρ → (∀ i' j' : Nat, i' < (lfL w).length → j' < (rgL w).length → i' < i → rd ρ 68 (12 * (lfL w).getD i' 0 + (rgL w).getD j' 0) = foundW w ((lfL w).getD i' 0) ((rgL w).getD j' 0)) → wp (fX0_pair_L10 1 k77 n (i : Int) ρ) Q
  | 0, n, i, ρ, hi, hn, hF, hB => by
    cases n with
    | zero => omega
    | succ n =>
      rw [fX0_pair_L10, hF 65 5 (by decide), hG.1, if_neg (by omega)]
      exact hk ρ hF (fun i' j' a b => hB i' j' a b (by omega))
  | r + 1, n, i, ρ, hi, hn, hF, hB => by
    have h12 := hC.1.1.2.2.2.2.2.1
    have l0 := lr_len h12
    cases n with
    | zero => omega
    | succ n =>
      rw [fX0_pair_L10, hF 65 5 (by decide), hG.1, if_pos (by omega)]
      exact fitIn_c hC hG (by omega) (rgL w).length FU 0 ρ (by omega) (by unfold FU; omega) hF (fun i' j' a b c => hB i' j' a b (by omega)) (fun τ hτ hB2 => fitAll_c hC hG hk r n (i + 1) τ (by omega) (by omega) hτ hB2)
def SI (w : Int → Int) (i : Nat) (ρ : Sg) : Prop := ∀ i' set m : Nat, i ≤ i' → i' ≤ (lfL w).length → set < 2 ^ (rgL w).length → (cntN set 12 ≤ i' ∨ i' = (lfL w).length) → Rel (rgL w) set m → rd ρ 71 ((i' * 2 ^ (rgL w).length + set : Nat) : Int) = Bs w (rgL w) ((lfL w).drop i') m
theorem sumWith_c {w : Int → Int} {ρ : Sg} {i j set m : Nat} (h12 : 0 ≤ w 85 ∧ w 85 ≤ 12) (hG : GA w ρ) (hB : BF w ρ) (hS : SI w (i + 1) ρ) (hi : i < (lfL w).length) (hj : j < (rgL w).length) (hs : set < 2 ^ (rgL w).length) (hc : cntN set 12 ≤ i) (hb : set.testBit j = false) (hR : Rel (rgL w) set m) : fX0_sumWith (i : Int) (j : Int) (set : Int) ρ = some (foundW w ((lfL w).getD i 0) ((rgL w).getD j 0) + Bs w (rgL w) ((lfL w).drop (i + 1)) (mdel m ((rgL w).getD j 0))) := by
  have l0 := lr_len h12
  obtain ⟨pa, -, -⟩ := lf_mem h12 hi
  obtain ⟨pb, -, -⟩ := rg_mem h12 hj
  have a0 := pa.1
  have a1 := pa.2
  have b0 := pb.1
  have b1 := pb.2
  have hs2 : set ||| 2 ^ j < 2 ^ (rgL w).length := Nat.or_lt_two_pow hs (Nat.pow_lt_pow_right (by decide) hj)
  have ilt := idx_lt (l := (lfL w).length) (k := (rgL w).length) (i := i + 1) (set := set ||| 2 ^ j) (by omega) (by omega) hs2
  have ilt2 := idx_lt (l := (lfL w).length) (k := (rgL w).length) (i := i + 1) (set := set) (by omega) (by omega) hs
  have e71 := hS (i + 1) (set ||| 2 ^ j) (mdel m ((rgL w).getD j 0)) (Nat.le_refl _) (by omega) hs2 (Or.inl (by rw [cntN_or]; split <;> omega)) (Rel_del hR hj)
  have hf := foundW_r w ((lfL w).getD i 0) ((rgL w).getD j 0)
  have hr := Bs_r (w := w) (R := rgL w) ((lfL w).drop (i + 1)) (mdel m ((rgL w).getD j 0))
  rw [List.length_drop] at hr
  unfold fX0_sumWith
  rw [bw_id (z := (i : Int) + 1) (by omega) (by omega), hG.2.1, hG.2.2.1 i hi, hG.2.2.2 j hj, show (i : Int) + 1 = ((i + 1 : Nat) : Int) by omega, idx_b (i := i + 1) (by omega) (by omega) hs, bor_bit (by omega) (by omega) (by omega) (by omega), Int.toNat_natCast, Int.toNat_natCast, idx_or hs hj, bw_id (z := 12 * (lfL w).getD i 0) (by omega) (by omega), bw_id (z := 12 * (lfL w).getD i 0 + (rgL w).getD j 0) (by omega) (by omega), grd_pos (by omega), grd_pos (by omega), grd_pos (by omega), grd_pos (by omega), hB i j hi hj, e71, bw_id (by omega) (by omega)]
theorem drop_at {l : List Int} {i : Nat} (hi : i < l.length) : l.drop i = l.getD i 0 :: l.drop (i + 1) := by
  rw [List.drop_eq_getElem_cons hi, getD_ge hi]
theorem greatest_b {w : Int → Int} {ρ : Sg} {i set m : Nat} (h12 : 0 ≤ w 85 ∧ w 85 ≤ 12) (hG : GA w ρ) (hB : BF w ρ) (hS : SI w (i + 1) ρ) (hi : i < (lfL w).length) (hs : set < 2 ^ (rgL w).length) (hc : cntN set 12 ≤ i) (hR : Rel (rgL w) set m) : fX0_greatestSum (i : Int) (set : Int) ρ = some (Bs w (rgL w) ((lfL w).drop i) m) := by
  have l0 := lr_len h12
  have k12 : 2 ^ (rgL w).length ≤ 2 ^ 12 := Nat.pow_le_pow_right (by decide) (by omega)
  have go : ∀ (r n j : Nat) (acc : Int), j + r = (rgL w).length → r < n → fX0_greatestSum_L19 ρ (i : Int) (set : Int) n acc (j : Int) = some (((rgL w).drop j).foldl (fun acc b => if m.testBit b.toNat = true then max acc (foundW w ((lfL w).getD i 0) b + Bs w (rgL w) ((lfL w).drop (i + 1)) (mdel m b)) else acc) acc) := by
    intro r
    induction r with
    | zero =>
      intro n j acc hj hn
      cases n with
      | zero => omega
      | succ n =>
        rw [fX0_greatestSum_L19, hG.2.1, if_neg (by omega), List.drop_eq_nil_of_le (show (rgL w).length ≤ j by omega)]
        rfl
    | succ r ih =>
      intro n j acc hj hn
      cases n with
      | zero => omega
      | succ n =>
        have hb := hR.2 j (by omega)
        rw [fX0_greatestSum_L19, hG.2.1, if_pos (by omega), kb_bit (by omega) (by omega) (by omega) (by omega), Int.toNat_natCast, Int.toNat_natCast, bw_id (z := (j : Int) + 1) (by omega) (by omega), show (j : Int) + 1 = ((j + 1 : Nat) : Int) by omega, drop_at (l := rgL w) (i := j) (by omega), List.foldl_cons]
        cases z : m.testBit ((rgL w).getD j 0).toNat with
        | true =>
          rw [z] at hb
          have hb : set.testBit j = false := hb
          rw [hb, if_neg (show ¬ false = true by decide), if_pos p00, sumWith_c h12 hG hB hS hi (by omega) hs hc hb hR, Option.bind_some, max_eq]
          simp only [if_true]
          exact ih n (j + 1) _ (by omega) (by omega)
        | false =>
          rw [z] at hb
          have hb : set.testBit j = true := hb
          rw [hb, if_pos rfl, if_neg n10]
          simp only [Bool.false_eq_true, if_false]
          exact ih n (j + 1) _ (by omega) (by omega)
  have ilt2 := idx_lt (l := (lfL w).length) (k := (rgL w).length) (i := i + 1) (set := set) (by omega) (by omega) hs
  unfold fX0_greatestSum
  rw [bw_id (z := (i : Int) + 1) (by omega) (by omega), hG.2.1, show (i : Int) + 1 = ((i + 1 : Nat) : Int) by omega, idx_b (i := i + 1) (by omega) (by omega) hs, grd_pos (by omega), hS (i + 1) set m (Nat.le_refl _) (by omega) hs (Or.inl (by omega)) hR, show (0 : Int) = ((0 : Nat) : Int) from rfl, go (rgL w).length FU 0 _ (by omega) (by unfold FU; omega), List.drop_zero, drop_at hi, Bs]
