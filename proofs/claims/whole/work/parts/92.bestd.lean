/-! best: the tables and the way of the class -/
theorem set_lt {w : Int → Int} (h12 : 0 ≤ w 85 ∧ w 85 ≤ 12) : 2 ^ (rgL w).length ≤ 4096 := by
  have l0 := lr_len h12
  exact Nat.pow_le_pow_right (n := 2) (j := 12) (by decide) (by omega)
theorem rg_inj {w : Int → Int} (h12 : 0 ≤ w 85 ∧ w 85 ≤ 12) {i j : Nat} (hi : i < (rgL w).length) (hj : j < (rgL w).length) (h : ((rgL w).getD i 0).toNat = ((rgL w).getD j 0).toNat) : i = j := by
  have m1 := (rg_mem h12 hi).1.1
  have m2 := (rg_mem h12 hj).1.1
  exact frL_inj hi hj (show (rgL w).getD i 0 = (rgL w).getD j 0 by omega)
theorem Rel_ex {w : Int → Int} {s : Nat} (h12 : 0 ≤ w 85 ∧ w 85 ≤ 12) : ∃ m, Rel (rgL w) s m := by
  have go : ∀ n : Nat, n ≤ (rgL w).length → ∃ m : Nat, m < 4096 ∧ (∀ j : Nat, j < n → s.testBit j = !m.testBit ((rgL w).getD j 0).toNat) ∧ ∀ j : Nat, n ≤ j → j < (rgL w).length → m.testBit ((rgL w).getD j 0).toNat = false := by
    intro n
    induction n with
    | zero => intro _; exact ⟨0, by decide, fun j hj => by omega, fun j _ _ => by simp⟩
    | succ n ih =>
      intro hn
      obtain ⟨m, m1, m2, m3⟩ := ih (by omega)
      have pb := (rg_mem h12 (show n < (rgL w).length by omega)).1
      have b0 := pb.1
      have b1 := pb.2
      cases z : s.testBit n with
      | true =>
        refine ⟨m, m1, fun j hj => ?_, fun j a b => m3 j (by omega) b⟩
        by_cases e : j = n
        · rw [e, z, m3 n (Nat.le_refl _) (by omega)]; rfl
        · exact m2 j (by omega)
      | false =>
        refine ⟨m ||| 2 ^ ((rgL w).getD n 0).toNat, Nat.or_lt_two_pow (n := 12) m1 (Nat.pow_lt_pow_right (by decide) (by omega)), fun j hj => ?_, fun j a b => ?_⟩
        · rw [Nat.testBit_or, Nat.testBit_two_pow]
          by_cases e : j = n
          · rw [e, z]; simp
          · rw [decide_eq_false (fun q => e (rg_inj h12 (by omega) (by omega) q.symm)), Bool.or_false]
            exact m2 j (by omega)
        · rw [Nat.testBit_or, Nat.testBit_two_pow, m3 j (by omega) b, decide_eq_false (fun q => by have := rg_inj h12 (by omega) b q; omega)]
          rfl
  obtain ⟨m, m1, m2, -⟩ := go (rgL w).length (Nat.le_refl _)
  exact ⟨m, m1, m2⟩
theorem zero_b {m : Int} {w : Int → Int} {σ0 : Sg} {k114 : Sg → Option (Int × Sg)} {Q : Int × Sg → Prop} (hC : CW m w σ0 1) (hG : GA w σ0) (hk : ∀ τ, Fr [71] σ0 τ → SI w (lfL w).length τ → wp (k114 τ) Q) : ∀ (r n s : Nat) (ρ : Sg), s + r = 2 ^ (rgL w).length → r < n → Fr [71] σ0 ρ → (∀ t : Nat, t < s → rd ρ 71 (((lfL w).length * 2 ^ (rgL w).length + t : Nat) : Int) = 0) → wp (fX0_pair_L86 1 k114 ((2 ^ (rgL w).length : Nat) : Int) n (s : Int) ρ) Q
  | 0, n, s, ρ, hs, hn, hF, hZ => by
    cases n with
    | zero => omega
    | succ n =>
      rw [fX0_pair_L86, if_neg (by omega)]
      refine hk ρ hF (fun i' set m a b c d e => ?_)
      have : i' = (lfL w).length := by omega
      subst this
      rw [hZ set (by omega), List.drop_length, Bs]
  | r + 1, n, s, ρ, hs, hn, hF, hZ => by
    have h12 := hC.1.1.2.2.2.2.2.1
    have l0 := lr_len h12
    have hk4 := set_lt h12
    have il := idx_lt (l := (lfL w).length) (k := (rgL w).length) (i := (lfL w).length) (set := s) l0 (Nat.le_refl _) (by omega)
    cases n with
    | zero => omega
    | succ n =>
      rw [fX0_pair_L86, if_pos (by omega), hF 65 5 (by decide), hF 65 6 (by decide), hG.1, hG.2.1, idx_b (i := (lfL w).length) (by omega) (by omega) (by omega), grd_pos (by omega), bw_id (z := (s : Int) + 1) (by omega) (by omega), show (s : Int) + 1 = ((s + 1 : Nat) : Int) by omega]
      refine zero_b hC hG hk r n (s + 1) _ (by omega) (by omega) (hF.wr (by decide)) (fun t ht => ?_)
      by_cases e : t = s
      · rw [e, rq_s]; rfl
      · rw [rq_i (by omega)]; exact hZ t (by omega)
theorem row_b {m : Int} {w : Int → Int} {σ0 : Sg} {i : Nat} {k121 : Int → Sg → Option (Int × Sg)} {Q : Int × Sg → Prop} (hC : CW m w σ0 1) (hG : GA w σ0) (hB : BF w σ0) (hi : i < (lfL w).length) (hk : ∀ τ, Fr [71] σ0 τ → SI w i τ → wp (k121 ((i : Int) - 1) τ) Q) : ∀ (r n s : Nat) (ρ : Sg), s + r = 2 ^ (rgL w).length → r < n → Fr [71] σ0 ρ → SI w (i + 1) ρ → (∀ t m : Nat, t < s → cntN t 12 ≤ i → Rel (rgL w) t m → rd ρ 71 ((i * 2 ^ (rgL w).length + t : Nat) : Int) = Bs w (rgL w) ((lfL w).drop i) m) → wp (fX0_pair_L128 1 k121 ((2 ^ (rgL w).length : Nat) : Int) (i : Int) n (s : Int) ρ) Q
  | 0, n, s, ρ, hs, hn, hF, hS, hZ => by
    have h12 := hC.1.1.2.2.2.2.2.1
    have l0 := lr_len h12
    cases n with
    | zero => omega
    | succ n =>
      rw [fX0_pair_L128, if_neg (by omega), show (i : Int) + -1 = (i : Int) - 1 by omega, bw_id (z := (i : Int) - 1) (by omega) (by omega)]
      refine hk ρ hF (fun i' set m a b c d e => ?_)
      by_cases z : i' = i
      · subst z
        exact hZ set m (by omega) (by omega) e
      · exact hS i' set m (by omega) b c d e
  | r + 1, n, s, ρ, hs, hn, hF, hS, hZ => by
    have h12 := hC.1.1.2.2.2.2.2.1
    have l0 := lr_len h12
    have hk4 := set_lt h12
    have il := idx_lt (l := (lfL w).length) (k := (rgL w).length) (i := i) (set := s) l0 (by omega) (by omega)
    cases n with
    | zero => omega
    | succ n =>
      have hG2 : GA w ρ := GA_fr hG hF (by decide) (by decide) (by decide)
      have hB2 : BF w ρ := fun a b x y => (hF 68 _ (by decide)).trans (hB a b x y)
      rw [fX0_pair_L128, if_pos (by omega), bitc (show s < 4096 by omega), bw_id (z := (s : Int) + 1) (by omega) (by omega), show (s : Int) + 1 = ((s + 1 : Nat) : Int) by omega]
      by_cases c : cntN s 12 ≤ i
      · rw [if_neg (by omega)]
        -- any mask that fits
        have hex : ∀ m, Rel (rgL w) s m → fX0_greatestSum (i : Int) (s : Int) ρ = some (Bs w (rgL w) ((lfL w).drop i) m) := fun m hm => greatest_b h12 hG2 hB2 hS hi (by omega) c hm
        obtain ⟨v, hv, hvr⟩ : ∃ v : Int, fX0_greatestSum (i : Int) (s : Int) ρ = some v ∧ (0 ≤ v ∧ v ≤ 108) := by
          obtain ⟨m0, hm0⟩ := Rel_ex (w := w) (s := s) h12
          have hb := Bs_r (w := w) (R := rgL w) ((lfL w).drop i) m0
          rw [List.length_drop] at hb
          exact ⟨_, hex m0 hm0, hb.1, by omega⟩
        rw [hv, Option.bind_some, hG2.2.1, idx_b (i := i) (by omega) (by omega) (by omega), grd_pos (by omega)]
        refine row_b hC hG hB hi hk r n (s + 1) _ (by omega) (by omega) (hF.wr (by decide)) (fun i' set m a b c d e => ?_) (fun t m ht hc hR => ?_)
        · rw [rq_i (fun z => by
            have := idx_inj (k := (rgL w).length) (i := i') (i2 := i) (s := set) (s2 := s) c (by omega) (by omega)
            omega)]
          exact hS i' set m a b c d e
        · by_cases e : t = s
          · subst e
            have := hex m hR
            rw [hv] at this
            rw [rq_s, bw_id (by omega) (by omega)]
            exact Option.some.inj this
          · rw [rq_i (by omega)]
            exact hZ t m (by omega) hc hR
      · rw [if_pos (by omega)]
        refine row_b hC hG hB hi hk r n (s + 1) ρ (by omega) (by omega) hF hS (fun t m ht hc hR => ?_)
        by_cases e : t = s
        · rw [e] at hc; omega
        · exact hZ t m (by omega) hc hR
theorem rows_b {m : Int} {w : Int → Int} {σ0 : Sg} {k176 : Sg → Option (Int × Sg)} {Q : Int × Sg → Prop} (hC : CW m w σ0 1) (hG : GA w σ0) (hB : BF w σ0) (hk : ∀ τ, Fr [71] σ0 τ → SI w 0 τ → wp (k176 τ) Q) : ∀ (i n : Nat) (ρ : Sg), i ≤ (lfL w).length → i < n → Fr [71] σ0 ρ → SI w i ρ → wp (fX0_pair_L121 1 k176 ((2 ^ (rgL w).length : Nat) : Int) n ((i : Int) - 1) ρ) Q
  | 0, n, ρ, hi, hn, hF, hS => by
    cases n with
    | zero => omega
    | succ n =>
      rw [fX0_pair_L121, if_pos (by omega)]
      exact hk ρ hF hS
  | i + 1, n, ρ, hi, hn, hF, hS => by
    have h12 := hC.1.1.2.2.2.2.2.1
    have hk4 := set_lt h12
    cases n with
    | zero => omega
    | succ n =>
      rw [fX0_pair_L121, if_neg (by omega), show ((i + 1 : Nat) : Int) - 1 = (i : Int) by omega]
      exact row_b (σ0 := ρ) (hC.fr hF (by decide)) (GA_fr hG hF (by decide) (by decide) (by decide)) (fun a b x y => (hF 68 _ (by decide)).trans (hB a b x y)) (by omega) (fun τ hτ hS2 => rows_b hC hG hB hk i n τ (by omega) (by omega) (hF.tr hτ) hS2) (2 ^ (rgL w).length) FU 0 ρ (by omega) (by unfold FU; omega) Fr.rf hS (fun t m ht => by omega)
/-- the first way -/
theorem find_b {w : Int → Int} {ρ : Sg} {i set m : Nat} {k4 : Int → Int → Sg → Option Sg} {k59 : Int → Sg → Option Sg} {Q : Sg → Prop} (h12 : 0 ≤ w 85 ∧ w 85 ≤ 12) (hG : GA w ρ) (hB : BF w ρ) (hS : SI w 0 ρ) (hi : i < (lfL w).length) (hs : set < 2 ^ (rgL w).length) (hc : cntN set 12 ≤ i) (hR : Rel (rgL w) set m) : ∀ (r n j : Nat), j + r = (rgL w).length → r < n → (((rgL w).drop j).find? (tkF w (rgL w) ((lfL w).getD i 0) ((lfL w).drop (i + 1)) m) = none → wp (k4 (set : Int) ((i : Int) + 1) ρ) Q) → (∀ jj : Nat, jj < (rgL w).length → set.testBit jj = false → ((rgL w).drop j).find? (tkF w (rgL w) ((lfL w).getD i 0) ((lfL w).drop (i + 1)) m) = some ((rgL w).getD jj 0) → wp (k59 (jj : Int) ρ) Q) → wp (fX0_takeFirstWay_L29 k4 k59 (set : Int) (i : Int) (Bs w (rgL w) ((lfL w).drop i) m) n (j : Int) ρ) Q
  | 0, n, j, hj, hn, hN, hS2 => by
    have l0 := lr_len h12
    cases n with
    | zero => omega
    | succ n =>
      rw [fX0_takeFirstWay_L29, hG.2.1, if_neg (by omega), bw_id (z := (i : Int) + 1) (by omega) (by omega)]
      exact hN (by rw [List.drop_eq_nil_of_le (show (rgL w).length ≤ j by omega)]; rfl)
  | r + 1, n, j, hj, hn, hN, hS2 => by
    have l0 := lr_len h12
    have hk4 := set_lt h12
    have hb := hR.2 j (by omega)
    cases n with
    | zero => omega
    | succ n =>
      have eq : (rgL w).drop j = (rgL w).getD j 0 :: (rgL w).drop (j + 1) := drop_at (by omega)
      rw [fX0_takeFirstWay_L29, hG.2.1, if_pos (by omega), kb_bit (by omega) (by omega) (by omega) (by omega), Int.toNat_natCast, Int.toNat_natCast, bw_id (z := (j : Int) + 1) (by omega) (by omega), show (j : Int) + 1 = ((j + 1 : Nat) : Int) by omega]
      have nx : tkF w (rgL w) ((lfL w).getD i 0) ((lfL w).drop (i + 1)) m ((rgL w).getD j 0) = false → wp (fX0_takeFirstWay_L29 k4 k59 (set : Int) (i : Int) (Bs w (rgL w) ((lfL w).drop i) m) n ((j + 1 : Nat) : Int) ρ) Q := fun e => by
        rw [eq, List.find?_cons, e] at hN
        refine find_b h12 hG hB hS hi hs hc hR r n (j + 1) (by omega) (by omega) hN (fun jj a b c => hS2 jj a b ?_)
        rw [eq, List.find?_cons, e]
        exact c
      cases z : m.testBit ((rgL w).getD j 0).toNat with
      | true =>
        rw [z] at hb
        have hb : set.testBit j = false := hb
        rw [hb, if_neg (show ¬ false = true by decide), if_pos p00, sumWith_c h12 hG hB (fun i' s2 m2 a b c d e => hS i' s2 m2 (by omega) b c d e) hi (by omega) hs hc hb hR, Option.bind_some]
        by_cases y : foundW w ((lfL w).getD i 0) ((rgL w).getD j 0) + Bs w (rgL w) ((lfL w).drop (i + 1)) (mdel m ((rgL w).getD j 0)) = Bs w (rgL w) ((lfL w).drop i) m
        · rw [if_pos y]
          refine hS2 j (by omega) hb ?_
          have : tkF w (rgL w) ((lfL w).getD i 0) ((lfL w).drop (i + 1)) m ((rgL w).getD j 0) = true := by
            unfold tkF
            rw [z, ← drop_at hi, decide_eq_true y]
            rfl
          rw [eq, List.find?_cons, this]
        · rw [if_neg y]
          refine nx ?_
          unfold tkF
          rw [z, ← drop_at hi, decide_eq_false y]
          rfl
      | false =>
        rw [z] at hb
        have hb : set.testBit j = true := hb
        rw [hb, if_pos rfl, if_neg n10]
        refine nx ?_
        unfold tkF
        rw [z]
        rfl
theorem tkH_s {w : Int → Int} {R : List Int} {a b : Int} {t : List Int} {m : Nat} {H : Int → Int} (h : R.find? (tkF w R a t m) = some b) : tkH w R (a :: t) m H = tkH w R t (mdel m b) (upz (upz H a b) b a) := by rw [tkH, h]
theorem tkH_n {w : Int → Int} {R : List Int} {a : Int} {t : List Int} {m : Nat} {H : Int → Int} (h : R.find? (tkF w R a t m) = none) : tkH w R (a :: t) m H = tkH w R t m H := by rw [tkH, h]
theorem take_b {w : Int → Int} {ρ0 : Sg} (h12 : 0 ≤ w 85 ∧ w 85 ≤ 12) (hG0 : GA w ρ0) (hB0 : BF w ρ0) (hS0 : SI w 0 ρ0) : ∀ (r n i set m : Nat) (H : Int → Int) (ρ : Sg), i + r = (lfL w).length → r < n → set < 2 ^ (rgL w).length → cntN set 12 ≤ i → Rel (rgL w) set m → Fr [66] ρ0 ρ → (∀ p : Int, isP w p → rd ρ 66 p = H p) → wp (fX0_takeFirstWay_L4 n (set : Int) (i : Int) ρ) (fun τ => Fr [66] ρ0 τ ∧ ∀ p : Int, isP w p → rd τ 66 p = tkH w (rgL w) ((lfL w).drop i) m H p)
  | 0, n, i, set, m, H, ρ, hi, hn, hs, hc, hR, hF, hH => by
    cases n with
    | zero => omega
    | succ n =>
      rw [fX0_takeFirstWay_L4, hF 65 5 (by decide), hG0.1, if_neg (by omega), wp_some, List.drop_eq_nil_of_le (show (lfL w).length ≤ i by omega)]
      exact ⟨hF, hH⟩
  | r + 1, n, i, set, m, H, ρ, hi, hn, hs, hc, hR, hF, hH => by
    have l0 := lr_len h12
    have hk4 := set_lt h12
    have il := idx_lt (l := (lfL w).length) (k := (rgL w).length) (i := i) (set := set) l0 (by omega) hs
    have hG : GA w ρ := GA_fr hG0 hF (by decide) (by decide) (by decide)
    have hB : BF w ρ := fun a b x y => (hF 68 _ (by decide)).trans (hB0 a b x y)
    have hS : SI w 0 ρ := fun i' s2 m2 a b c d e => (hF 71 _ (by decide)).trans (hS0 i' s2 m2 a b c d e)
    obtain ⟨pa, -, -⟩ := lf_mem h12 (show i < (lfL w).length by omega)
    have a0 := pa.1
    have a1 := pa.2
    cases n with
    | zero => omega
    | succ n =>
      rw [fX0_takeFirstWay_L4, hG.1, hG.2.1, if_pos (by omega), idx_b (i := i) (by omega) (by omega) hs, grd_pos (by omega), hS i set m (by omega) (by omega) hs (Or.inl hc) hR]
      rw [show (0 : Int) = ((0 : Nat) : Int) from rfl]
      refine find_b h12 hG hB hS (by omega) hs hc hR (rgL w).length FU 0 (by omega) (by unfold FU; omega) (fun e => ?_) (fun jj h1 h2 e => ?_)
      · rw [List.drop_zero] at e
        rw [drop_at (l := lfL w) (i := i) (by omega), tkH_n e, show (i : Int) + 1 = ((i + 1 : Nat) : Int) by omega]
        exact take_b h12 hG0 hB0 hS0 r n (i + 1) set m H ρ (by omega) (by omega) hs (by omega) hR hF hH
      · rw [List.drop_zero] at e
        obtain ⟨pb, -, -⟩ := rg_mem h12 h1
        have b0 := pb.1
        have b1 := pb.2
        have hs2 : set ||| 2 ^ jj < 2 ^ (rgL w).length := Nat.or_lt_two_pow hs (Nat.pow_lt_pow_right (by decide) h1)
        rw [drop_at (l := lfL w) (i := i) (by omega), tkH_s e]
        show wp (grd _ (grd _ (grd _ (grd _ (grd _ (grd _ _)))))) _
        rw [rq_c (by decide), rq_c (by decide), hG.2.2.1 i (by omega), hG.2.2.2 jj h1, grd_pos (by omega), grd_pos (by omega), grd_pos (by omega), grd_pos (by omega), grd_pos (by omega), grd_pos (by omega), bor_bit (by omega) (by omega) (by omega) (by omega), Int.toNat_natCast, Int.toNat_natCast, bw_id (z := (i : Int) + 1) (by omega) (by omega), show (i : Int) + 1 = ((i + 1 : Nat) : Int) by omega]
        refine take_b h12 hG0 hB0 hS0 r n (i + 1) (set ||| 2 ^ jj) (mdel m ((rgL w).getD jj 0)) _ _ (by omega) (by omega) hs2 (by rw [cntN_or]; split <;> omega) (Rel_del hR h1) ((hF.wr (by decide)).wr (by decide)) (fun p hp => ?_)
        rw [wr_row, wr_row, bw_id (z := (lfL w).getD i 0) (by omega) (by omega), bw_id (z := (rgL w).getD jj 0) (by omega) (by omega)]
        show upz (upz _ _ _) _ _ p = upz (upz _ _ _) _ _ p
        unfold upz
        rw [hH p hp]
def bestM (w : Int → Int) : Nat := 2 ^ nP w - 1
theorem pair_c {w : Int → Int} {σ : Sg} (hC : CW 150 w σ 1) : wp (fX0_pair 1 σ) (fun q => q.1 = Bs w (rgL w) (lfL w) (bestM w) ∧ (∀ p : Int, isP w p → rd q.2 66 p = tkH w (rgL w) (lfL w) (bestM w) (fun _ => -1) p) ∧ Fr [16, 17, 65, 66, 67, 68, 69, 70, 71] σ q.2) := by
  have h12 := hC.1.1.2.2.2.2.2.1
  have l0 := lr_len h12
  have hk4 := set_lt h12
  have hk1 : 0 < 2 ^ (rgL w).length := Nat.pow_pos (by decide)
  have hn4 : 2 ^ nP w ≤ 2 ^ 12 := Nat.pow_le_pow_right (by decide) (by show (w 85).toNat ≤ 12; omega)
  have hR : Rel (rgL w) 0 (bestM w) := by
    refine ⟨by unfold bestM; omega, fun j hj => ?_⟩
    obtain ⟨pb, -, -⟩ := rg_mem h12 hj
    have b0 := pb.1
    have b1 := pb.2
    unfold bestM
    rw [Nat.zero_testBit, Nat.testBit_two_pow_sub_one, decide_eq_true (show ((rgL w).getD j 0).toNat < (w 85).toNat by omega)]
    rfl
  unfold fX0_pair
  rw [wp_bind]
  refine wp_mono (gather_c hC) (fun s hs => ?_)
  obtain ⟨g1, g5, g6, g69, g70, g66⟩ := hs
  have hC1 : CW 150 w s 1 := hC.fr g1 (by decide)
  have hG : GA w s := ⟨g5, g6, g69, g70⟩
  refine fitAll_c hC1 hG (fun τ hτ hB => ?_) (lfL w).length FU 0 s (by omega) (by unfold FU; omega) Fr.rf (fun i' j' a b c => by omega)
  have hC2 : CW 150 w τ 1 := hC1.fr hτ (by decide)
  have hG2 : GA w τ := GA_fr hG hτ (by decide) (by decide) (by decide)
  have e2k : bshl 1 (rd τ 65 6) = ((2 ^ (rgL w).length : Nat) : Int) := by rw [hG2.2.1, bshl_1i (by omega) (by omega), Int.toNat_natCast]
  show wp (fX0_pair_L86 1 _ (bshl 1 (rd τ 65 6)) FU 0 τ) _
  rw [e2k]
  refine zero_b hC2 hG2 (fun ρ hρ hS => ?_) (2 ^ (rgL w).length) FU 0 τ (by omega) (by unfold FU; omega) Fr.rf (fun t ht => by omega)
  have hC3 : CW 150 w ρ 1 := hC2.fr hρ (by decide)
  have hG3 : GA w ρ := GA_fr hG2 hρ (by decide) (by decide) (by decide)
  have hB3 : BF w ρ := fun a b x y => (hρ 68 _ (by decide)).trans (hB a b x y)
  rw [hG3.1, bw_id (z := ((lfL w).length : Int) - 1) (by omega) (by omega)]
  refine rows_b hC3 hG3 hB3 (fun α hα hS2 => ?_) (lfL w).length FU ρ (Nat.le_refl _) (by unfold FU; omega) Fr.rf hS
  have hC4 : CW 150 w α 1 := hC3.fr hα (by decide)
  have hG4 : GA w α := GA_fr hG3 hα (by decide) (by decide) (by decide)
  have hB4 : BF w α := fun a b x y => (hα 68 _ (by decide)).trans (hB3 a b x y)
  rw [wp_bind]
  have e66 : ∀ p : Int, isP w p → rd α 66 p = -1 := fun p hp => by
    rw [hα 66 _ (by decide), hρ 66 _ (by decide), hτ 66 _ (by decide)]
    exact (g66 p hp.1 hp.2).1
  have tk := take_b h12 hG4 hB4 hS2 (lfL w).length FU 0 0 (bestM w) (fun _ => -1) α (by omega) (by unfold FU; omega) hk1 (by decide) hR Fr.rf e66
  unfold fX0_takeFirstWay
  refine wp_mono tk (fun β hβ => ?_)
  rw [wp_some]
  refine ⟨?_, fun p hp => ?_, ?_⟩
  · rw [hβ.1 71 0 (by decide)]
    have := hS2 0 0 (bestM w) (Nat.le_refl _) (by omega) hk1 (Or.inl (by decide)) hR
    rw [Nat.zero_mul, List.drop_zero] at this
    exact this
  · have := hβ.2 p hp
    rw [List.drop_zero] at this
    exact this
  · exact (((((g1.mo (by decide)).tr (hτ.mo (by decide))).tr (hρ.mo (by decide))).tr (hα.mo (by decide))).tr (hβ.1.mo (by decide)))
