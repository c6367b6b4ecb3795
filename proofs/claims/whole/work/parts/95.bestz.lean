/-! best: the walk, and the call -/
theorem tkH_out {w : Int → Int} {R : List Int} {p : Int} (hR : p ∉ R) : ∀ (l : List Int) (m : Nat) (H : Int → Int), p ∉ l → tkH w R l m H p = H p
  | [], _, _, _ => rfl
  | a :: t, m, H, hl => by
    have h1 : p ≠ a := fun z => hl (by rw [z]; exact List.mem_cons_self)
    have h2 : p ∉ t := fun z => hl (List.mem_cons_of_mem _ z)
    cases e : R.find? (tkF w R a t m) with
    | none => rw [tkH_n e]; exact tkH_out hR t m H h2
    | some b =>
      have hb : p ≠ b := fun z => hR (by rw [z]; exact List.mem_of_find?_eq_some e)
      rw [tkH_s e, tkH_out hR t _ _ h2, upz_n hb, upz_n h1]
theorem walk_m {w : Int → Int} {ρ : Sg} {x1 p : Int} (hW : Wf w) (hw : rd ρ 85 = w) (hB : FB w ρ) (hT : TI w 0 ρ) (hx : bw (x1 - 10) = p) (hp : isP w p) : ∀ (r n a m : Nat) (H : Int → Int), a + r = nP w → r < n → m < 2 ^ nP w → (∀ a' : Int, (a : Int) ≤ a' → a' < w 85 → w (91 + a') = 0 → H a' = -1) → fX11_best_L61 x1 n (m : Int) (H p) (a : Int) ρ = some (tkH w (rgL w) (lfA w a) m H p, ρ)
  | 0, n, a, m, H, ha, hn, hm, hH => by
    have h12 := hW.1.2.2.2.2.2.1
    have hq := nP_i h12
    cases n with
    | zero => omega
    | succ n =>
      rw [fX11_best_L61, hw, if_neg (by omega), show a = nP w by omega, lfA_end, tkH]
  | r + 1, n, a, m, H, ha, hn, hm, hH => by
    have h12 := hW.1.2.2.2.2.2.1
    have h4 := pow_nP h12
    have hq := nP_i h12
    have p0 := hp.1
    have p1 := hp.2
    have hPa : isP w (a : Int) := ⟨by omega, by omega⟩
    cases n with
    | zero => omega
    | succ n =>
      have same : band (m : Int) (m : Int) = (m : Int) := by
        rw [band_nat (by omega) (by omega) (by omega) (by omega), Int.toNat_natCast, Nat.and_self]
      have j26 : ∀ (x2 v x5 : Int), fX11_best_J126 (fX11_best_L61 x1 n) x1 x2 (a : Int) x5 v ρ = fX11_best_L61 x1 n x2 (if p = x5 then (a : Int) else v) ((a + 1 : Nat) : Int) ρ := by
        intro x2 v x5
        unfold fX11_best_J126
        rw [hx, bw_id (z := (a : Int) + 1) (by omega) (by omega), show (a : Int) + 1 = ((a + 1 : Nat) : Int) by omega]
        split <;> rfl
      have j99 : ∀ (v x5 z0 y0 : Int), fX11_best_J99 (fX11_best_L61 x1 n) x1 v (a : Int) x5 z0 y0 ρ = fX11_best_L61 x1 n (band z0 y0) (if p = x5 then (a : Int) else if p = (a : Int) ∧ w (91 + (a : Int)) = 0 then x5 else v) ((a + 1 : Nat) : Int) ρ := by
        intro v x5 z0 y0
        unfold fX11_best_J99
        rw [hx, hw, bw_id (z := 91 + (a : Int)) (by omega) (by omega), grd_pos (by omega), j26, j26]
        by_cases e1 : p = (a : Int)
        · by_cases e2 : w (91 + (a : Int)) = 0
          · rw [if_pos e1, if_pos e2, if_pos (show p = (a : Int) ∧ w (91 + (a : Int)) = 0 from ⟨e1, e2⟩)]
          · rw [if_pos e1, if_neg e2, if_neg (show ¬ (p = (a : Int) ∧ w (91 + (a : Int)) = 0) from fun z => e2 z.2)]
        · rw [if_neg e1, if_neg (show ¬ (p = (a : Int) ∧ w (91 + (a : Int)) = 0) from fun z => e1 z.1)]
      have hH1 : ∀ a' : Int, ((a + 1 : Nat) : Int) ≤ a' → a' < w 85 → w (91 + a') = 0 → H a' = -1 := fun a' x y z => hH a' (by omega) y z
      have ht := takenBy_m (m := m) hW hw hB hT (a := a) (by omega) hm
      have noCase : (if c0B w a = true then ((rgL w).find? (tkF w (rgL w) a (lfA w (a + 1)) m)).getD (-1) else -1) = -1 → tkH w (rgL w) (lfA w a) m H = tkH w (rgL w) (lfA w (a + 1)) m H → fX11_best_L61 x1 (n + 1) (m : Int) (H p) (a : Int) ρ = some (tkH w (rgL w) (lfA w a) m H p, ρ) := by
        intro e1 e2
        rw [fX11_best_L61, hw, if_pos (by omega), ht, e1, Option.bind_some, if_pos rfl, j99, same, e2, if_neg (show ¬ p = -1 by omega)]
        have hv : (if p = (a : Int) ∧ w (91 + (a : Int)) = 0 then (-1 : Int) else H p) = H p := by
          by_cases z : p = (a : Int) ∧ w (91 + (a : Int)) = 0
          · rw [if_pos z, z.1]
            exact (hH (a : Int) (Int.le_refl _) (by omega) z.2).symm
          · rw [if_neg z]
        rw [hv]
        exact walk_m hW hw hB hT hx hp r n (a + 1) m H (by omega) (by omega) hm hH1
      by_cases c : c0B w a = true
      · cases e : (rgL w).find? (tkF w (rgL w) a (lfA w (a + 1)) m) with
        | none =>
          refine noCase ?_ ?_
          · rw [if_pos c, e]; rfl
          · rw [lfA_yes (by omega) c, tkH_n e]
        | some b =>
          obtain ⟨b1, b2, b3, b4⟩ := find_mem h12 e
          have b10 := b1.1
          have b11 := b1.2
          have s0 := of_decide_eq_true c
          have hne : (a : Int) ≠ b := fun z => by rw [← z] at b3; omega
          have eb : band (m : Int) (bxor (bshl 1 b) (-1)) = ((mdel m b : Nat) : Int) := by
            rw [bandn_bit (by omega) (by omega) (by omega) (by omega), Int.toNat_natCast]
            rfl
          have hml : mdel m b ≤ m := Nat.and_le_left
          rw [if_pos c, e] at ht
          have ht : fX11_takenBy (a : Int) (m : Int) ρ = some b := ht
          rw [fX11_best_L61, hw, if_pos (by omega), ht, Option.bind_some, if_neg (show ¬ b = -1 by omega), j99, eb, lfA_yes (by omega) c, tkH_s e]
          have hv : (if p = b then (a : Int) else if p = (a : Int) ∧ w (91 + (a : Int)) = 0 then b else H p) = upz (upz H a b) b a p := by
            by_cases z1 : p = b
            · rw [if_pos z1, z1, upz_s]
            · rw [if_neg z1, upz_n z1]
              by_cases z2 : p = (a : Int)
              · rw [if_pos ⟨z2, s0.2⟩, z2, upz_s]
              · rw [if_neg (fun z => z2 z.1), upz_n z2]
          rw [hv]
          refine walk_m hW hw hB hT hx hp r n (a + 1) (mdel m b) _ (by omega) (by omega) (by omega) (fun a' x y z => ?_)
          rw [upz_n (fun q => by rw [q] at z; omega), upz_n (by omega)]
          exact hH1 a' x y z
      · refine noCase (if_neg c) ?_
        rw [lfA_no (by omega) c]
theorem bestJ_m {w : Int → Int} {g : Nat → Int → Int} {σ : Sg} {x1 : Int} (hW : Wf w) (hL : LR w g) (hw : rd σ 85 = w) (hx : x1 = 0 ∨ isP w (bw (x1 - 10))) : wp (fX11_best_J25 x1 σ) (fun q => q.1 = (if x1 = 0 then Bs w (rgL w) (lfL w) (bestM w) else tkH w (rgL w) (lfL w) (bestM w) (fun _ => -1) (bw (x1 - 10))) ∧ Fr [93, 94, 98, 99] σ q.2) := by
  have h12 := hW.1.2.2.2.2.2.1
  have h4 := pow_nP h12
  have hq := nP_i h12
  have h1 : 0 < 2 ^ nP w := Nat.pow_pos (by decide)
  unfold fX11_best_J25 fX11_laysFound
  rw [wp_bind]
  refine wp_mono (found_m hW hL hw (w 85).toNat FU 0 σ (by omega) (by omega) (by unfold FU; omega) Fr.rf (fun a' b' x y z u => by have := x.1; omega)) (fun s hs => ?_)
  have hw2 : rd s 85 = w := (funext fun j => hs.1 85 j (by decide)).trans hw
  rw [wp_bind]
  unfold fX11_laysBest
  rw [hw2, ← hq.1]
  have tb := tables_m (σ0 := s) hW hw2 hs.2 (nP w + 1) FU s (Nat.le_refl _) (by unfold FU; omega) Fr.rf (fun a' m x y z => by omega)
  rw [show ((nP w + 1 : Nat) : Int) - 1 = ((nP w : Nat) : Int) by omega] at tb
  refine wp_mono tb (fun t ht => ?_)
  have hw3 : rd t 85 = w := (funext fun j => ht.1 85 j (by decide)).trans hw2
  have hB3 : FB w t := fun x y p q s => (ht.1 99 _ (by decide)).trans (hs.2 x y p q s)
  have hF : Fr [93, 94, 98, 99] σ t := (hs.1.mo (by decide)).tr (ht.1.mo (by decide))
  have em : bw (bshl 1 (rd t 85 85) - 1) = ((bestM w : Nat) : Int) := by
    rw [hw3, ← hq.1, bshl_1i (by omega) (by omega), Int.toNat_natCast, bw_id (by omega) (by omega)]
    unfold bestM
    omega
  have hm : bestM w < 2 ^ nP w := by unfold bestM; omega
  rw [em]
  by_cases c : x1 = 0
  · have := ht.2 0 (bestM w) (Nat.le_refl _) (by omega) hm
    rw [Nat.mul_zero, Nat.zero_add, lfA_0] at this
    rw [if_pos c, grd_pos (by omega), wp_some, if_pos c]
    exact ⟨this, hF⟩
  · have := walk_m (H := fun _ => -1) hW hw3 hB3 ht.2 rfl (hx.resolve_left c) (nP w) FU 0 (bestM w) (by omega) (by unfold FU; omega) hm (fun _ _ _ _ => rfl)
    rw [lfA_0] at this
    rw [if_neg c, if_neg c, show (0 : Int) = ((0 : Nat) : Int) from rfl]
    show wp (fX11_best_L61 x1 FU ((bestM w : Nat) : Int) (-1) ((0 : Nat) : Int) t) _
    rw [this, wp_some]
    exact ⟨rfl, hF⟩
theorem op_best {has : Bool} {N : Nat} (hN : N ≤ 511) (x1 : Int) (h1 : bw x1 = x1) : OpE has N (fX10_best x1) (fX11_best x1) := by
  intro σ h
  have hC := h.1
  have hW := hC.1
  have h12 := hW.1.2.2.2.2.2.1
  have hq := nP_i h12
  have xr := bw_of h1
  have hL := hC.2.2.2.2.2.2
  by_cases c0 : x1 = 0
  · refine opE_ro (v := Bs (rd σ 85) (rgL (rd σ 85)) (lfL (rd σ 85)) (bestM (rd σ 85))) h ?_ (fun τ hk => ?_)
    · show wp (fX10_best x1 σ) _
      unfold fX10_best
      rw [if_pos c0, wp_bind]
      refine wp_mono (pair_c hC) (fun q hq => ?_)
      rw [wp_some]
      exact ⟨hq.1, Keep.fr hq.2.2 (by decide) (by decide)⟩
    · have e85 : rd τ 85 = rd σ 85 := hk.1 85 (by decide)
      show wp (fX11_best x1 τ) _
      unfold fX11_best
      rw [if_pos c0]
      refine wp_mono (bestJ_m hW hL e85 (Or.inl c0)) (fun q hq => ?_)
      rw [if_pos c0] at hq
      exact ⟨hq.1, Keep.fr hq.2 (by decide) (by decide)⟩
  · by_cases c1 : 10 ≤ x1 ∧ isP (rd σ 85) (x1 - 10)
    · have p0 := c1.2.1
      have p1 := c1.2.2
      have ex : bw (x1 - 10) = x1 - 10 := bw_id (by omega) (by omega)
      refine opE_ro (v := tkH (rd σ 85) (rgL (rd σ 85)) (lfL (rd σ 85)) (bestM (rd σ 85)) (fun _ => -1) (x1 - 10)) h ?_ (fun τ hk => ?_)
      · show wp (fX10_best x1 σ) _
        unfold fX10_best fX10_best_J30
        rw [if_neg c0, if_neg (by omega), ex, show fX1_isFree 4 (x1 - 10) σ = _ from isFree_c hC (x1 - 10), Option.bind_some]
        by_cases c2 : rd σ 85 (68 + (x1 - 10)) = -1
        · rw [if_pos (show isP (rd σ 85) (x1 - 10) ∧ rd σ 85 (68 + (x1 - 10)) = -1 from ⟨c1.2, c2⟩), if_neg n10, wp_bind]
          refine wp_mono (pair_c hC) (fun q hq => ?_)
          rw [grd_pos (by omega), wp_some]
          exact ⟨hq.2.1 _ c1.2, Keep.fr hq.2.2 (by decide) (by decide)⟩
        · rw [if_neg (show ¬ (isP (rd σ 85) (x1 - 10) ∧ rd σ 85 (68 + (x1 - 10)) = -1) from fun z => c2 z.2), if_pos p00, wp_some]
          refine ⟨?_, Keep.rf⟩
          rw [tkH_out (fun z => c2 (frL_mem.mp z).2.1) _ _ _ (fun z => c2 (frL_mem.mp z).2.1)]
      · have e85 : rd τ 85 = rd σ 85 := hk.1 85 (by decide)
        show wp (fX11_best x1 τ) _
        unfold fX11_best
        rw [if_neg c0, isIn_m, e85, bw_id (z := 9 + rd σ 85 85) (by omega) (by omega), if_pos (show 10 ≤ x1 ∧ x1 ≤ 9 + rd σ 85 85 by omega), if_neg n10]
        refine wp_mono (bestJ_m hW hL e85 (Or.inr (by rw [ex]; exact c1.2))) (fun q hq => ?_)
        rw [if_neg c0, ex] at hq
        exact ⟨hq.1, Keep.fr hq.2 (by decide) (by decide)⟩
    · refine opE_no h (v := -1) ?_ ?_
      · unfold fX10_best
        rw [if_neg c0]
        have j : ∀ y : Int, ¬ isP (rd σ 85) y → fX10_best_J30 y σ = some (-1, σ) := fun y hy => by
          unfold fX10_best_J30
          rw [show fX1_isFree 4 y σ = _ from isFree_c hC y, Option.bind_some, if_neg (show ¬ (isP (rd σ 85) y ∧ rd σ 85 (68 + y) = -1) from fun z => hy z.1), if_pos p00]
        by_cases c2 : x1 < 10
        · rw [if_pos c2]
          exact j (-1) (fun z => by have := z.1; omega)
        · rw [if_neg c2, bw_id (z := x1 - 10) (by omega) (by omega)]
          exact j _ (fun z => c1 ⟨by omega, z⟩)
      · unfold fX11_best
        rw [if_neg c0, isIn_m, bw_id (z := 9 + rd σ 85 85) (by omega) (by omega), if_neg (show ¬ (10 ≤ x1 ∧ x1 ≤ 9 + rd σ 85 85) from fun z => c1 ⟨z.1, by omega, by omega⟩), if_pos p00]
