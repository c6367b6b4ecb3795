/-! who: which persons it can be -/
def stF (w : Int → Int) (x found : Int) : Nat → Int → Int
  | 0, _ => 1
  | n + 1, i => if w (275 + 3 * i) = x ∧ (found < w (276 + 3 * i) ∨ (w (277 + 3 * i) = 0 ∧ w (276 + 3 * i) < found)) then 0 else stF w x found n (i + 1)
theorem stF_r {w : Int → Int} {x found : Int} : ∀ (n : Nat) (i : Int), stF w x found n i = 0 ∨ stF w x found n i = 1
  | 0, _ => Or.inr rfl
  | n + 1, i => by
    rw [stF]
    split
    · exact Or.inl rfl
    · exact stF_r n (i + 1)
theorem stirsFit_c {m : Int} {w : Int → Int} {σ : Sg} {x found : Int} (hC : CW m w σ 1) : ∀ (r n : Nat) (i : Int), i + r = w 90 → 0 ≤ i → r < n → fX9_allStirsFit_L2 1 σ x found n i = some (stF w x found r i)
  | 0, n, i, hi, i0, hn => by
    have e2 : rd σ 24 2 = w 90 := hC.2.2.2.2.1.2.2.2.2.1
    cases n with
    | zero => omega
    | succ n =>
      rw [fX9_allStirsFit_L2]
      show (if i < rd σ 24 2 then _ else _) = _
      rw [e2, if_neg (by omega)]
      rfl
  | r + 1, n, i, hi, i0, hn => by
    have e2 : rd σ 24 2 = w 90 := hC.2.2.2.2.1.2.2.2.2.1
    have hb := hC.1.2.2.2.2.2.2.1
    obtain ⟨v1, v2, v3⟩ := hC.1.2.2.2.2.2.2.2 i i0 (by omega)
    obtain ⟨t1, t2, t3⟩ := hC.2.2.2.2.1.2.2.2.2.2 i i0 (by omega)
    have c0 : fX6_cell 24 48 i 0 σ = some (w (275 + 3 * i)) := by
      rw [cell_c e2 (by omega) (by omega) (by omega) (by omega), Int.add_zero]
      exact congrArg some t1
    have c1 : fX6_cell 24 48 i 1 σ = some (w (276 + 3 * i)) := by
      rw [cell_c e2 (by omega) (by omega) (by omega) (by omega)]
      exact congrArg some t2
    have c2 : fX6_cell 24 48 i 2 σ = some (w (277 + 3 * i)) := by
      rw [cell_c e2 (by omega) (by omega) (by omega) (by omega)]
      exact congrArg some t3
    cases n with
    | zero => omega
    | succ n =>
      have ih := stirsFit_c (x := x) (found := found) hC r n (i + 1) (by omega) (by omega) (by omega)
      rw [fX9_allStirsFit_L2]
      show (if i < rd σ 24 2 then (fX6_cell 24 48 i 0 σ).bind (fun r2 => if r2 = x then (fX6_cell 24 48 i 1 σ).bind (fun r4 => (fX6_cell 24 48 i 2 σ).bind _) else _) else _) = _
      rw [e2, if_pos (by omega), c0, Option.bind_some, c1, Option.bind_some, c2, Option.bind_some, bw_id (z := i + 1) (by omega) (by omega), ih, stF]
      by_cases z : w (275 + 3 * i) = x
      · rw [if_pos z]
        by_cases y : w (277 + 3 * i) = 1
        · rw [if_pos y]
          by_cases u : found < w (276 + 3 * i)
          · rw [if_pos u, if_pos (show _ from ⟨z, Or.inl u⟩)]
          · rw [if_neg u, if_neg (fun q => by have := q.2; omega)]
        · rw [if_neg y]
          by_cases u : found = w (276 + 3 * i)
          · rw [if_pos u, if_neg (fun q => by have := q.2; omega)]
          · rw [if_neg u, if_pos (show _ from ⟨z, by omega⟩)]
      · rw [if_neg z, if_neg (fun q => z q.1)]
theorem stirsFit_m {w : Int → Int} {σ : Sg} {x found : Int} (hW : Wf w) (hw : rd σ 85 = w) : ∀ (r n : Nat) (i : Int), i + r = w 90 → 0 ≤ i → r < n → fX11_canBe_L10 x found n i σ = some (stF w x found r i, σ)
  | 0, n, i, hi, i0, hn => by
    cases n with
    | zero => omega
    | succ n =>
      rw [fX11_canBe_L10, hw, if_neg (by omega)]
      rfl
  | r + 1, n, i, hi, i0, hn => by
    have hb := hW.2.2.2.2.2.2.1
    obtain ⟨v1, v2, v3⟩ := hW.2.2.2.2.2.2.2 i i0 (by omega)
    cases n with
    | zero => omega
    | succ n =>
      have ih := stirsFit_m (x := x) (found := found) hW hw r n (i + 1) (by omega) (by omega) (by omega)
      rw [fX11_canBe_L10, hw, if_pos (by omega), bw_id (z := 3 * i) (by omega) (by omega), bw_id (z := 275 + 3 * i) (by omega) (by omega), bw_id (z := 275 + 3 * i + 1) (by omega) (by omega), bw_id (z := 275 + 3 * i + 2) (by omega) (by omega), grd_pos (by omega), grd_pos (by omega), grd_pos (by omega), grd_pos (by omega), bw_id (z := i + 1) (by omega) (by omega), ih, stF, show 275 + 3 * i + 1 = 276 + 3 * i by omega, show 275 + 3 * i + 2 = 277 + 3 * i by omega]
      by_cases z : w (275 + 3 * i) = x
      · rw [if_pos z]
        by_cases u : found < w (276 + 3 * i)
        · rw [if_pos u, if_pos (show _ from ⟨z, Or.inl u⟩)]
        · rw [if_neg u]
          by_cases y : w (277 + 3 * i) = 0
          · rw [if_pos y]
            by_cases t : w (276 + 3 * i) < found
            · rw [if_pos t, if_pos (show _ from ⟨z, Or.inr ⟨y, t⟩⟩)]
            · rw [if_neg t, if_neg (fun q => by have := q.2; omega)]
          · rw [if_neg y, if_neg (fun q => by have := q.2; omega)]
      · rw [if_neg z, if_neg (fun q => z q.1)]
abbrev whoC (w : Int → Int) (x p : Int) : Prop := w (91 + p) ≠ w (91 + x) ∧ stF w x (foundW w x p) (w 90).toNat 0 = 1
def whoS (w : Int → Int) (x : Int) : Nat → Nat
  | 0 => 0
  | n + 1 => if whoC w x (n : Int) then whoS w x n ||| 2 ^ n else whoS w x n
theorem whoS_lt {w : Int → Int} {x : Int} : ∀ n : Nat, whoS w x n < 2 ^ n
  | 0 => by rw [whoS]; decide
  | n + 1 => by
    have h := whoS_lt (w := w) (x := x) n
    have h2 : 2 ^ n < 2 ^ (n + 1) := Nat.pow_lt_pow_right (by decide) (by omega)
    rw [whoS]
    split
    · exact Nat.or_lt_two_pow (by omega) h2
    · omega
theorem whoS_4 {w : Int → Int} {x : Int} {n : Nat} (h : n ≤ 12) : whoS w x n < 4096 := by
  have h1 := whoS_lt (w := w) (x := x) n
  have h2 : 2 ^ n ≤ 2 ^ 12 := Nat.pow_le_pow_right (by decide) h
  omega
theorem who_c {m : Int} {w : Int → Int} {σ0 : Sg} {x : Int} (hC : CW m w σ0 1) (hx : isP w x) : ∀ (r n : Nat) (k : Nat) (ρ : Sg), (k : Int) + r = w 85 → r < n → Fr [16, 17] σ0 ρ → wp (fX9_whoCanBe_L4 1 x n (whoS w x k : Nat) (k : Int) ρ) (fun q => q.1 = ((whoS w x (w 85).toNat : Nat) : Int) ∧ Fr [16, 17] σ0 q.2)
  | 0, n, k, ρ, hi, hn, hG => by
    have e6 : rd σ0 4 6 = w 85 := hC.2.2.2.1.1
    cases n with
    | zero => omega
    | succ n =>
      rw [fX9_whoCanBe_L4]
      show wp (if (k : Int) < rd ρ 4 6 then _ else _) _
      rw [hG 4 6 (by decide), e6, if_neg (by omega), wp_some, show (w 85).toNat = k by omega]
      exact ⟨rfl, hG⟩
  | r + 1, n, k, ρ, hi, hn, hG => by
    have e6 : rd σ0 4 6 = w 85 := hC.2.2.2.1.1
    have h12 := hC.1.1.2.2.2.2.2.1
    have hb := hC.1.2.2.2.2.2.2.1
    have hx0 := hx.1
    have hx1 := hx.2
    have hp : isP w (k : Int) := ⟨by omega, by omega⟩
    have s1 : rd ρ 5 (k : Int) = w (91 + (k : Int)) := (hG 5 _ (by decide)).trans (hC.2.2.2.1.2 _ hp).1
    have s2 : rd ρ 5 x = w (91 + x) := (hG 5 _ (by decide)).trans (hC.2.2.2.1.2 x hx).1
    have lt := whoS_4 (w := w) (x := x) (n := k) (by omega)
    cases n with
    | zero => omega
    | succ n =>
      have ih := who_c hC hx r n (k + 1)
      rw [show ((k + 1 : Nat) : Int) = (k : Int) + 1 by omega] at ih
      rw [fX9_whoCanBe_L4]
      show wp (if (k : Int) < rd ρ 4 6 then grd _ (grd _ (if rd ρ 5 (k : Int) = rd ρ 5 x then _ else _)) else _) _
      rw [hG 4 6 (by decide), e6, if_pos (by omega), grd_pos (by omega), grd_pos (by omega), s1, s2, bw_id (z := (k : Int) + 1) (by omega) (by omega)]
      by_cases c : w (91 + (k : Int)) = w (91 + x)
      · have hs : whoS w x (k + 1) = whoS w x k := by rw [whoS, if_neg (fun z => z.1 c)]
        rw [if_pos c]
        rw [hs] at ih
        exact ih ρ (by omega) (by omega) hG
      · rw [if_neg c, wp_bind]
        refine wp_mono (foundOf_c (hC.fr hG (by decide)) hx hp) (fun q hq => ?_)
        have g2 : Fr [16, 17] σ0 q.2 := hG.tr hq.2
        have ef : fX9_allStirsFit 1 x q.1 q.2 = some (stF w x (foundW w x (k : Int)) (w 90).toNat 0) := by
          unfold fX9_allStirsFit
          rw [hq.1, stirsFit_c (hC.fr g2 (by decide)) (w 90).toNat FU 0 (by omega) (by omega) (by unfold FU; omega)]
        rw [ef, Option.bind_some]
        rcases stF_r (w := w) (x := x) (found := foundW w x (k : Int)) (w 90).toNat 0 with e | e
        · have hs : whoS w x (k + 1) = whoS w x k := by rw [whoS, if_neg (fun z => by have := z.2; omega)]
          rw [e, if_pos p00]
          rw [hs] at ih
          exact ih q.2 (by omega) (by omega) g2
        · have hs : whoS w x (k + 1) = whoS w x k ||| 2 ^ k := by rw [whoS, if_pos ⟨c, e⟩]
          rw [e, if_neg n10, bor_bit (by omega) (by omega) (by omega) (by omega), Int.toNat_natCast, Int.toNat_natCast]
          rw [hs] at ih
          exact ih q.2 (by omega) (by omega) g2
theorem who_m {w : Int → Int} {g : Nat → Int → Int} {σ0 : Sg} {x : Int} (hW : Wf w) (hL : LR w g) (hw : rd σ0 85 = w) (hx : isP w x) : ∀ (r n : Nat) (k : Nat) (ρ : Sg), (k : Int) + r = w 85 → r < n → Fr [93, 94] σ0 ρ → wp (fX11_whoBy_L4 x n (whoS w x k : Nat) (k : Int) ρ) (fun q => q.1 = ((whoS w x (w 85).toNat : Nat) : Int) ∧ Fr [93, 94] σ0 q.2)
  | 0, n, k, ρ, hi, hn, hG => by
    cases n with
    | zero => omega
    | succ n =>
      rw [fX11_whoBy_L4, hG 85 85 (by decide), hw, if_neg (by omega), wp_some, show (w 85).toNat = k by omega]
      exact ⟨rfl, hG⟩
  | r + 1, n, k, ρ, hi, hn, hG => by
    have h12 := hW.1.2.2.2.2.2.1
    have hb := hW.2.2.2.2.2.2.1
    have hp : isP w (k : Int) := ⟨by omega, by omega⟩
    have lt := whoS_4 (w := w) (x := x) (n := k) (by omega)
    have hw1 : rd ρ 85 = w := (funext fun j => hG 85 j (by decide)).trans hw
    have e0 : bor ((whoS w x k : Nat) : Int) 0 = ((whoS w x k : Nat) : Int) := by
      rw [bor_nat (by omega) (by omega) (by omega) (by omega), Int.toNat_natCast]
      simp
    cases n with
    | zero => omega
    | succ n =>
      have ih := who_m hW hL hw hx r n (k + 1)
      rw [show ((k + 1 : Nat) : Int) = (k : Int) + 1 by omega] at ih
      rw [fX11_whoBy_L4, hw1, if_pos (by omega), areUnlike_m hW hw1, Option.bind_some, bw_id (z := (k : Int) + 1) (by omega) (by omega), e0]
      by_cases c : w (91 + (k : Int)) = w (91 + x)
      · have hs : whoS w x (k + 1) = whoS w x k := by rw [whoS, if_neg (fun z => z.1 c)]
        rw [if_neg (show ¬ (isP w x ∧ isP w (k : Int) ∧ w (91 + x) ≠ w (91 + (k : Int))) from fun z => z.2.2 c.symm), if_pos p00]
        rw [hs] at ih
        exact ih ρ (by omega) (by omega) hG
      · rw [if_pos (show isP w x ∧ isP w (k : Int) ∧ w (91 + x) ≠ w (91 + (k : Int)) from ⟨hx, hp, fun z => c z.symm⟩), if_neg n10, wp_bind]
        unfold fX11_canBe
        rw [wp_bind]
        refine wp_mono (foundOf_m hW hL hw1 hx hp) (fun q hq => ?_)
        have g2 : Fr [93, 94] σ0 q.2 := hG.tr hq.2
        have hw2 : rd q.2 85 = w := (funext fun j => g2 85 j (by decide)).trans hw
        rw [hq.1, stirsFit_m hW hw2 (w 90).toNat FU 0 (by omega) (by omega) (by unfold FU; omega), wp_some]
        rcases stF_r (w := w) (x := x) (found := foundW w x (k : Int)) (w 90).toNat 0 with e | e
        · have hs : whoS w x (k + 1) = whoS w x k := by rw [whoS, if_neg (fun z => by have := z.2; omega)]
          rw [e, if_pos p00]
          rw [hs] at ih
          exact ih q.2 (by omega) (by omega) g2
        · have hs : whoS w x (k + 1) = whoS w x k ||| 2 ^ k := by rw [whoS, if_pos ⟨c, e⟩]
          rw [e, if_neg n10, bor_bit (by omega) (by omega) (by omega) (by omega), Int.toNat_natCast, Int.toNat_natCast]
          rw [hs] at ih
          exact ih q.2 (by omega) (by omega) g2
theorem whoAll_c {m : Int} {w : Int → Int} {σ : Sg} {x : Int} (hC : CW m w σ 1) (hx : isP w x) : wp (fX9_whoCanBe 1 x σ) (fun q => q.1 = ((whoS w x (w 85).toNat : Nat) : Int) ∧ Fr [16, 17] σ q.2) := by
  have h12 := hC.1.1.2.2.2.2.2.1
  unfold fX9_whoCanBe
  exact who_c hC hx (w 85).toNat FU 0 σ (by omega) (by unfold FU; omega) Fr.rf
theorem whoAll_m {w : Int → Int} {g : Nat → Int → Int} {σ : Sg} {x : Int} (hW : Wf w) (hL : LR w g) (hw : rd σ 85 = w) (hx : isP w x) : wp (fX11_whoBy x σ) (fun q => q.1 = ((whoS w x (w 85).toNat : Nat) : Int) ∧ Fr [93, 94] σ q.2) := by
  have h12 := hW.1.2.2.2.2.2.1
  unfold fX11_whoBy
  exact who_m hW hL hw hx (w 85).toNat FU 0 σ (by omega) (by unfold FU; omega) Fr.rf
theorem op_who {has : Bool} {N : Nat} (hN : N ≤ 511) (x1 : Int) (h1 : bw x1 = x1) : OpE has N (fX10_who x1) (fX11_who x1) := by
  intro σ h
  have hC := h.1
  have hW := hC.1
  by_cases c : isP (rd σ 85) x1
  · refine opE_ro (v := ((whoS (rd σ 85) x1 (rd σ 85 85).toNat : Nat) : Int)) h ?_ (fun τ hk => ?_)
    · show wp (fX10_who x1 σ) _
      unfold fX10_who
      rw [show fX1_has 4 x1 σ = _ from has_c hC x1, if_pos c, if_neg n10, wp_bind]
      refine wp_mono (whoAll_c hC c) (fun q hq => ?_)
      rw [wp_some]
      exact ⟨hq.1, keep_c hq.2⟩
    · have e85 : rd τ 85 = rd σ 85 := hk.1 85 (by decide)
      show wp (fX11_who x1 τ) _
      unfold fX11_who
      rw [isPerson_m hW e85, if_pos c, if_neg n10, wp_bind]
      refine wp_mono (whoAll_m hW hC.2.2.2.2.2.2 e85 c) (fun q hq => ?_)
      rw [wp_some]
      exact ⟨hq.1, keep_m hq.2⟩
  · refine opE_no h (v := -1) ?_ ?_
    · unfold fX10_who
      rw [show fX1_has 4 x1 σ = _ from has_c hC x1, if_neg c, if_pos p00]
    · unfold fX11_who
      rw [isPerson_m hW rfl, if_neg c, if_pos p00]
