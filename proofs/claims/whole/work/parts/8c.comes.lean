/-! comes -/
def tmR (w : Int → Int) (p q x y : Int) : Int → Int := upz (upz w (103 + p) x) (103 + q) y
theorem CG_tem {w : Int → Int} {g : Nat → Int → Int} {p q x y : Int} (h : CG 150 w g) (hp : isP w p) (hq : isP w q) (hpq : p ≠ q) (hx : 0 ≤ x ∧ x ≤ 9) (hy : 0 ≤ y ∧ y ≤ 9) : ∃ g', CG 150 (tmR w p q x y) g' := by
  have h12 := h.1.1.2.2.2.2.2.1
  have p0 := hp.1
  have p1 := hp.2
  have q0 := hq.1
  have q1 := hq.2
  have o : ∀ j : Int, j ≠ 103 + p → j ≠ 103 + q → tmR w p q x y j = w j := fun j a b => by
    unfold tmR
    rw [upz_n b, upz_n a]
  refine ⟨fun k i => if k = 5 then tmR w p q x y (103 + i) else g k i, CG_sta h (fun j a b c => o j (by omega) (by omega)) (fun k a b c d i => if_neg b) (fun i a b c => if_neg (by decide)) (by rw [o 82 (by omega) (by omega)]; exact h.1.1.2.2.1) (by rw [o 83 (by omega) (by omega)]; exact h.1.1.2.2.2.1) (by rw [o 84 (by omega) (by omega)]; exact h.1.1.2.2.2.2.1) (fun r hr => ?_) ?_ ?_ ?_ (fun r hr => ?_)⟩
  · have r0 := hr.1
    have r1 := hr.2
    obtain ⟨-, e1, e2, -, -, e3⟩ := h.1.2.2.1 r hr
    rw [o (115 + r) (by omega) (by omega), o (139 + r) (by omega) (by omega)]
    refine ⟨?_, e2, e3⟩
    unfold tmR
    by_cases c : r = q
    · rw [c, upz_s]; exact hy
    · rw [upz_n (by omega)]
      by_cases d : r = p
      · rw [d, upz_s]; exact hx
      · rw [upz_n (by omega)]; exact e1
  · rw [if_neg (by decide), o 82 (by omega) (by omega)]; exact h.2.1.2.2.1
  · rw [if_neg (by decide), o 83 (by omega) (by omega)]; exact h.2.1.2.2.2.1
  · rw [if_neg (show ¬ 0 = 5 by decide), o 84 (by omega) (by omega)]; exact h.2.1.2.2.2.2.1
  · have r0 := hr.1
    have r1 := hr.2
    obtain ⟨-, e1, e2, -, -, e3⟩ := h.2.2.2.1.2 r hr
    rw [if_pos rfl, if_neg (by decide), if_neg (by decide), o (115 + r) (by omega) (by omega), o (139 + r) (by omega) (by omega)]
    exact ⟨rfl, e2, e3⟩
theorem matW_tem {w : Int → Int} {g : Nat → Int → Int} {p q x y a b u v : Int} (h : CG 150 w g) (hp : isP w p) (hq : isP w q) (ha : isP w a) (hb : isP w b) : matW (tmR w p q x y) a b u v = matW w a b u v := by
  have h12 := h.1.1.2.2.2.2.2.1
  have p0 := hp.1
  have p1 := hp.2
  have q0 := hq.1
  have q1 := hq.2
  have a0 := ha.1
  have a1 := ha.2
  have b0 := hb.1
  have b1 := hb.2
  have o : ∀ j : Int, j ≠ 103 + p → j ≠ 103 + q → tmR w p q x y j = w j := fun j c d => by
    unfold tmR
    rw [upz_n d, upz_n c]
  have e : fM (tmR w p q x y) a b u v = fM w a b u v := by
    funext s
    unfold fM kinW
    rw [o (115 + a) (by omega) (by omega), o (115 + b) (by omega) (by omega), o (139 + a) (by omega) (by omega), o 0 (by omega) (by omega)]
  unfold matW
  rw [e]
  exact sayW_congr h.2.2.2.2.2.2 (o 86 (by omega) (by omega)) (fun j hj => o j (by omega) (by omega))
theorem tmR_s {w : Int → Int} {p q x y : Int} : tmR w p q x y (103 + q) = y := upz_s
theorem tmR_p {w : Int → Int} {p q x y : Int} (h : p ≠ q) : tmR w p q x y (103 + p) = x := by
  unfold tmR
  rw [upz_n (by omega), upz_s]
theorem tmR_w {w : Int → Int} {p q x y u v : Int} : upz (upz (tmR w p q x y) (103 + p) u) (103 + q) v = tmR w p q u v := by
  funext j
  unfold tmR upz
  repeat' split
  all_goals rfl
theorem tmR_id {w : Int → Int} {p q : Int} (h : p ≠ q) : tmR w p q (w (103 + p)) (w (103 + q)) = w := by
  funext j
  unfold tmR upz
  split
  · next e => rw [e]
  · split
    · next e => rw [e]
    · rfl
def cmS (w : Int → Int) (p q : Int) : Nat → Int → Int → Int → Int
  | 0, _, _, _ => -1
  | n + 1, x, y, i => if min (matW w p q x y) (matW w q p y x) < 6 then (if 1 < ab (x - y) then (if y < x then cmS w p q n (x - 1) (y + 1) (i + 1) else cmS w p q n (x + 1) (y - 1) (i + 1)) else cmS w p q n x y (i + 1)) else i
theorem comesL_c {w : Int → Int} {p q : Int} {σ0 : Sg} (hp : isP w p) (hq : isP w q) : ∀ (r m : Nat) (i x y : Int) (σ : Sg), i + r = 21 → 0 ≤ i → r < m → CW 150 w σ 1 → 0 ≤ x ∧ x ≤ 9 → 0 ≤ y ∧ y ≤ 9 → Fr [1 + 15, 1 + 16] σ0 σ → wp (fX10_comes_L53 p q m x y i σ) (fun t => t.1 = cmS w p q r x y i ∧ Fr [1 + 15, 1 + 16] σ0 t.2)
  | 0, m, i, x, y, σ, hi, i0, hm, hC, hx, hy, hF => by
    cases m with
    | zero => omega
    | succ m =>
      rw [fX10_comes_L53, if_pos (by omega), wp_some]
      exact ⟨rfl, hF⟩
  | r + 1, m, i, x, y, σ, hi, i0, hm, hC, hx, hy, hF => by
    cases m with
    | zero => omega
    | succ m =>
      rw [fX10_comes_L53, if_neg (by omega), wp_bind]
      refine wp_mono (matchBy_c hC hp hq hx hy) (fun s hs => ?_)
      have hC2 : CW 150 w s.2 1 := hC.fr hs.2 (by decide)
      rw [wp_bind]
      refine wp_mono (matchBy_c hC2 hq hp hy hx) (fun t ht => ?_)
      have hC3 : CW 150 w t.2 1 := hC2.fr ht.2 (by decide)
      have hF3 : Fr [1 + 15, 1 + 16] σ0 t.2 := (hF.tr hs.2).tr ht.2
      rw [min_eq, hs.1, ht.1, cmS]
      by_cases c : min (matW w p q x y) (matW w q p y x) < 6
      · rw [if_pos c, if_pos c, bw_id (z := x - y) (by omega) (by omega), abs_eq (by omega) (by omega), bw_id (z := i + 1) (by omega) (by omega)]
        by_cases d : 1 < ab (x - y)
        · have dd : 1 < x - y ∨ 1 < y - x := by unfold ab at d; split at d <;> omega
          rw [if_pos d, if_pos d]
          by_cases e : y < x
          · rw [if_pos e, if_pos e, bw_id (z := x + -1) (by omega) (by omega), bw_id (z := y - -1) (by omega) (by omega), show x + -1 = x - 1 by omega, show y - -1 = y + 1 by omega]
            exact comesL_c hp hq r m (i + 1) _ _ t.2 (by omega) (by omega) (by omega) hC3 (by omega) (by omega) hF3
          · rw [if_neg e, if_neg e, bw_id (z := x + 1) (by omega) (by omega), bw_id (z := y - 1) (by omega) (by omega)]
            exact comesL_c hp hq r m (i + 1) _ _ t.2 (by omega) (by omega) (by omega) hC3 (by omega) (by omega) hF3
        · rw [if_neg d, if_neg d]
          exact comesL_c hp hq r m (i + 1) _ _ t.2 (by omega) (by omega) (by omega) hC3 hx hy hF3
      · rw [if_neg c, if_neg c, wp_some]
        exact ⟨rfl, hF3⟩
theorem size_m {x : Int} (h1 : -2147483648 < x) (h2 : x < 2147483648) : fX11_size x = ab x := by
  unfold fX11_size ab
  split
  · exact bw_id (by omega) (by omega)
  · rfl
theorem comesJ_m {w : Int → Int} {p q a b i x y v : Int} {k : Int → Int → Sg → Option (Int × Sg)} {Q : Int × Sg → Prop} {σ : Sg} (hp : 0 ≤ p ∧ p < 12) (hq : 0 ≤ q ∧ q < 12) (hpq : p ≠ q) (hi : 0 ≤ i ∧ i ≤ 20) (hw : rd σ 85 = tmR w p q x y) (hx : 0 ≤ x ∧ x ≤ 9) (hy : 0 ≤ y ∧ y ≤ 9) (hk : ∀ (x' y' : Int) (ρ : Sg), (if 1 < ab (x - y) then (if y < x then x' = x - 1 ∧ y' = y + 1 else x' = x + 1 ∧ y' = y - 1) else x' = x ∧ y' = y) → rd ρ 85 = tmR w p q x' y' → Fr [85] σ ρ → wp (k v (i + 1) ρ) Q) : wp (fX11_comes_J68 k p q a b i v σ) Q := by
  unfold fX11_comes_J68
  rw [bw_id (z := 103 + p) (by omega) (by omega), bw_id (z := 103 + q) (by omega) (by omega), grd_pos (by omega), grd_pos (by omega), hw, tmR_s, tmR_p hpq, bw_id (z := x - y) (by omega) (by omega), size_m (by omega) (by omega), bw_id (z := i + 1) (by omega) (by omega)]
  by_cases d : 1 < ab (x - y)
  · have dd : 1 < x - y ∨ 1 < y - x := by unfold ab at d; split at d <;> omega
    rw [if_neg (show ¬ ab (x - y) < 2 by omega), grd_pos (by omega), grd_pos (by omega)]
    have go : ∀ t : Int, t = 1 ∨ t = -1 → (0 ≤ x - t ∧ x - t ≤ 9) → (0 ≤ y + t ∧ y + t ≤ 9) → (if y < x then x - t = x - 1 ∧ y + t = y + 1 else x - t = x + 1 ∧ y + t = y - 1) → wp (fX11_comes_J125 k p q a b v i t σ) Q := by
      intro t ht h1 h2 h3
      unfold fX11_comes_J125
      rw [bw_id (z := 103 + p) (by omega) (by omega), bw_id (z := 103 + q) (by omega) (by omega), grd_pos (by omega), grd_pos (by omega), grd_pos (by omega), grd_pos (by omega), rq_i (show 103 + q ≠ 103 + p by omega), hw, tmR_s, tmR_p hpq, bw_id (z := x - t) (by omega) (by omega), bw_id (z := y + t) (by omega) (by omega), bw_id (z := i + 1) (by omega) (by omega)]
      refine hk (x - t) (y + t) _ (by rw [if_pos d]; exact h3) ?_ ((Fr.rf.wr (by decide)).wr (by decide))
      rw [wr_row, wr_row, hw, bw_id (z := x - t) (by omega) (by omega), bw_id (z := y + t) (by omega) (by omega), tmR_w]
    by_cases e : y < x
    · rw [if_pos e]
      exact go 1 (Or.inl rfl) (by omega) (by omega) (by rw [if_pos e]; exact ⟨rfl, rfl⟩)
    · rw [if_neg e]
      exact go (-1) (Or.inr rfl) (by omega) (by omega) (by rw [if_neg e]; omega)
  · rw [if_pos (show ab (x - y) < 2 by omega)]
    exact hk x y σ (by rw [if_neg d]; exact ⟨rfl, rfl⟩) hw Fr.rf
theorem comesL_m {w : Int → Int} {g : Nat → Int → Int} {p q a b : Int} {σ0 : Sg} {k : Int → Sg → Option (Int × Sg)} {Q : Int × Sg → Prop} (hG : CG 150 w g) (hp : isP w p) (hq : isP w q) (hpq : p ≠ q) : ∀ (r m : Nat) (i x y : Int) (σ : Sg), i + r = 21 → 0 ≤ i → r + 1 < m → rd σ 85 = tmR w p q x y → 0 ≤ x ∧ x ≤ 9 → 0 ≤ y ∧ y ≤ 9 → Fr [85, 93, 94] σ0 σ → (∀ (x' y' : Int) (ρ : Sg), rd ρ 85 = tmR w p q x' y' → Fr [85, 93, 94] σ0 ρ → wp (k (cmS w p q r x y i) ρ) Q) → wp (fX11_comes_L38 k p q a b m (-1) i σ) Q
  | 0, m, i, x, y, σ, hi, i0, hm, hw, hx, hy, hF, hQ => by
    cases m with
    | zero => omega
    | succ m =>
      rw [fX11_comes_L38, if_pos (by omega)]
      exact hQ x y σ hw hF
  | r + 1, m, i, x, y, σ, hi, i0, hm, hw, hx, hy, hF, hQ => by
    have h12 := hG.1.1.2.2.2.2.2.1
    have p0 := hp.1
    have p1 := hp.2
    have q0 := hq.1
    have q1 := hq.2
    obtain ⟨g', hG'⟩ := CG_tem hG hp hq hpq hx hy
    have e85 : tmR w p q x y 85 = w 85 := by
      unfold tmR
      rw [upz_n (by omega), upz_n (by omega)]
    have hp' : isP (tmR w p q x y) p := by unfold isP; rw [e85]; exact hp
    have hq' : isP (tmR w p q x y) q := by unfold isP; rw [e85]; exact hq
    have ef : foundW (tmR w p q x y) p q = min (matW w p q x y) (matW w q p y x) := by
      unfold foundW matchW
      rw [tmR_s, tmR_p hpq, matW_tem hG hp hq hp hq, matW_tem hG hp hq hq hp]
    cases m with
    | zero => omega
    | succ m =>
      rw [fX11_comes_L38, if_neg (by omega), if_pos rfl, wp_bind]
      refine wp_mono (foundOf_m hG'.1 hG'.2.2.2.2.2.2 hw hp' hq') (fun t ht => ?_)
      have t85 : rd t.2 85 = tmR w p q x y := (funext fun j => ht.2 85 j (by decide)).trans hw
      have hF2 : Fr [85, 93, 94] σ0 t.2 := hF.tr (ht.2.mo (by decide))
      rw [ht.1, ef]
      rw [cmS] at hQ
      by_cases c : min (matW w p q x y) (matW w q p y x) < 6
      · rw [if_pos c]
        rw [if_pos c] at hQ
        refine comesJ_m ⟨p0, by omega⟩ ⟨q0, by omega⟩ hpq (by omega) t85 hx hy (fun x' y' ρ hxy hρ hr => ?_)
        have hF3 : Fr [85, 93, 94] σ0 ρ := hF2.tr (hr.mo (by decide))
        by_cases d : 1 < ab (x - y)
        · have dd : 1 < x - y ∨ 1 < y - x := by unfold ab at d; split at d <;> omega
          rw [if_pos d] at hxy hQ
          by_cases e : y < x
          · rw [if_pos e] at hxy hQ
            obtain ⟨rfl, rfl⟩ := hxy
            exact comesL_m hG hp hq hpq r m (i + 1) _ _ ρ (by omega) (by omega) (by omega) hρ (by omega) (by omega) hF3 hQ
          · rw [if_neg e] at hxy hQ
            obtain ⟨rfl, rfl⟩ := hxy
            exact comesL_m hG hp hq hpq r m (i + 1) _ _ ρ (by omega) (by omega) (by omega) hρ (by omega) (by omega) hF3 hQ
        · rw [if_neg d] at hxy hQ
          obtain ⟨rfl, rfl⟩ := hxy
          exact comesL_m hG hp hq hpq r m (i + 1) _ _ ρ (by omega) (by omega) (by omega) hρ hx hy hF3 hQ
      · rw [if_neg c]
        rw [if_neg c] at hQ
        refine comesJ_m ⟨p0, by omega⟩ ⟨q0, by omega⟩ hpq (by omega) t85 hx hy (fun x' y' ρ hxy hρ hr => ?_)
        have hF3 : Fr [85, 93, 94] σ0 ρ := hF2.tr (hr.mo (by decide))
        cases m with
        | zero => omega
        | succ m =>
          rw [fX11_comes_L38]
          by_cases l : 20 < i + 1
          · rw [if_pos l]; exact hQ x' y' ρ hρ hF3
          · rw [if_neg l, if_neg (show ¬ i = -1 by omega)]; exact hQ x' y' ρ hρ hF3
theorem op_comes {has : Bool} {N : Nat} (hN : N ≤ 511) (x1 x2 : Int) (h1 : bw x1 = x1) (h2 : bw x2 = x2) : OpE has N (fX10_comes x1 x2) (fX11_comes x1 x2) := by
  intro σ h
  have hC := h.1
  have hW := hC.1
  have h12 := hW.1.2.2.2.2.2.1
  have har : fX1_areTwo 4 x1 x2 σ = if isP (rd σ 85) x1 ∧ isP (rd σ 85) x2 ∧ x1 ≠ x2 then 1 else 0 := areTwo_c hC x1 x2
  by_cases n1 : ¬ (isP (rd σ 85) x1 ∧ isP (rd σ 85) x2 ∧ x1 ≠ x2)
  · refine opE_no (v := -1) h ?_ ?_
    · unfold fX10_comes
      rw [har, if_neg n1, if_pos p00]
    · unfold fX11_comes
      rw [areUnlike_m hW rfl, if_neg (fun z => n1 ⟨z.1, z.2.1, fun e => z.2.2 (by rw [e])⟩), Option.bind_some, if_pos p00]
  obtain ⟨c1, c2, c3⟩ := Classical.not_not.mp n1
  have a0 := c1.1
  have a1 := c1.2
  have b0 := c2.1
  have b1 := c2.2
  have s1 : rd σ 5 x1 = rd σ 85 (91 + x1) := (hC.2.2.2.1.2 x1 c1).1
  have s2 : rd σ 5 x2 = rd σ 85 (91 + x2) := (hC.2.2.2.1.2 x2 c2).1
  have m1 : rd σ 6 x1 = rd σ 85 (103 + x1) := (hC.2.2.2.1.2 x1 c1).2.1
  have m2 : rd σ 6 x2 = rd σ 85 (103 + x2) := (hC.2.2.2.1.2 x2 c2).2.1
  by_cases n2 : rd σ 85 (91 + x1) = rd σ 85 (91 + x2)
  · refine opE_no (v := -1) h ?_ ?_
    · unfold fX10_comes
      rw [har, if_pos (show isP (rd σ 85) x1 ∧ isP (rd σ 85) x2 ∧ x1 ≠ x2 from ⟨c1, c2, c3⟩), if_neg n10, grd_pos (by omega), grd_pos (by omega), s1, s2, if_pos n2]
    · unfold fX11_comes
      rw [areUnlike_m hW rfl, if_neg (fun z => z.2.2 n2), Option.bind_some, if_pos p00]
  have hx := (hW.2.2.1 x1 c1).2.1
  have hy := (hW.2.2.1 x2 c2).2.1
  refine opE_ro (v := cmS (rd σ 85) x1 x2 21 (rd σ 85 (103 + x1)) (rd σ 85 (103 + x2)) 0) h ?_ (fun τ hk => ?_)
  · show wp (fX10_comes x1 x2 σ) _
    unfold fX10_comes
    rw [har, if_pos (show isP (rd σ 85) x1 ∧ isP (rd σ 85) x2 ∧ x1 ≠ x2 from ⟨c1, c2, c3⟩), if_neg n10, grd_pos (by omega), grd_pos (by omega), s1, s2, if_neg n2, grd_pos (by omega), grd_pos (by omega), m1, m2]
    refine wp_mono (comesL_c (σ0 := σ) c1 c2 21 FU 0 _ _ σ (by omega) (by omega) (by unfold FU; omega) hC hx hy Fr.rf) (fun t ht => ⟨ht.1, keep_c ht.2⟩)
  · have e85 : rd τ 85 = rd σ 85 := hk.1 85 (by decide)
    show wp (fX11_comes x1 x2 τ) _
    unfold fX11_comes
    rw [areUnlike_m hW e85, if_pos (show isP (rd σ 85) x1 ∧ isP (rd σ 85) x2 ∧ rd σ 85 (91 + x1) ≠ rd σ 85 (91 + x2) from ⟨c1, c2, n2⟩), Option.bind_some, if_neg n10, bw_id (z := 103 + x1) (by omega) (by omega), bw_id (z := 103 + x2) (by omega) (by omega), grd_pos (by omega), grd_pos (by omega)]
    refine comesL_m (σ0 := τ) hC c1 c2 c3 21 FU 0 (rd σ 85 (103 + x1)) (rd σ 85 (103 + x2)) τ (by omega) (by omega) (by unfold FU; omega) (by rw [tmR_id c3]; exact e85) hx hy Fr.rf (fun x' y' ρ hρ hr => ?_)
    rw [grd_pos (by omega), grd_pos (by omega), wp_some]
    have q85 : rd (wr (wr ρ 85 (103 + x1) (rd τ 85 (103 + x1))) 85 (103 + x2) (rd τ 85 (103 + x2))) 85 = rd τ 85 := by
      rw [wr_row, wr_row, rd_bw, rd_bw, hρ, tmR_w, e85, tmR_id c3]
    have qo : ∀ (c : Nat) (j : Int), c ∉ [85, 93, 94] → rd (wr (wr ρ 85 (103 + x1) (rd τ 85 (103 + x1))) 85 (103 + x2) (rd τ 85 (103 + x2))) c j = rd τ c j := fun c j hc => by
      have : c ≠ 85 := fun e => hc (by rw [e]; decide)
      rw [rq_c this, rq_c this]
      exact hr c j hc
    refine ⟨rfl, fun c hc => ?_, fun z hz => qo z.1 z.2 ((by decide : ∀ z ∈ kslots, z.1 ∉ [85, 93, 94]) z hz)⟩
    by_cases e : c = 85
    · rw [e]; exact q85
    · exact funext fun j => qo c j ((by decide : ∀ c ∈ kcells, c ≠ 85 → c ∉ [85, 93, 94]) c hc e)
