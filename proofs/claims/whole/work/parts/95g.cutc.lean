/-! cut: the class -/
def dlW (d : Int) : Int := if d = 0 then -8 else if d = 1 then 1 else if d = 2 then 8 else -1
theorem go_val {w : Int → Int} {f d : Int} (hf : isF w f) (hd : 0 ≤ d ∧ d < 4) (hg : goW w f d ≠ -1) : goW w f d = f + dlW d := by
  have fb := isF_b hf
  unfold goW go2 at hg ⊢
  split at hg
  · rename_i c
    rw [if_pos c]
    unfold dxW dyW dlW
    have : d = 0 ∨ d = 1 ∨ d = 2 ∨ d = 3 := by omega
    rcases this with e | e | e | e <;> subst e <;> simp <;> omega
  · exact absurd rfl hg
theorem go_inv {w : Int → Int} {f d : Int} (h80 : w 80 ≤ 8) (hf : isF w f) (hd : 0 ≤ d ∧ d < 4) (hg : isF w (goW w f d)) : goW w (goW w f d) ((d + 2) % 4) = f := by
  have fb := isF_b hf
  have gb := isF_b hg
  have hv := go_val hf hd (by omega)
  have h := hg
  unfold goW go2 at h
  split at h
  · rename_i c
    obtain ⟨f1, f2, f3, f4⟩ := hf
    obtain ⟨g1, g2, g3, g4⟩ := hg
    rw [hv] at g1 g2 g3 g4 ⊢
    have hd4 : d = 0 ∨ d = 1 ∨ d = 2 ∨ d = 3 := by omega
    unfold goW go2
    rcases hd4 with e | e | e | e
    · subst e
      have e1 : dlW 0 = -8 := by decide
      have e2 : dxW ((0 + 2) % 4) = 0 := by decide
      have e3 : dyW ((0 + 2) % 4) = 1 := by decide
      rw [e1] at g1 g2 g3 g4 ⊢
      rw [e2, e3, if_pos (by omega)]
      omega
    · subst e
      have e1 : dlW 1 = 1 := by decide
      have e2 : dxW ((1 + 2) % 4) = -1 := by decide
      have e3 : dyW ((1 + 2) % 4) = 0 := by decide
      have e4 : dxW 1 = 1 := by decide
      have e5 : dyW 1 = 0 := by decide
      rw [e4, e5] at c
      rw [e1] at g1 g2 g3 g4 ⊢
      rw [e2, e3, if_pos (by omega)]
      omega
    · subst e
      have e1 : dlW 2 = 8 := by decide
      have e2 : dxW ((2 + 2) % 4) = 0 := by decide
      have e3 : dyW ((2 + 2) % 4) = -1 := by decide
      rw [e1] at g1 g2 g3 g4 ⊢
      rw [e2, e3, if_pos (by omega)]
      omega
    · subst e
      have e1 : dlW 3 = -1 := by decide
      have e2 : dxW ((3 + 2) % 4) = 1 := by decide
      have e3 : dyW ((3 + 2) % 4) = 0 := by decide
      have e4 : dxW 3 = -1 := by decide
      have e5 : dyW 3 = 0 := by decide
      rw [e4, e5] at c
      rw [e1] at g1 g2 g3 g4 ⊢
      rw [e2, e3, if_pos (by omega)]
      omega
  · have := h.1
    omega
theorem dir_r (f g : Int) : 0 ≤ fX8_direction f g ∧ fX8_direction f g < 4 := by
  unfold fX8_direction
  repeat' split
  all_goals omega
theorem dir_val {w : Int → Int} {f g d : Int} (hf : isF w f) (hg : isF w g) (hd : 0 ≤ d ∧ d < 4) (h : goW w f d = g) : fX8_direction f g = d := by
  have fb := isF_b hf
  have gb := isF_b hg
  have hv := go_val hf hd (by omega)
  rw [h] at hv
  unfold fX8_direction
  rw [bw_id (z := f - 8) (by omega) (by omega), bw_id (z := f + 1) (by omega) (by omega), bw_id (z := f + 8) (by omega) (by omega)]
  have hd4 : d = 0 ∨ d = 1 ∨ d = 2 ∨ d = 3 := by omega
  rcases hd4 with e | e | e | e
  · subst e
    have e1 : dlW 0 = -8 := by decide
    rw [if_pos (by omega)]
  · subst e
    have e1 : dlW 1 = 1 := by decide
    rw [if_neg (by omega), if_pos (by omega)]
  · subst e
    have e1 : dlW 2 = 8 := by decide
    rw [if_neg (by omega), if_neg (by omega), if_pos (by omega)]
  · subst e
    have e1 : dlW 3 = -1 := by decide
    rw [if_neg (by omega), if_neg (by omega), if_neg (by omega)]
theorem bxor_1 : ∀ e : Nat, e < 128 → bxor (e : Int) 1 = if (e : Int) % 2 = 0 then (e : Int) + 1 else (e : Int) - 1 := by decide +kernel
abbrev Tst := (Int → Int) × (Int → Int)
def tuS (e x : Int) (T : Tst) : Tst := if e / 2 = x / 2 then (upz T.1 (e / 2) (if e % 2 = 0 then 1 else 0), T.2) else if e % 2 = 1 then (T.1, upz T.2 (4 * (e / 2) + fX8_direction (e / 2) (x / 2)) 1) else (T.1, upz T.2 (4 * (x / 2) + fX8_direction (x / 2) (e / 2)) 0)
def pthS (cam : Int → Int) (s : Int) : Nat → Int → Tst → Tst
  | 0, _, T => T
  | r + 1, x, T => if x = s then T else pthS cam s r (cam x) (tuS (cam x) x T)
def THc (ρ : Sg) (T : Tst) : Prop := (∀ f, 0 ≤ f → f < 56 → rd ρ 78 f = T.1 f) ∧ ∀ k, 0 ≤ k → k < 224 → rd ρ 79 k = T.2 k
def CRc (ρ : Sg) (S : Cst) : Prop := (∀ x, 0 ≤ x → x < 112 → rd ρ 77 x = S.1 x) ∧ (∀ i, 0 ≤ i → i < S.2.2 → rd ρ 75 i = S.2.1 i) ∧ rd ρ 74 5 = S.2.2
theorem reach_c {w gs : Int → Int} {a x e : Int} {ρ : Sg} {S : Cst} (hC : CIs w gs a S) (hR : CRc ρ S) (hx : 0 ≤ x ∧ x < 112) (he : 0 ≤ e ∧ e < 112) : ∃ τ, fX8_reach x e ρ = some τ ∧ Fr [74, 75, 77] ρ τ ∧ CRc τ (rchS x e S) := by
  obtain ⟨r1, r2, r3⟩ := hR
  have hpos := hC.2.2.2.1.2
  unfold fX8_reach rchS
  rw [grd_pos (by omega), r1 x hx.1 hx.2]
  by_cases c : S.1 x = -1
  · have hup := cnS_up (S := S) (x := x) (e := e) (k := 112) hx.1 (by omega) c he.1
    have hle := cnS_r (rchS x e S) 112
    have hn := hC.2.2.2.2.1
    rw [if_pos c, if_pos c, r3, if_pos (by omega), grd_pos (by omega)]
    have e74 : ∀ v u : Int, rd (wr ρ 77 v u) 74 5 = S.2.2 := fun v u => (rq_c (by decide)).trans r3
    rw [e74, grd_pos (by omega)]
    have e742 : rd (wr (wr ρ 77 x e) 75 S.2.2 x) 74 5 = S.2.2 := (rq_c (by decide)).trans (e74 x e)
    rw [e742, bw_id (z := S.2.2 + 1) (by omega) (by omega)]
    refine ⟨_, rfl, ((Fr.rf.wr (by decide)).wr (by decide)).wr (by decide), fun y y0 y1 => ?_, fun i i0 i1 => ?_, ?_⟩
    · rw [rq_c (by decide), rq_c (by decide), wr_row, bw_id (z := e) (by omega) (by omega)]
      show upz _ _ _ y = upz _ _ _ y
      by_cases e1 : y = x
      · rw [e1, upz_s, upz_s]
      · rw [upz_n e1, upz_n e1]; exact r1 y y0 y1
    · simp only at i1
      rw [rq_c (by decide), wr_row, bw_id (z := x) (by omega) (by omega)]
      show upz _ _ _ i = upz _ _ _ i
      by_cases e1 : i = S.2.2
      · rw [e1, upz_s, upz_s]
      · rw [upz_n e1, upz_n e1, rq_c (by decide)]; exact r2 i i0 (by omega)
    · rw [rq_s, bw_id (by omega) (by omega)]
  · rw [if_neg c, if_neg c]
    exact ⟨ρ, rfl, Fr.rf, r1, r2, r3⟩
theorem sides_c {m : Int} {w : Int → Int} {T : Tst} {σ0 : Sg} {a b e h x5 : Int} {k66 : Int → Sg → Option (Int × Sg)} {Q : Int × Sg → Prop} (hC0 : CW m w σ0 1) (hT : THc σ0 T) (hg : ∀ k, T.2 k = 0 ∨ T.2 k = 1) (hef : isF w (e / 2)) : ∀ (r n : Nat) (d : Int) (ρ : Sg) (S : Cst), d + r = 4 → 0 ≤ d → r < n → Fr [74, 75, 77] σ0 ρ → CRc ρ S → CIs w T.2 a S → 0 ≤ h ∧ h < S.2.2 → S.2.1 h = e → (∀ τ, Fr [74, 75, 77] σ0 τ → CRc τ (sidesS w T.2 e r d S) → wp (k66 (bw (x5 + 1)) τ) Q) → wp (fX8_search_L142 1 k66 b x5 e (e / 2) (e % 2) n d ρ) Q
  | 0, n, d, ρ, S, hd, d0, hn, hF, hR, hI, hh, he, hk => by
    cases n with
    | zero => omega
    | succ n =>
      rw [fX8_search_L142, if_neg (by omega)]
      exact hk ρ hF hR
  | r + 1, n, d, ρ, S, hd, d0, hn, hF, hR, hI, hh, he, hk => by
    have fb := isF_b hef
    have hC2 : CW m w ρ 1 := hC0.fr hF (by decide)
    have eb : fX9_beside 1 (e / 2) d ρ = goW w (e / 2) d := beside_c d hC2.2.1.1 hC2.2.1.2.1 (by omega)
    have e79 : ∀ k, 0 ≤ k → k < 224 → rd ρ 79 k = T.2 k := fun k k0 k1 => (hF 79 k (by decide)).trans (hT.2 k k0 k1)
    obtain ⟨i1, i2, i3⟩ := CI_side (d := d) hI hh he (by omega)
    cases n with
    | zero => omega
    | succ n =>
      rw [sidesS] at hk
      rw [fX8_search_L142, if_pos (by omega), eb, bw_id (z := d + 1) (by omega) (by omega)]
      have go : ∀ τ, Fr [74, 75, 77] σ0 τ → CRc τ (sideS w T.2 e d S) → wp (fX8_search_L142 1 k66 b x5 e (e / 2) (e % 2) n (d + 1) τ) Q := fun τ hτ hR2 => sides_c hC0 hT hg hef r n (d + 1) τ _ (by omega) (by omega) (by omega) hτ hR2 i1 (by omega) i3 hk
      by_cases g0 : goW w (e / 2) d = -1
      · rw [if_pos g0]
        refine go ρ hF ?_
        unfold sideS
        rw [if_neg (fun z => by have := isF_b z.1; omega)]
        exact hR
      · have g1 := (goW_F hC2.1.1.1.2 hC2.1.1.2.1.2 (e / 2) d).resolve_left g0
        have gb := isF_b g1
        rw [if_neg g0, isSteep_c hC2 g1, Option.bind_some]
        by_cases g2 : w (4 + goW w (e / 2) d) < w 83
        · rw [if_pos g2, if_pos p00]
          by_cases o : e % 2 = 0
          · have hgd := hg (4 * goW w (e / 2) d + (d + 2) % 4)
            rw [if_pos o]
            unfold fX8_search_J206
            rw [if_pos o, bw_id (z := d + 2) (by omega) (by omega), trm_pos (by omega) (by omega) (by omega) (by omega), bw_id (z := 4 * goW w (e / 2) d) (by omega) (by omega), bw_id (z := 4 * goW w (e / 2) d + (d + 2) % 4) (by omega) (by omega), grd_pos (by omega), e79 _ (by omega) (by omega), bw_id (z := d + 1) (by omega) (by omega)]
            by_cases c : T.2 (4 * goW w (e / 2) d + (d + 2) % 4) = 0
            · rw [if_pos c]
              refine go ρ hF ?_
              unfold sideS
              rw [if_pos ⟨g1, g2⟩, if_neg (by omega), if_neg (by omega)]
              exact hR
            · rw [if_neg c, bw_id (z := 2 * goW w (e / 2) d) (by omega) (by omega), bw_id (z := 2 * goW w (e / 2) d + 1) (by omega) (by omega)]
              obtain ⟨τ, t1, t2, t3⟩ := reach_c (x := 2 * goW w (e / 2) d + 1) (e := e) hI hR (by omega) (by omega)
              rw [t1, Option.bind_some]
              refine go τ (hF.tr t2) ?_
              unfold sideS
              rw [if_pos ⟨g1, g2⟩, if_neg (by omega), if_pos (by omega)]
              exact t3
          · rw [if_neg o, bw_id (z := 4 * (e / 2)) (by omega) (by omega), bw_id (z := 4 * (e / 2) + d) (by omega) (by omega), grd_pos (by omega), e79 _ (by omega) (by omega)]
            have j : ∀ τ, fX8_search_J206 1 (fX8_search_L142 1 k66 b x5 e (e / 2) (e % 2) n) b x5 e (e / 2) (e % 2) d (goW w (e / 2) d) τ = fX8_search_L142 1 k66 b x5 e (e / 2) (e % 2) n (d + 1) τ := fun τ => by
              unfold fX8_search_J206
              rw [if_neg o, bw_id (z := d + 1) (by omega) (by omega)]
            by_cases c : T.2 (4 * (e / 2) + d) = 0
            · rw [if_pos c, bw_id (z := 2 * goW w (e / 2) d) (by omega) (by omega)]
              obtain ⟨τ, t1, t2, t3⟩ := reach_c (x := 2 * goW w (e / 2) d) (e := e) hI hR (by omega) (by omega)
              rw [t1, Option.bind_some, j]
              refine go τ (hF.tr t2) ?_
              unfold sideS
              rw [if_pos ⟨g1, g2⟩, if_pos (by omega), if_pos c]
              exact t3
            · rw [if_neg c, j]
              refine go ρ hF ?_
              unfold sideS
              rw [if_pos ⟨g1, g2⟩, if_pos (by omega), if_neg c]
              exact hR
        · rw [if_neg g2, if_neg n10]
          refine go ρ hF ?_
          unfold sideS
          rw [if_neg (fun z => g2 z.2)]
          exact hR
theorem bfsD_c {m : Int} {w : Int → Int} {T : Tst} {σ0 : Sg} {a b : Int} {k254 : Sg → Option (Int × Sg)} {Q : Int × Sg → Prop} (hC0 : CW m w σ0 1) (hT : THc σ0 T) (hg : ∀ k, T.2 k = 0 ∨ T.2 k = 1) (hb : isF w b) : ∀ (r n : Nat) (h : Int) (ρ : Sg) (S : Cst), h + r = 113 → 0 ≤ h → r < n → Fr [74, 75, 77] σ0 ρ → CRc ρ S → CIs w T.2 a S → (∀ τ, Fr [74, 75, 77] σ0 τ → CRc τ (bfD w T.1 T.2 (2 * b) r h S) → wp (k254 τ) Q) → wp (fX8_search_L66 1 k254 b n h ρ) Q
  | 0, n, h, ρ, S, hh, h0, hn, hF, hR, hI, hk => by
    have := CI_n hI
    cases n with
    | zero => omega
    | succ n =>
      rw [fX8_search_L66, hR.2.2, if_neg (by omega)]
      exact hk ρ hF hR
  | r + 1, n, h, ρ, S, hh, h0, hn, hF, hR, hI, hk => by
    have hnn := CI_n hI
    have bb := isF_b hb
    cases n with
    | zero => omega
    | succ n =>
      rw [bfD] at hk
      rw [fX8_search_L66, hR.2.2]
      by_cases c1 : h < S.2.2
      · rw [if_pos c1, bw_id (z := 2 * b) (by omega) (by omega), grd_pos (by omega), hR.1 _ (by omega) (by omega)]
        by_cases c2 : S.1 (2 * b) = -1
        · rw [if_pos (show h < S.2.2 ∧ S.1 (2 * b) = -1 from ⟨c1, c2⟩)] at hk
          have hq := (hI.1 h h0 c1).1
          have qb := isF_b hq
          rw [if_pos c2, grd_pos (by omega), hR.2.1 h h0 c1]
          obtain ⟨o1, o2, o3⟩ := CI_own (th := T.1) hI ⟨h0, c1⟩ rfl
          have e2 : bshr (S.2.1 h) 1 = S.2.1 h / 2 := bshr_1 (bw_id (by omega) (by omega))
          have e1 : band (S.2.1 h) 1 = S.2.1 h % 2 := band_1 (bw_id (by omega) (by omega))
          have key : wp (fX8_search_J115 1 (fX8_search_L66 1 k254 b n) b h (S.2.1 h) (S.2.1 h / 2) (S.2.1 h % 2) ρ) Q := by
            have fin : ∀ τ, Fr [74, 75, 77] σ0 τ → CRc τ (ownS T.1 (S.2.1 h) S) → wp (fX8_search_J139 1 (fX8_search_L66 1 k254 b n) b h (S.2.1 h) (S.2.1 h / 2) (S.2.1 h % 2) τ) Q := by
              intro τ hτ hR2
              unfold fX8_search_J139
              refine sides_c hC0 hT hg hq 4 FU 0 τ _ (by omega) (by omega) (by unfold FU; omega) hτ hR2 o1 (h := h) (by omega) o3 (fun α hα hR3 => ?_)
              rw [bw_id (z := h + 1) (by omega) (by omega)]
              exact bfsD_c hC0 hT hg hb r n (h + 1) α _ (by omega) (by omega) (by omega) hα hR3 (CI_exp hI ⟨h0, c1⟩).1 hk
            unfold fX8_search_J115
            have e78 : rd ρ 78 (S.2.1 h / 2) = T.1 (S.2.1 h / 2) := (hF 78 _ (by decide)).trans (hT.1 _ qb.1 qb.2)
            rw [grd_pos (by omega), e78]
            by_cases c3 : T.1 (S.2.1 h / 2) = S.2.1 h % 2
            · have ex : bxor (S.2.1 h) 1 = if S.2.1 h % 2 = 0 then S.2.1 h + 1 else S.2.1 h - 1 := by
                have := bxor_1 (S.2.1 h).toNat (by omega)
                rw [show (((S.2.1 h).toNat : Nat) : Int) = S.2.1 h by omega] at this
                exact this
              obtain ⟨τ, t1, t2, t3⟩ := reach_c (x := if S.2.1 h % 2 = 0 then S.2.1 h + 1 else S.2.1 h - 1) (e := S.2.1 h) hI hR (by split <;> omega) (by omega)
              rw [if_pos c3.symm, ex, t1, Option.bind_some]
              refine fin τ (hF.tr t2) ?_
              unfold ownS
              rw [if_pos c3]
              exact t3
            · rw [if_neg (fun z => c3 z.symm)]
              refine fin ρ hF ?_
              unfold ownS
              rw [if_neg c3]
              exact hR
          rw [e1, e2]
          by_cases c4 : S.2.1 h % 2 = 1
          · rw [if_pos c4]
            rw [c4] at key
            exact key
          · have c5 : S.2.1 h % 2 = 0 := by omega
            rw [if_neg c4]
            rw [c5] at key
            exact key
        · rw [if_neg (show ¬ (h < S.2.2 ∧ S.1 (2 * b) = -1) from fun z => c2 z.2)] at hk
          rw [if_neg c2]
          exact hk ρ hF hR
      · rw [if_neg (show ¬ (h < S.2.2 ∧ S.1 (2 * b) = -1) from fun z => c1 z.1)] at hk
        rw [if_neg c1]
        exact hk ρ hF hR
