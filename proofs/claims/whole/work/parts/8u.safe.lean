/-! safe: ways by breadth -/
abbrev Bst := (Int → Int) × (Int → Int) × Int
def stp (w : Int → Int) (f d : Int) (S : Bst) : Bst := if isF w (goW w f d) ∧ w (4 + goW w f d) < w 83 ∧ S.1 (goW w f d) = -1 then (upz S.1 (goW w f d) (S.1 f + 1), upz S.2.1 S.2.2 (goW w f d), S.2.2 + 1) else S
def stps (w : Int → Int) (f : Int) : Nat → Int → Bst → Bst
  | 0, _, S => S
  | r + 1, d, S => stps w f r (d + 1) (stp w f d S)
def BV (w : Int → Int) (S : Bst) : Prop := (∀ i, 0 ≤ i → i < S.2.2 → isF w (S.2.1 i) ∧ 0 ≤ S.1 (S.2.1 i)) ∧ (∀ f, -1 ≤ S.1 f ∧ S.1 f < S.2.2) ∧ S.2.2 ≤ sumN (fun f => if S.1 f = -1 then 0 else 1) 64
theorem BV_n {w : Int → Int} {S : Bst} (h : BV w S) : S.2.2 ≤ 64 := by
  have := sumN_r (f := fun f => if S.1 f = -1 then 0 else 1) (k := 1) (fun i _ => by split <;> omega) 64
  have := h.2.2
  omega
theorem stp_keep {w : Int → Int} {f d : Int} {S : Bst} : (∀ g, S.1 g ≠ -1 → (stp w f d S).1 g = S.1 g) ∧ (∀ i, i < S.2.2 → (stp w f d S).2.1 i = S.2.1 i) ∧ S.2.2 ≤ (stp w f d S).2.2 := by
  unfold stp
  by_cases c : isF w (goW w f d) ∧ w (4 + goW w f d) < w 83 ∧ S.1 (goW w f d) = -1
  · rw [if_pos c]
    refine ⟨fun g hg => upz_n (fun z => hg (by rw [z]; exact c.2.2)), fun i hi => upz_n (by omega), ?_⟩
    simp only; omega
  · rw [if_neg c]
    exact ⟨fun _ _ => rfl, fun _ _ => rfl, Int.le_refl _⟩
theorem stps_keep {w : Int → Int} {f : Int} : ∀ (r : Nat) (d : Int) (S : Bst), (∀ g, S.1 g ≠ -1 → (stps w f r d S).1 g = S.1 g) ∧ (∀ i, i < S.2.2 → (stps w f r d S).2.1 i = S.2.1 i) ∧ S.2.2 ≤ (stps w f r d S).2.2
  | 0, _, _ => ⟨fun _ _ => rfl, fun _ _ => rfl, Int.le_refl _⟩
  | r + 1, d, S => by
    obtain ⟨a1, a2, a3⟩ := stp_keep (w := w) (f := f) (d := d) (S := S)
    obtain ⟨b1, b2, b3⟩ := stps_keep (w := w) (f := f) r (d + 1) (stp w f d S)
    rw [stps]
    exact ⟨fun g hg => (b1 g (by rw [a1 g hg]; exact hg)).trans (a1 g hg), fun i hi => (b2 i (by omega)).trans (a2 i hi), by omega⟩
theorem stp_V {w : Int → Int} {f d : Int} {S : Bst} (h : BV w S) (hf : 0 ≤ S.1 f) (h0 : 0 ≤ S.2.2) : BV w (stp w f d S) := by
  unfold stp
  by_cases c : isF w (goW w f d) ∧ w (4 + goW w f d) < w 83 ∧ S.1 (goW w f d) = -1
  · rw [if_pos c]
    have gb := isF_b c.1
    have hl := h.2.1 f
    refine ⟨fun i i0 i1 => ?_, fun g => ?_, ?_⟩
    · simp only at i1 ⊢
      by_cases e : i = S.2.2
      · rw [e, upz_s, upz_s]
        exact ⟨c.1, by omega⟩
      · rw [upz_n e]
        obtain ⟨q1, q2⟩ := h.1 i i0 (by omega)
        refine ⟨q1, ?_⟩
        rw [upz_n (fun z => by rw [z, c.2.2] at q2; omega)]
        exact q2
    · simp only
      by_cases e : g = goW w f d
      · rw [e, upz_s]; omega
      · rw [upz_n e]
        have := h.2.1 g
        omega
    · simp only
      have := sumN_lt (f := fun f => if S.1 f = -1 then 0 else 1) (g := fun j => if upz S.1 (goW w f d) (S.1 f + 1) j = -1 then 0 else 1) (k := goW w f d) gb.1 (by rw [if_pos c.2.2, upz_s, if_neg (by omega)]; omega) 64 (by omega) (fun i i0 i1 => by
        by_cases e : i = goW w f d
        · rw [e, if_pos c.2.2, upz_s, if_neg (by omega)]; omega
        · rw [upz_n e]; exact Int.le_refl _)
      have := h.2.2
      omega
  · rw [if_neg c]
    exact h
def bfC (w : Int → Int) (b : Int) : Nat → Int → Bst → Int
  | 0, _, S => S.1 b
  | r + 1, h, S => if h < S.2.2 ∧ S.1 b = -1 then bfC w b r (h + 1) (stps w (S.2.1 h) 4 0 S) else S.1 b
def bfM (w : Int → Int) (b : Int) : Nat → Int → Bst → Int
  | 0, _, S => S.1 b
  | r + 1, h, S => if h < S.2.2 then bfM w b r (h + 1) (stps w (S.2.1 h) 4 0 S) else S.1 b
theorem bfM_keep {w : Int → Int} {b : Int} : ∀ (r : Nat) (h : Int) (S : Bst), S.1 b ≠ -1 → bfM w b r h S = S.1 b
  | 0, _, _, _ => rfl
  | r + 1, h, S, hb => by
    have e := (stps_keep (w := w) (f := S.2.1 h) 4 0 S).1 b hb
    rw [bfM]
    split
    · rw [bfM_keep r (h + 1) _ (by rw [e]; exact hb), e]
    · rfl
theorem bf_eq {w : Int → Int} {b : Int} : ∀ (r : Nat) (h : Int) (S : Bst), bfC w b r h S = bfM w b r h S
  | 0, _, _ => rfl
  | r + 1, h, S => by
    by_cases c : S.1 b = -1
    · rw [bfC, bfM]
      by_cases e : h < S.2.2
      · rw [if_pos ⟨e, c⟩, if_pos e]
        exact bf_eq r (h + 1) _
      · rw [if_neg (fun z => e z.1), if_neg e]
    · rw [bfM_keep (r + 1) h S c, bfC, if_neg (fun z => c z.2)]
def BC (σ : Sg) (S : Bst) : Prop := (∀ f, 0 ≤ f → f < 56 → rd σ 76 f = S.1 f) ∧ (∀ i, 0 ≤ i → i < S.2.2 → rd σ 75 i = S.2.1 i) ∧ rd σ 74 5 = S.2.2
theorem isSteep_c {m : Int} {w : Int → Int} {σ : Sg} {x : Int} (hC : CW m w σ 1) (hx : isF w x) : fX9_isSteep 1 x σ = some (if w (4 + x) < w 83 then 0 else 1) := by
  have xb := isF_b hx
  have e1 : rd σ 2 x = w (4 + x) := hC.2.2.1.1 x hx
  have e2 : rd σ 1 3 = w 83 := hC.2.1.2.2.2.1
  unfold fX9_isSteep
  rw [grd_pos (by omega), e2, show rd σ (1 + 1) x = w (4 + x) from e1]
  split <;> rfl
theorem exp_c {m : Int} {w : Int → Int} {σ0 : Sg} {f b h : Int} {k64 : Int → Sg → Option (Int × Sg)} {Q : Int × Sg → Prop} (hC : CW m w σ0 1) (hf : isF w f) : ∀ (r n : Nat) (d : Int) (ρ : Sg) (S : Bst), d + r = 4 → 0 ≤ d → r < n → Fr [74, 75, 76] σ0 ρ → BC ρ S → BV w S → 0 ≤ S.2.2 → 0 ≤ S.1 f → (∀ τ, Fr [74, 75, 76] σ0 τ → BC τ (stps w f r d S) → BV w (stps w f r d S) → wp (k64 (bw (h + 1)) τ) Q) → wp (fX8_fewestSteps_L95 1 k64 b h f n d ρ) Q
  | 0, n, d, ρ, S, hd, d0, hn, hG, hB, hV, h0, h1, hk => by
    cases n with
    | zero => omega
    | succ n =>
      rw [fX8_fewestSteps_L95, if_neg (by omega)]
      exact hk ρ hG hB hV
  | r + 1, n, d, ρ, S, hd, d0, hn, hG, hB, hV, h0, h1, hk => by
    have fb := isF_b hf
    have hC2 : CW m w ρ 1 := hC.fr hG (by decide)
    have eb : fX9_beside 1 f d ρ = goW w f d := beside_c d hC2.2.1.1 hC2.2.1.2.1 (by omega)
    have hnn := BV_n hV
    cases n with
    | zero => omega
    | succ n =>
      rw [stps] at hk
      have kp := stp_keep (w := w) (f := f) (d := d) (S := S)
      have hV2 := stp_V (d := d) hV h1 h0
      rw [fX8_fewestSteps_L95, if_pos (by omega), eb, bw_id (z := d + 1) (by omega) (by omega)]
      have same : stp w f d S = S → wp (fX8_fewestSteps_L95 1 k64 b h f n (d + 1) ρ) Q := fun e => by
        rw [e] at hk
        exact exp_c hC hf r n (d + 1) ρ S (by omega) (by omega) (by omega) hG hB hV h0 h1 hk
      rcases goW_F hC.1.1.1.2 hC.1.1.2.1.2 f d with g1 | g1
      · rw [if_pos g1]
        refine same ?_
        unfold stp
        rw [if_neg (fun z => by have := (isF_b z.1).1; omega)]
      · have gb := isF_b g1
        rw [if_neg (show ¬ goW w f d = -1 by omega), grd_pos (by omega), hB.1 _ gb.1 gb.2]
        by_cases c1 : S.1 (goW w f d) = -1
        · rw [if_pos c1, isSteep_c hC2 g1, Option.bind_some]
          by_cases c2 : w (4 + goW w f d) < w 83
          · have es : stp w f d S = (upz S.1 (goW w f d) (S.1 f + 1), upz S.2.1 S.2.2 (goW w f d), S.2.2 + 1) := by
              unfold stp; rw [if_pos ⟨g1, c2, c1⟩]
            have hl := hV.2.1 f
            rw [if_pos c2, if_pos p00, grd_pos (by omega), grd_pos (by omega)]
            simp (disch := decide) only [rq_c]
            rw [hB.2.2, grd_pos (by omega), hB.1 f fb.1 fb.2, bw_id (z := S.1 f + 1) (by omega) (by omega), bw_id (z := S.2.2 + 1) (by omega) (by omega)]
            rw [es] at hk hV2
            refine exp_c hC hf r n (d + 1) _ _ (by omega) (by omega) (by omega) (((hG.wr (by decide)).wr (by decide)).wr (by decide)) ⟨fun j j0 j1 => ?_, fun i i0 i1 => ?_, ?_⟩ hV2 (by simp only; omega) ?_ hk
            · rw [rq_c (by decide), rq_c (by decide), wr_row, bw_id (z := S.1 f + 1) (by omega) (by omega)]
              show upz _ _ _ j = upz _ _ _ j
              unfold upz
              rw [hB.1 j j0 j1]
            · simp only at i1
              rw [rq_c (by decide), wr_row, bw_id (z := goW w f d) (by omega) (by omega)]
              show upz _ _ _ i = upz _ _ _ i
              by_cases e : i = S.2.2
              · rw [e, upz_s, upz_s]
              · rw [upz_n e, upz_n e, rq_c (by decide)]; exact hB.2.1 i i0 (by omega)
            · rw [rq_s, bw_id (by omega) (by omega)]
            · simp only
              by_cases e : f = goW w f d
              · rw [← e] at c1; omega
              · rw [upz_n e]; exact h1
          · rw [if_neg c2, if_neg n10]
            refine same ?_
            unfold stp
            rw [if_neg (fun z => c2 z.2.1)]
        · rw [if_neg c1]
          refine same ?_
          unfold stp
          rw [if_neg (fun z => c1 z.2.2)]
theorem bfs_c {m : Int} {w : Int → Int} {σ0 : Sg} {b : Int} (hC : CW m w σ0 1) (hb : isF w b) : ∀ (r n : Nat) (h : Int) (ρ : Sg) (S : Bst), h + r = 65 → 0 ≤ h → r < n → Fr [74, 75, 76] σ0 ρ → BC ρ S → BV w S → 0 ≤ S.2.2 → wp (fX8_fewestSteps_L64 1 b n h ρ) (fun q => q.1 = bfC w b r h S ∧ Fr [74, 75, 76] σ0 q.2)
  | 0, n, h, ρ, S, hh, h0, hn, hG, hB, hV, hc => by
    have bb := isF_b hb
    have hnn := BV_n hV
    cases n with
    | zero => omega
    | succ n =>
      rw [fX8_fewestSteps_L64, hB.2.2, if_neg (by omega), grd_pos (by omega), hB.1 b bb.1 bb.2, wp_some]
      exact ⟨rfl, hG⟩
  | r + 1, n, h, ρ, S, hh, h0, hn, hG, hB, hV, hc => by
    have bb := isF_b hb
    have hnn := BV_n hV
    cases n with
    | zero => omega
    | succ n =>
      rw [fX8_fewestSteps_L64, hB.2.2]
      by_cases c1 : h < S.2.2
      · rw [if_pos c1, grd_pos (by omega), hB.1 b bb.1 bb.2]
        by_cases c2 : S.1 b = -1
        · obtain ⟨v1, v2⟩ := hV.1 h h0 c1
          have hs : bfC w b (r + 1) h S = bfC w b r (h + 1) (stps w (S.2.1 h) 4 0 S) := by rw [bfC, if_pos ⟨c1, c2⟩]
          rw [if_pos c2, grd_pos (by omega), hB.2.1 h h0 c1, hs]
          refine exp_c hC v1 4 FU 0 ρ S (by omega) (by omega) (by unfold FU; omega) hG hB hV hc v2 (fun τ hτ hB2 hV2 => ?_)
          have := (stps_keep (w := w) (f := S.2.1 h) 4 0 S).2.2
          rw [bw_id (z := h + 1) (by omega) (by omega)]
          exact bfs_c hC hb r n (h + 1) τ _ (by omega) (by omega) (by omega) hτ hB2 hV2 (by omega)
        · have hs : bfC w b (r + 1) h S = S.1 b := by rw [bfC, if_neg (fun z => c2 z.2)]
          rw [if_neg c2, grd_pos (by omega), wp_some, hs]
          exact ⟨rfl, hG⟩
      · have hs : bfC w b (r + 1) h S = S.1 b := by rw [bfC, if_neg (fun z => c1 z.1)]
        rw [if_neg c1, grd_pos (by omega), hB.1 b bb.1 bb.2, wp_some, hs]
        exact ⟨rfl, hG⟩
def S0 (a : Int) : Bst := (upz (fun _ => -1) a 0, upz (fun _ => 0) 0 a, 1)
theorem S0_V {w : Int → Int} {a : Int} (ha : isF w a) : BV w (S0 a) := by
  have ab := isF_b ha
  unfold S0
  refine ⟨fun i i0 i1 => ?_, fun f => ?_, ?_⟩
  · simp only at i1 ⊢
    rw [show i = 0 by omega, upz_s, upz_s]
    exact ⟨ha, Int.le_refl _⟩
  · simp only
    by_cases e : f = a
    · rw [e, upz_s]; omega
    · rw [upz_n e]; exact ⟨Int.le_refl _, by decide⟩
  · simp only
    have h1 := sumN_r (f := fun f => (0 : Int)) (k := 0) (fun i _ => by simp) 64
    have := sumN_lt (f := fun _ => (0 : Int)) (g := fun j => if upz (fun _ => (-1 : Int)) a 0 j = -1 then 0 else 1) (k := a) ab.1 (by rw [upz_s, if_neg (by omega)]; omega) 64 (by omega) (fun i i0 i1 => by split <;> omega)
    omega
theorem safe_c {m : Int} {w : Int → Int} {σ : Sg} {a b : Int} (hC : CW m w σ 1) (ha : isF w a) (hb : isF w b) : wp (fX8_fewestSteps 1 a b σ) (fun q => q.1 = (if w (4 + a) < w 83 ∧ w (4 + b) < w 83 then bfC w b 65 0 (S0 a) else -1) ∧ Fr [74, 75, 76] σ q.2) := by
  have ab := isF_b ha
  have go : ∀ (r n : Nat) (i : Int) (ρ : Sg), i + r = 56 → 0 ≤ i → r < n → Fr [76] σ ρ → (∀ j, 0 ≤ j → j < i → rd ρ 76 j = -1) → wp (fX8_fewestSteps_L21 1 (fun s6 => grd ((0 : Int) ≤ a ∧ a < 56) (fX8_fewestSteps_L64 1 b FU 0 (wr (wr (wr s6 76 a 0) 75 0 a) 74 5 1))) a b n i ρ) (fun q => q.1 = bfC w b 65 0 (S0 a) ∧ Fr [74, 75, 76] σ q.2) := by
    intro r
    induction r with
    | zero =>
      intro n i ρ hi i0 hn hG hz
      cases n with
      | zero => omega
      | succ n =>
        rw [fX8_fewestSteps_L21, if_neg (by omega), grd_pos (by omega)]
        refine bfs_c hC hb 65 FU 0 _ (S0 a) (by omega) (by omega) (by unfold FU; omega) ((((hG.mo (by decide)).wr (by decide)).wr (by decide)).wr (by decide)) ⟨fun f f0 f1 => ?_, fun j j0 j1 => ?_, ?_⟩ (S0_V ha) (by unfold S0; simp only; omega)
        · rw [rq_c (by decide), rq_c (by decide), wr_row]
          unfold S0
          show upz (rd ρ 76) a (bw 0) f = upz (fun _ => -1) a 0 f
          by_cases e : f = a
          · rw [e, upz_s, upz_s]; rfl
          · rw [upz_n e, upz_n e]; exact hz f f0 (by omega)
        · unfold S0 at j1 ⊢
          simp only at j1
          rw [show j = 0 by omega, rq_c (by decide), rq_s, bw_id (by omega) (by omega)]
          show a = upz (fun _ => 0) 0 a 0
          rw [upz_s]
        · rw [rq_s]; rfl
    | succ r ih =>
      intro n i ρ hi i0 hn hG hz
      cases n with
      | zero => omega
      | succ n =>
        rw [fX8_fewestSteps_L21, if_pos (by omega), grd_pos (by omega), bw_id (z := i + 1) (by omega) (by omega)]
        refine ih n (i + 1) _ (by omega) (by omega) (by omega) (hG.wr (by decide)) (fun j j0 j1 => ?_)
        by_cases e : j = i
        · rw [e, rq_s]; rfl
        · rw [rq_i e]; exact hz j j0 (by omega)
  unfold fX8_fewestSteps
  rw [isSteep_c hC ha, Option.bind_some]
  by_cases c1 : w (4 + a) < w 83
  · rw [if_pos c1, if_pos p00, isSteep_c hC hb, Option.bind_some]
    by_cases c2 : w (4 + b) < w 83
    · rw [if_pos c2, if_pos p00, if_pos (show w (4 + a) < w 83 ∧ w (4 + b) < w 83 from ⟨c1, c2⟩)]
      exact go 56 FU 0 σ (by omega) (by omega) (by unfold FU; omega) Fr.rf (fun j j0 j1 => by omega)
    · rw [if_neg c2, if_neg n10, if_neg (show ¬ (w (4 + a) < w 83 ∧ w (4 + b) < w 83) from fun z => c2 z.2), wp_some]
      exact ⟨rfl, Fr.rf⟩
  · rw [if_neg c1, if_neg n10, if_neg (show ¬ (w (4 + a) < w 83 ∧ w (4 + b) < w 83) from fun z => c1 z.1), wp_some]
    exact ⟨rfl, Fr.rf⟩
