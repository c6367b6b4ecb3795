/-! safe: the model -/
theorem isSafe_m {w : Int → Int} {σ : Sg} (hW : Wf w) (hw : rd σ 85 = w) (x : Int) : fX11_isSafe x σ = some (if isF w x ∧ w (4 + x) < w 83 then 1 else 0) := by
  unfold fX11_isSafe
  rw [isField_m hW hw, hw]
  by_cases c : isF w x
  · have xb := isF_b c
    rw [if_neg (show ¬ x = -1 by omega), if_pos c, if_neg n10, bw_id (z := 4 + x) (by omega) (by omega), grd_pos (by omega)]
    by_cases d : w (4 + x) < w 83
    · rw [if_pos d, if_pos ⟨c, d⟩]
    · rw [if_neg d, if_neg (fun z => d z.2)]
  · rw [if_neg c, if_pos p00, if_neg (show ¬ (isF w x ∧ w (4 + x) < w 83) from fun z => c z.1)]
    split <;> rfl
def BM (σ : Sg) (S : Bst) : Prop := (∀ f, 0 ≤ f → f < 64 → rd σ 101 f = S.1 f) ∧ ∀ i, 0 ≤ i → i < S.2.2 → rd σ 102 i = S.2.1 i
theorem exp_m {w : Int → Int} {σ0 : Sg} {b h : Int} {k58 : Int → Int → Sg → Option (Int × Sg)} {Q : Int × Sg → Prop} (hW : Wf w) (hw : rd σ0 85 = w) {f : Int} (hf : isF w f) : ∀ (r n : Nat) (d : Int) (ρ : Sg) (S : Bst), d + r = 4 → 0 ≤ d → r < n → Fr [101, 102] σ0 ρ → BM ρ S → BV w S → 0 ≤ h → h < S.2.2 → S.2.1 h = f → 0 ≤ S.1 f → (∀ τ, Fr [101, 102] σ0 τ → BM τ (stps w f r d S) → BV w (stps w f r d S) → wp (k58 (stps w f r d S).2.2 (bw (h + 1)) τ) Q) → wp (fX11_safe_L67 k58 b h n S.2.2 d ρ) Q
  | 0, n, d, ρ, S, hd, d0, hn, hG, hB, hV, h0, h1, h2, h3, hk => by
    cases n with
    | zero => omega
    | succ n =>
      rw [fX11_safe_L67, if_neg (by omega)]
      exact hk ρ hG hB hV
  | r + 1, n, d, ρ, S, hd, d0, hn, hG, hB, hV, h0, h1, h2, h3, hk => by
    have fb := isF_b hf
    have hw2 : rd ρ 85 = w := (funext fun j => hG 85 j (by decide)).trans hw
    have eb : fX11_wentTo f d ρ = goW w f d := wentTo_m d hW hw2 (by omega)
    have hnn := BV_n hV
    cases n with
    | zero => omega
    | succ n =>
      rw [stps] at hk
      have kp := stp_keep (w := w) (f := f) (d := d) (S := S)
      have hV2 := stp_V (d := d) hV h3 (by omega)
      rw [fX11_safe_L67, if_pos (by omega), grd_pos (by omega), hB.2 h h0 h1, h2, eb, isSafe_m hW hw2, Option.bind_some, bw_id (z := d + 1) (by omega) (by omega)]
      have same : stp w f d S = S → wp (fX11_safe_L67 k58 b h n S.2.2 (d + 1) ρ) Q := fun e => by
        rw [e] at hk
        exact exp_m hW hw hf r n (d + 1) ρ S (by omega) (by omega) (by omega) hG hB hV h0 h1 h2 h3 hk
      by_cases c : isF w (goW w f d) ∧ w (4 + goW w f d) < w 83
      · have gb := isF_b c.1
        rw [if_pos c, if_neg n10, grd_pos (by omega), hB.1 _ gb.1 (by omega)]
        by_cases c1 : S.1 (goW w f d) = -1
        · have es : stp w f d S = (upz S.1 (goW w f d) (S.1 f + 1), upz S.2.1 S.2.2 (goW w f d), S.2.2 + 1) := by
            unfold stp; rw [if_pos ⟨c.1, c.2, c1⟩]
          have hl := hV.2.1 f
          rw [if_pos c1, grd_pos (by omega), grd_pos (by omega), grd_pos (by omega), grd_pos (by omega), hB.1 f fb.1 (by omega), bw_id (z := S.1 f + 1) (by omega) (by omega), bw_id (z := S.2.2 + 1) (by omega) (by omega)]
          rw [es] at hk hV2
          refine exp_m hW hw hf r n (d + 1) (wr (wr ρ 101 (goW w f d) (S.1 f + 1)) 102 S.2.2 (goW w f d)) (upz S.1 (goW w f d) (S.1 f + 1), upz S.2.1 S.2.2 (goW w f d), S.2.2 + 1) (by omega) (by omega) (by omega) ((hG.wr (by decide)).wr (by decide)) ⟨fun j j0 j1 => ?_, fun i i0 i1 => ?_⟩ hV2 h0 (by simp only; omega) ?_ ?_ hk
          · rw [rq_c (by decide), wr_row, bw_id (z := S.1 f + 1) (by omega) (by omega)]
            show upz _ _ _ j = upz _ _ _ j
            unfold upz
            rw [hB.1 j j0 j1]
          · simp only at i1
            rw [wr_row, bw_id (z := goW w f d) (by omega) (by omega)]
            show upz _ _ _ i = upz _ _ _ i
            by_cases e : i = S.2.2
            · rw [e, upz_s, upz_s]
            · rw [upz_n e, upz_n e, rq_c (by decide)]; exact hB.2 i i0 (by omega)
          · simp only
            rw [upz_n (by omega)]; exact h2
          · simp only
            by_cases e : f = goW w f d
            · rw [← e] at c1; omega
            · rw [upz_n e]; exact h3
        · rw [if_neg c1]
          refine same ?_
          unfold stp
          rw [if_neg (fun z => c1 z.2.2)]
      · rw [if_neg c, if_pos p00]
        refine same ?_
        unfold stp
        rw [if_neg (fun z => c ⟨z.1, z.2.1⟩)]
theorem bfs_m {w : Int → Int} {σ0 : Sg} {b : Int} (hW : Wf w) (hw : rd σ0 85 = w) (hb : isF w b) : ∀ (r n : Nat) (h : Int) (ρ : Sg) (S : Bst), h + r = 65 → 0 ≤ h → r < n → Fr [101, 102] σ0 ρ → BM ρ S → BV w S → wp (fX11_safe_L58 b n S.2.2 h ρ) (fun q => q.1 = bfM w b r h S ∧ Fr [101, 102] σ0 q.2)
  | 0, n, h, ρ, S, hh, h0, hn, hG, hB, hV => by
    have bb := isF_b hb
    have hnn := BV_n hV
    cases n with
    | zero => omega
    | succ n =>
      rw [fX11_safe_L58, if_neg (by omega), grd_pos (by omega), hB.1 b bb.1 (by omega), wp_some]
      exact ⟨rfl, hG⟩
  | r + 1, n, h, ρ, S, hh, h0, hn, hG, hB, hV => by
    have bb := isF_b hb
    have hnn := BV_n hV
    cases n with
    | zero => omega
    | succ n =>
      rw [fX11_safe_L58]
      by_cases c1 : h < S.2.2
      · obtain ⟨v1, v2⟩ := hV.1 h h0 c1
        have hs : bfM w b (r + 1) h S = bfM w b r (h + 1) (stps w (S.2.1 h) 4 0 S) := by rw [bfM, if_pos c1]
        rw [if_pos c1, hs]
        refine exp_m hW hw v1 4 FU 0 ρ S (by omega) (by omega) (by unfold FU; omega) hG hB hV h0 c1 rfl v2 (fun τ hτ hB2 hV2 => ?_)
        rw [bw_id (z := h + 1) (by omega) (by omega)]
        exact bfs_m hW hw hb r n (h + 1) τ _ (by omega) (by omega) (by omega) hτ hB2 hV2
      · have hs : bfM w b (r + 1) h S = S.1 b := by rw [bfM, if_neg c1]
        rw [if_neg c1, grd_pos (by omega), hB.1 b bb.1 (by omega), wp_some, hs]
        exact ⟨rfl, hG⟩
theorem safe_m {w : Int → Int} {σ : Sg} {a b : Int} (hW : Wf w) (hw : rd σ 85 = w) (ha : isF w a) (hb : isF w b) : wp (fX11_safe a b σ) (fun q => q.1 = (if w (4 + a) < w 83 ∧ w (4 + b) < w 83 then bfC w b 65 0 (S0 a) else -1) ∧ Fr [101, 102] σ q.2) := by
  have ab := isF_b ha
  have go : ∀ (r n : Nat) (i : Int) (ρ : Sg), i + r = 64 → 0 ≤ i → r < n → Fr [101] σ ρ → (∀ j, 0 ≤ j → j < i → rd ρ 101 j = -1) → wp (fX11_safe_L20 (fun s6 => grd ((0 : Int) ≤ a ∧ a < 128) (fX11_safe_L58 b FU 1 0 (wr (wr s6 101 a 0) 102 0 a))) a b n i ρ) (fun q => q.1 = bfC w b 65 0 (S0 a) ∧ Fr [101, 102] σ q.2) := by
    intro r
    induction r with
    | zero =>
      intro n i ρ hi i0 hn hG hz
      cases n with
      | zero => omega
      | succ n =>
        rw [fX11_safe_L20, if_neg (by omega), grd_pos (by omega), bf_eq]
        refine bfs_m hW hw hb 65 FU 0 _ (S0 a) (by omega) (by omega) (by unfold FU; omega) (((hG.mo (by decide)).wr (by decide)).wr (by decide)) ⟨fun f f0 f1 => ?_, fun j j0 j1 => ?_⟩ (S0_V ha)
        · rw [rq_c (by decide), wr_row]
          unfold S0
          show upz (rd ρ 101) a (bw 0) f = upz (fun _ => -1) a 0 f
          by_cases e : f = a
          · rw [e, upz_s, upz_s]; rfl
          · rw [upz_n e, upz_n e]; exact hz f f0 (by omega)
        · unfold S0 at j1 ⊢
          simp only at j1
          rw [show j = 0 by omega, rq_s, bw_id (by omega) (by omega)]
          show a = upz (fun _ => 0) 0 a 0
          rw [upz_s]
    | succ r ih =>
      intro n i ρ hi i0 hn hG hz
      cases n with
      | zero => omega
      | succ n =>
        rw [fX11_safe_L20, if_pos (by omega), grd_pos (by omega), bw_id (z := i + 1) (by omega) (by omega)]
        refine ih n (i + 1) _ (by omega) (by omega) (by omega) (hG.wr (by decide)) (fun j j0 j1 => ?_)
        by_cases e : j = i
        · rw [e, rq_s]; rfl
        · rw [rq_i e]; exact hz j j0 (by omega)
  unfold fX11_safe
  rw [isSafe_m hW hw, isSafe_m hW hw, Option.bind_some]
  by_cases c1 : w (4 + a) < w 83
  · rw [if_pos (show isF w a ∧ w (4 + a) < w 83 from ⟨ha, c1⟩), if_neg n10, Option.bind_some]
    by_cases c2 : w (4 + b) < w 83
    · rw [if_pos (show isF w b ∧ w (4 + b) < w 83 from ⟨hb, c2⟩), if_neg n10, if_pos (show w (4 + a) < w 83 ∧ w (4 + b) < w 83 from ⟨c1, c2⟩)]
      exact go 64 FU 0 σ (by omega) (by omega) (by unfold FU; omega) Fr.rf (fun j j0 j1 => by omega)
    · rw [if_neg (show ¬ (isF w b ∧ w (4 + b) < w 83) from fun z => c2 z.2), if_pos p00, if_neg (show ¬ (w (4 + a) < w 83 ∧ w (4 + b) < w 83) from fun z => c2 z.2), wp_some]
      exact ⟨rfl, Fr.rf⟩
  · rw [if_neg (show ¬ (isF w a ∧ w (4 + a) < w 83) from fun z => c1 z.2), if_pos p00, if_neg (show ¬ (w (4 + a) < w 83 ∧ w (4 + b) < w 83) from fun z => c1 z.1), wp_some]
    exact ⟨rfl, Fr.rf⟩
theorem op_safe {has : Bool} {N : Nat} (hN : N ≤ 511) (x1 x2 : Int) (h1 : bw x1 = x1) (h2 : bw x2 = x2) : OpE has N (fX10_safe x1 x2) (fX11_safe x1 x2) := by
  intro σ h
  have hC := h.1
  have hW := hC.1
  by_cases c1 : isF (rd σ 85) x1
  · by_cases c2 : isF (rd σ 85) x2
    · refine opE_ro (v := if rd σ 85 (4 + x1) < rd σ 85 83 ∧ rd σ 85 (4 + x2) < rd σ 85 83 then bfC (rd σ 85) x2 65 0 (S0 x1) else -1) h ?_ (fun τ hk => ?_)
      · show wp (fX10_safe x1 x2 σ) _
        unfold fX10_safe
        rw [hasField_c hC, if_pos c1, if_neg n10, hasField_c hC, if_pos c2, if_neg n10, wp_bind]
        refine wp_mono (safe_c hC c1 c2) (fun q hq => ?_)
        rw [wp_some]
        exact ⟨hq.1, Keep.fr hq.2 (by decide) (by decide)⟩
      · exact wp_mono (safe_m hW (hk.1 85 (by decide)) c1 c2) (fun q hq => ⟨hq.1, Keep.fr hq.2 (by decide) (by decide)⟩)
    · refine opE_no h (v := -1) ?_ ?_
      · unfold fX10_safe
        rw [hasField_c hC, if_pos c1, if_neg n10, hasField_c hC, if_neg c2, if_pos p00]
      · unfold fX11_safe
        rw [isSafe_m hW rfl, isSafe_m hW rfl, Option.bind_some, Option.bind_some, if_neg (show ¬ (isF (rd σ 85) x2 ∧ rd σ 85 (4 + x2) < rd σ 85 83) from fun z => c2 z.1), if_pos p00]
        split <;> rfl
  · refine opE_no h (v := -1) ?_ ?_
    · unfold fX10_safe
      rw [hasField_c hC, if_neg c1, if_pos p00]
    · unfold fX11_safe
      rw [isSafe_m hW rfl, Option.bind_some, if_neg (show ¬ (isF (rd σ 85) x1 ∧ rd σ 85 (4 + x1) < rd σ 85 83) from fun z => c1 z.1), if_pos p00]
