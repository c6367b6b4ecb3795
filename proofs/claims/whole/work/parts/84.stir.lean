/-! stir -/
theorem PX_mono {nb nb' : Int} {w w' : Int → Int} {n : Nat} {E : Nat → Int → Int} (h : PX nb w n E) (hnb : nb ≤ nb') (h3 : w 3 ≤ w' 3) (h80 : w' 80 = w 80) (h81 : w' 81 = w 81) (h85 : w' 85 = w 85) : PX nb' w' n E := by
  intro k hk
  obtain ⟨x1, x2, x3, x4, x5, x6, x7⟩ := h k hk
  have e : ∀ q, isP w' q ↔ isP w q := fun q => by unfold isP; rw [h85]
  refine ⟨fun f hf => x1 f ?_, fun p hp => ?_, x3, ⟨x4.1, by omega⟩, x5, by omega, x7⟩
  · unfold isF at hf ⊢; rw [h80, h81] at hf; exact hf
  · exact (x2 p ((e p).mp hp)).imp id (fun z => (e _).mpr z)
theorem CG_stir {m : Int} {w w' : Int → Int} {g g' : Nat → Int → Int} (h : CG m w g) (hw' : ∀ j : Int, j < 90 ∨ (90 < j ∧ j < 275) ∨ 311 ≤ j → w' j = w j) (hg : ∀ k : Nat, k ≠ 23 → k ≠ 24 → ∀ i, g' k i = g k i) (c1 : g' 23 1 = 12) (c2 : g' 23 2 = w' 90) (b : 0 ≤ w' 90 ∧ w' 90 ≤ 12) (bi : ∀ i : Int, 0 ≤ i → i < w' 90 → isP w (w' (275 + 3 * i)) ∧ (0 ≤ w' (276 + 3 * i) ∧ w' (276 + 3 * i) ≤ 9) ∧ (w' (277 + 3 * i) = 0 ∨ w' (277 + 3 * i) = 1)) (ri : ∀ i : Int, 0 ≤ i → i < w' 90 → g' 24 (4 * i) = w' (275 + 3 * i) ∧ g' 24 (4 * i + 1) = w' (276 + 3 * i) ∧ g' 24 (4 * i + 2) = w' (277 + 3 * i)) : CG m w' g' := by
  obtain ⟨⟨⟨a1, a2, a3, a4, a5, a6, a7, a8, a9⟩, hF, hP, hV, hY, hN, hZ⟩, hS, hRF, hRP, hT, hB, hL⟩ := h
  have e80 := hw' 80 (by omega)
  have e81 := hw' 81 (by omega)
  have e85 := hw' 85 (by omega)
  have e87 := hw' 87 (by omega)
  have e88 := hw' 88 (by omega)
  have e89 := hw' 89 (by omega)
  have e3 := hw' 3 (by omega)
  have eF : ∀ c, isF w' c ↔ isF w c := fun c => by unfold isF; rw [e80, e81]
  have eP : ∀ c, isP w' c ↔ isP w c := fun c => by unfold isP; rw [e85]
  have pr : ∀ p, isP w p → 0 ≤ p ∧ p < 12 := fun p hp => ⟨hp.1, by have := hp.2; omega⟩
  have gg : ∀ k : Nat, k < 23 ∨ 24 < k → ∀ i, g' k i = g k i := fun k hk => hg k (by omega) (by omega)
  refine ⟨⟨⟨by rw [e80]; exact a1, by rw [e81]; exact a2, by rw [hw' 82 (by omega)]; exact a3, by rw [hw' 83 (by omega)]; exact a4, by rw [hw' 84 (by omega)]; exact a5, by rw [e85]; exact a6, by rw [hw' 0 (by omega)]; exact a7, by rw [hw' 1 (by omega)]; exact a8, by rw [e3]; exact a9⟩, fun f hf => ?_, fun p hp => ?_, ⟨by rw [e87]; exact hV.1, fun i i0 i1 => ?_⟩, ⟨by rw [e88]; exact hY.1, fun i i0 i1 => ?_⟩, ⟨by rw [e89]; exact hN.1, fun i i0 i1 => ?_⟩, ⟨b, fun i i0 i1 => ?_⟩⟩, ?_, ⟨fun f hf => ?_, fun f f0 f1 => by rw [gg 1 (by omega)]; exact hRF.2 f f0 f1⟩, ⟨by rw [gg 3 (by omega), e85]; exact hRP.1, fun p hp => ?_⟩, ?_, RB_congr hB e3 a9.2 (fun j j0 j1 => hw' j (by omega)) (gg 25 (by omega)) (gg 26 (by omega)), LR_congr (hw' 86 (by omega)) (fun j hj => hw' j (by omega)) (fun k k1 k2 => gg k (by omega)) hL⟩
  · have hf' := (eF f).mp hf
    have := isF_b hf'
    rw [hw' (4 + f) (by omega)]
    exact hF f hf'
  · have hp' := (eP p).mp hp
    have hp2 := pr p hp'
    obtain ⟨p1, p2, p3, p4, p5, p6⟩ := hP p hp'
    rw [hw' (91 + p) (by omega), hw' (103 + p) (by omega), hw' (115 + p) (by omega), hw' (127 + p) (by omega), hw' (68 + p) (by omega), hw' (139 + p) (by omega)]
    exact ⟨p1, p2, p3, (eF _).mpr p4, p5.imp id (fun z => (eP _).mpr z), p6⟩
  · rw [e87] at i1
    obtain ⟨v1, v2, v3, v4, v5⟩ := hV.2 i i0 i1
    have v2' := pr _ v2
    have v3' := pr _ v3
    rw [hw' (151 + 4 * i) (by omega), hw' (152 + 4 * i) (by omega), hw' (153 + 4 * i) (by omega), hw' (154 + 4 * i) (by omega), hw' (91 + w (152 + 4 * i)) (by omega), hw' (91 + w (153 + 4 * i)) (by omega)]
    exact ⟨v1, (eP _).mpr v2, (eP _).mpr v3, v4, (eF _).mpr v5⟩
  · rw [e88] at i1
    rw [hw' (215 + 2 * i) (by omega), hw' (216 + 2 * i) (by omega)]
    exact hY.2 i i0 i1
  · rw [e89] at i1
    obtain ⟨v1, v2, v3⟩ := hN.2 i i0 i1
    rw [hw' (239 + 3 * i) (by omega), hw' (240 + 3 * i) (by omega), hw' (241 + 3 * i) (by omega)]
    exact ⟨(eF _).mpr v1, v2, v3⟩
  · obtain ⟨v1, v2, v3⟩ := bi i i0 i1
    exact ⟨(eP _).mpr v1, v2, v3⟩
  · obtain ⟨s0, s1, s2, s3, s4, s5, s6, s7⟩ := hS
    unfold RS
    simp only [gg 0 (by omega), e80, e81, hw' 82 (by omega), hw' 83 (by omega), hw' 84 (by omega), hw' 1 (by omega), hw' 0 (by omega), hw' 2 (by omega)]
    exact ⟨s0, s1, s2, s3, s4, s5, s6, s7⟩
  · have hf' := (eF f).mp hf
    have := isF_b hf'
    rw [hw' (4 + f) (by omega), gg 1 (by omega)]
    exact hRF.1 f hf'
  · have hp' := (eP p).mp hp
    have hp2 := pr p hp'
    rw [gg 4 (by omega), gg 5 (by omega), gg 6 (by omega), gg 7 (by omega), gg 8 (by omega), gg 9 (by omega), hw' (91 + p) (by omega), hw' (103 + p) (by omega), hw' (115 + p) (by omega), hw' (127 + p) (by omega), hw' (68 + p) (by omega), hw' (139 + p) (by omega)]
    exact hRP.2 p hp'
  · obtain ⟨⟨t1, t2, t3⟩, ⟨t4, t5, t6⟩, ⟨t7, t8, t9⟩, -⟩ := hT
    refine ⟨⟨by rw [gg 17 (by omega)]; exact t1, by rw [gg 17 (by omega), e87]; exact t2, fun i i0 i1 => ?_⟩, ⟨by rw [gg 19 (by omega)]; exact t4, by rw [gg 19 (by omega), e88]; exact t5, fun i i0 i1 => ?_⟩, ⟨by rw [gg 21 (by omega)]; exact t7, by rw [gg 21 (by omega), e89]; exact t8, fun i i0 i1 => ?_⟩, ⟨c1, c2, ri⟩⟩
    · rw [e87] at i1
      rw [gg 18 (by omega), gg 18 (by omega), gg 18 (by omega), gg 18 (by omega), hw' (151 + 4 * i) (by omega), hw' (152 + 4 * i) (by omega), hw' (153 + 4 * i) (by omega), hw' (154 + 4 * i) (by omega)]
      exact t3 i i0 i1
    · rw [e88] at i1
      rw [gg 20 (by omega), gg 20 (by omega), hw' (215 + 2 * i) (by omega), hw' (216 + 2 * i) (by omega)]
      exact t6 i i0 i1
    · rw [e89] at i1
      rw [gg 22 (by omega), gg 22 (by omega), gg 22 (by omega), hw' (239 + 3 * i) (by omega), hw' (240 + 3 * i) (by omega), hw' (241 + 3 * i) (by omega)]
      exact t9 i i0 i1
/-- the past is kept, only the stirs are told anew -/
theorem stir_row {has : Bool} {N : Nat} {σ : Sg} {f g : Sg → Option (Int × Sg)} {v : Int} {w' : Int → Int} (h : Inv has N σ) (hw : ∀ j : Int, j < 90 ∨ (90 < j ∧ j < 275) ∨ 311 ≤ j → w' j = rd σ 85 j) (h1 : wp (f σ) (fun q => q.1 = v ∧ CW 150 w' q.2 1 ∧ Fr [24, 25] σ q.2)) (h2 : ∀ τ, rd τ 85 = rd σ 85 → wp (g τ) (fun r => r.1 = v ∧ rd r.2 85 = w' ∧ Fr [85] τ r.2)) : wp (f σ) (fun q => wp (g q.2) (fun r => q.1 = r.1 ∧ Inv has (N + 1) r.2)) := by
  have h12 := h.1.1.1.2.2.2.2.2.1
  obtain ⟨n, E, p1, p2, p3⟩ := PR_to h12.2 h.2.2.2.2.1
  have w3 := hw 3 (by omega)
  refine opE_past (v := v) (w' := w') (n' := n) (E' := E) h (hw 80 (by omega)) (hw 81 (by omega)) (hw 85 (by omega)) (by rw [hw 0 (by omega)]; exact h.2.1) (by rw [hw 1 (by omega)]; exact nb_ok h.2.2.1) (KS_congr h.2.2.2.1 (hw 85 (by omega)) (fun j j0 j1 => hw j (by omega)) h12.2) (PX_mono p3 nbN_le (by omega) (hw 80 (by omega)) (hw 81 (by omega)) (hw 85 (by omega))) ?_ (fun τ hτ => ?_)
  · refine wp_mono h1 (fun q hq => ?_)
    refine ⟨hq.1, hq.2.1, PC_w p1 rfl rfl rfl (fun c c1 c2 => funext fun i => hq.2.2 c i (by simp <;> omega)), fun c i hi => hq.2.2 c i (fun z => hi ?_)⟩
    simp only [List.mem_cons, List.not_mem_nil, or_false] at z
    rcases z with rfl | rfl <;> decide
  · refine wp_mono (h2 τ (hτ 85 (by decide) (by decide))) (fun r hr => ?_)
    have q84 : rd τ 84 4 = rd σ 84 4 := congrFun (hτ 84 (by decide) (by decide)) 4
    refine ⟨hr.1, hr.2.1, PM_w p2 ((hr.2.2 84 4 (by decide)).trans q84) ((funext fun i => hr.2.2 87 i (by decide)).trans (hτ 87 (by decide) (by decide))), fun i _ _ _ => hr.2.2 84 i (by decide), fun c i hi => hr.2.2 c i (fun z => hi ?_)⟩
    simp only [List.mem_cons, List.not_mem_nil, or_false] at z
    rw [z]
    decide
def stiW (w : Int → Int) (k a l y : Int) : Int → Int := upz (upz (upz (upz w (275 + 3 * k) a) (276 + 3 * k) l) (277 + 3 * k) y) 90 (k + 1)
theorem op_stir {has : Bool} {N : Nat} (hN : N ≤ 511) (x1 x2 x3 : Int) (hx : x3 = 0 ∨ x3 = 1) (h1 : bw x1 = x1) (h2 : bw x2 = x2) : OpE has N (fX10_stir x1 x2 x3) (fX11_stir x1 x2 x3) := by
  intro σ h
  have hC := h.1
  have hW := hC.1
  have h12 := hW.1.2.2.2.2.2.1
  obtain ⟨⟨b0, b1⟩, hZ⟩ := hW.2.2.2.2.2.2
  obtain ⟨t1, t2, t3⟩ := hC.2.2.2.2.1.2.2.2
  have r1 : rd σ 24 1 = 12 := t1
  have r2 : rd σ 24 2 = rd σ 85 90 := t2
  have hhas : fX1_has 4 x1 σ = if isP (rd σ 85) x1 then 1 else 0 := has_c hC x1
  have off : ∀ (τ : Sg), Fr [24, 25] σ τ → ∀ (k : Nat), k ≠ 23 → k ≠ 24 → ∀ i, vw τ 1 k i = vw σ 1 k i := by
    intro τ hf k k1 k2 i
    unfold vw
    split
    · rfl
    · exact hf _ _ (by simp <;> omega)
  by_cases c0 : x1 = -1
  · refine stir_row (v := 0) (w' := upz (rd σ 85) 90 0) h (fun j hj => upz_n (by omega)) ?_ (fun τ e85 => ?_)
    · unfold fX10_stir
      rw [if_pos c0, wp_some]
      have fr : Fr [24, 25] σ (wr σ 24 2 0) := Fr.rf.wr (by decide)
      refine ⟨rfl, CG_stir hC (fun j hj => upz_n (by omega)) (off _ fr) ?_ ?_ (by rw [upz_s]; decide) (fun i i0 i1 => ?_) (fun i i0 i1 => ?_), fr⟩
      · show rd (wr σ 24 2 0) 24 1 = 12
        rw [rq_i (by decide)]; exact r1
      · show rd (wr σ 24 2 0) 24 2 = _
        rw [rq_s, upz_s]; rfl
      · rw [upz_s] at i1; omega
      · rw [upz_s] at i1; omega
    · unfold fX11_stir
      rw [if_pos c0, wp_some]
      refine ⟨rfl, ?_, Fr.rf.wr (by decide)⟩
      rw [wr_row, e85]
      rfl
  by_cases n1 : ¬ isP (rd σ 85) x1
  · refine opE_no (v := -1) h ?_ ?_
    · unfold fX10_stir
      rw [if_neg c0, hhas, if_neg n1, if_pos p00]
    · unfold fX11_stir
      rw [if_neg c0, isPerson_m hW rfl, if_neg n1, if_pos p00]
  have c1 : isP (rd σ 85) x1 := Classical.not_not.mp n1
  by_cases n2 : ¬ (0 ≤ x2 ∧ x2 ≤ 9)
  · refine opE_no (v := -1) h ?_ ?_
    · unfold fX10_stir
      rw [if_neg c0, hhas, if_pos c1, if_neg n10, within_m, if_neg n2, if_pos p00]
    · unfold fX11_stir
      rw [if_neg c0, isPerson_m hW rfl, if_pos c1, if_neg n10, isIn_m, if_neg n2, if_pos p00]
  have c2 : 0 ≤ x2 ∧ x2 ≤ 9 := Classical.not_not.mp n2
  have hy : bw x3 = x3 := by rcases hx with rfl | rfl <;> rfl
  have ec : fX10_stir x1 x2 x3 σ = fX10_stir_J61 x2 x1 x3 σ := by
    unfold fX10_stir
    rw [if_neg c0, hhas, if_pos c1, if_neg n10, within_m, if_pos c2, if_neg n10]
    rcases hx with rfl | rfl
    · rw [if_pos p00]
    · rw [if_neg n10]
  by_cases c3 : rd σ 85 90 = 12
  · refine opE_no (v := -1) h ?_ ?_
    · rw [ec]
      unfold fX10_stir_J61 fX6_add
      rw [r1, r2, if_neg (show ¬ rd σ 85 90 < 12 by omega)]
      rfl
    · unfold fX11_stir
      rw [if_neg c0, isPerson_m hW rfl, if_pos c1, if_neg n10, isIn_m, if_pos c2, if_neg n10, if_pos c3]
  generalize hk : rd σ 85 90 = k at b0 b1 hZ t2 t3 r2 c3
  have a0 := c1.1
  have a1 := c1.2
  refine stir_row (v := k + 1) (w' := stiW (rd σ 85) k x1 x2 x3) h (fun j hj => ?_) ?_ (fun τ e85 => ?_)
  · unfold stiW
    rw [upz_n (by omega), upz_n (by omega), upz_n (by omega), upz_n (by omega)]
  · show wp (fX10_stir x1 x2 x3 σ) _
    rw [ec]
    unfold fX10_stir_J61 fX6_add
    rw [r1, r2, if_pos (show k < 12 by omega), bw_id (z := k * 4) (by omega) (by omega), bw_id (z := k * 4 + 1) (by omega) (by omega), bw_id (z := k * 4 + 2) (by omega) (by omega), bw_id (z := k * 4 + 3) (by omega) (by omega), grd_pos (by omega), grd_pos (by omega), grd_pos (by omega), grd_pos (by omega), wp_bind, wp_some]
    show wp (if (1 : Int) = 0 then _ else _) _
    rw [if_neg n10, wp_some]
    show rd (wr (wr (wr (wr (wr σ 25 (k * 4) x1) 25 (k * 4 + 1) x2) 25 (k * 4 + 2) x3) 25 (k * 4 + 3) 0) 24 2 _) 24 2 = k + 1 ∧ _
    rw [rq_s, rq_c (by decide), rq_c (by decide), rq_c (by decide), rq_c (by decide), r2, bw_id (z := k + 1) (by omega) (by omega), bw_id (z := k + 1) (by omega) (by omega)]
    have fr : Fr [24, 25] σ (wr (wr (wr (wr (wr σ 25 (k * 4) x1) 25 (k * 4 + 1) x2) 25 (k * 4 + 2) x3) 25 (k * 4 + 3) 0) 24 2 (k + 1)) := ((((Fr.rf.wr (by decide)).wr (by decide)).wr (by decide)).wr (by decide)).wr (by decide)
    have q25 : ∀ i : Int, rd (wr (wr (wr (wr (wr σ 25 (k * 4) x1) 25 (k * 4 + 1) x2) 25 (k * 4 + 2) x3) 25 (k * 4 + 3) 0) 24 2 (k + 1)) 25 i = if i = k * 4 + 3 then 0 else if i = k * 4 + 2 then x3 else if i = k * 4 + 1 then x2 else if i = k * 4 then x1 else rd σ 25 i := by
      intro i
      rw [rq_c (by decide), wr_row, wr_row, wr_row, wr_row, h1, h2, hy]
      rfl
    have wA : ∀ i : Int, 0 ≤ i → i < k → stiW (rd σ 85) k x1 x2 x3 (275 + 3 * i) = rd σ 85 (275 + 3 * i) ∧ stiW (rd σ 85) k x1 x2 x3 (276 + 3 * i) = rd σ 85 (276 + 3 * i) ∧ stiW (rd σ 85) k x1 x2 x3 (277 + 3 * i) = rd σ 85 (277 + 3 * i) := by
      intro i i0 i1
      unfold stiW
      refine ⟨?_, ?_, ?_⟩ <;> rw [upz_n (by omega), upz_n (by omega), upz_n (by omega), upz_n (by omega)]
    have wB : stiW (rd σ 85) k x1 x2 x3 (275 + 3 * k) = x1 ∧ stiW (rd σ 85) k x1 x2 x3 (276 + 3 * k) = x2 ∧ stiW (rd σ 85) k x1 x2 x3 (277 + 3 * k) = x3 := by
      unfold stiW
      refine ⟨?_, ?_, ?_⟩
      · rw [upz_n (by omega), upz_n (by omega), upz_n (by omega), upz_s]
      · rw [upz_n (by omega), upz_n (by omega), upz_s]
      · rw [upz_n (by omega), upz_s]
    have w90 : stiW (rd σ 85) k x1 x2 x3 90 = k + 1 := upz_s
    refine ⟨rfl, CG_stir hC (fun j hj => ?_) (off _ fr) ?_ ?_ (by rw [w90]; omega) (fun i i0 i1 => ?_) (fun i i0 i1 => ?_), fr⟩
    · unfold stiW
      rw [upz_n (by omega), upz_n (by omega), upz_n (by omega), upz_n (by omega)]
    · show rd _ 24 1 = 12
      rw [rq_i (by decide), rq_c (by decide), rq_c (by decide), rq_c (by decide), rq_c (by decide)]; exact r1
    · show rd _ 24 2 = _
      rw [rq_s, w90, bw_id (by omega) (by omega)]
    · rw [w90] at i1
      by_cases e : i = k
      · rw [e, wB.1, wB.2.1, wB.2.2]
        exact ⟨c1, c2, hx⟩
      · have := wA i i0 (by omega)
        rw [this.1, this.2.1, this.2.2]
        exact hZ i i0 (by omega)
    · rw [w90] at i1
      show rd _ 25 (4 * i) = _ ∧ rd _ 25 (4 * i + 1) = _ ∧ rd _ 25 (4 * i + 2) = _
      rw [q25, q25, q25]
      by_cases e : i = k
      · rw [e, wB.1, wB.2.1, wB.2.2]
        refine ⟨?_, ?_, ?_⟩
        · rw [if_neg (by omega), if_neg (by omega), if_neg (by omega), if_pos (by omega)]
        · rw [if_neg (by omega), if_neg (by omega), if_pos (by omega)]
        · rw [if_neg (by omega), if_pos (by omega)]
      · have q := wA i i0 (by omega)
        rw [q.1, q.2.1, q.2.2, if_neg (by omega), if_neg (by omega), if_neg (by omega), if_neg (by omega), if_neg (by omega), if_neg (by omega), if_neg (by omega), if_neg (by omega), if_neg (by omega), if_neg (by omega), if_neg (by omega), if_neg (by omega)]
        exact t3 i i0 (by omega)
  · have w90 : rd τ 85 90 = k := by rw [e85]; exact hk
    show wp (fX11_stir x1 x2 x3 τ) _
    unfold fX11_stir
    rw [if_neg c0, isPerson_m hW e85, if_pos c1, if_neg n10, isIn_m, if_pos c2, if_neg n10, w90, if_neg c3, bw_id (z := 3 * k) (by omega) (by omega), bw_id (z := 275 + 3 * k) (by omega) (by omega), bw_id (z := 275 + 3 * k + 1) (by omega) (by omega), bw_id (z := 275 + 3 * k + 2) (by omega) (by omega), grd_pos (by omega), grd_pos (by omega)]
    have go : wp (fX11_stir_J97 (275 + 3 * k + 2) x3 (wr (wr τ 85 (275 + 3 * k) x1) 85 (275 + 3 * k + 1) x2)) (fun r => r.1 = k + 1 ∧ rd r.2 85 = stiW (rd σ 85) k x1 x2 x3 ∧ Fr [85] τ r.2) := by
      unfold fX11_stir_J97
      rw [grd_pos (by omega), wp_some]
      have e90 : rd (wr (wr (wr τ 85 (275 + 3 * k) x1) 85 (275 + 3 * k + 1) x2) 85 (275 + 3 * k + 2) x3) 85 90 = k := by
        rw [rq_i (by omega), rq_i (by omega), rq_i (by omega)]; exact w90
      rw [e90, bw_id (z := k + 1) (by omega) (by omega)]
      refine ⟨by rw [rq_s, bw_id (by omega) (by omega)], ?_, (((Fr.rf.wr (by decide)).wr (by decide)).wr (by decide)).wr (by decide)⟩
      rw [wr_row, wr_row, wr_row, wr_row, h1, h2, hy, bw_id (z := k + 1) (by omega) (by omega), e85, show 275 + 3 * k + 1 = 276 + 3 * k by omega, show 275 + 3 * k + 2 = 277 + 3 * k by omega]
      rfl
    rcases hx with rfl | rfl
    · rw [if_pos p00]; exact go
    · rw [if_neg n10]; exact go
