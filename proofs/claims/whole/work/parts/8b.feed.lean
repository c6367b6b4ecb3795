/-! feed -/
theorem inv_tape {has : Bool} {N : Nat} {σ τ : Sg} (h : Inv has N σ) (hk : ∀ c : Nat, c ≠ 59 → c ≠ 60 → c ≠ 84 → c ≠ 92 → rd τ c = rd σ c) (h84 : ∀ i : Int, i ≠ 16 → rd τ 84 i = rd σ 84 i) (hT : TR τ) : Inv has (N + 1) τ := by
  obtain ⟨g1, g2, g3, g4, g5, g6, g7, g8, g9⟩ := h
  have hn := nbN_le (N := N)
  have e85 := hk 85 (by decide) (by decide) (by decide) (by decide)
  refine ⟨?_, by rw [e85]; exact g2, by rw [e85]; omega, by rw [e85]; exact g4, ?_, ?_, hT, ?_, ?_⟩
  · have ev : vw τ 1 = vw σ 1 := vw_keep (fun j a b c d => hk _ (by omega) (by omega) (by omega) (by omega))
    unfold CW
    rw [ev, e85]
    exact g1
  · rw [e85]
    exact PR_k (hk 55 (by decide) (by decide) (by decide) (by decide)) (hk 56 (by decide) (by decide) (by decide) (by decide)) (hk 57 (by decide) (by decide) (by decide) (by decide)) (hk 58 (by decide) (by decide) (by decide) (by decide)) (hk 87 (by decide) (by decide) (by decide) (by decide)) (h84 4 (by decide)) hn g5
  · unfold TC
    rw [hk 45 (by decide) (by decide) (by decide) (by decide), hk 47 (by decide) (by decide) (by decide) (by decide), hk 49 (by decide) (by decide) (by decide) (by decide), hk 51 (by decide) (by decide) (by decide) (by decide), hk 53 (by decide) (by decide) (by decide) (by decide)]
    exact g6
  · unfold FR0
    rw [hk 64 (by decide) (by decide) (by decide) (by decide), h84 23 (by decide), h84 25 (by decide)]
    exact g8
  · exact KR_keep (h84 5 (by decide)) (hk 86 (by decide) (by decide) (by decide) (by decide)) (vw_keep (fun j a b c d => hk _ (by omega) (by omega) (by omega) (by omega))) hn g9
theorem i2b_bm {y : Int} (hy : bw y = y) : i2b y = y.bmod 256 := by
  unfold i2b
  rw [Int8.toInt_toInt32, Int32.toInt_toInt8, ofI_toInt hy]
theorem bm256 (x : Int) : x.bmod 256 % 256 = x % 256 := by
  show (if x % 256 < (256 + 1) / 2 then x % 256 else x % 256 - 256) % 256 = x % 256
  split <;> omega
theorem nb_i2b (z : Int) : nb z = i2b z := rfl
theorem nby {y : Int} (hy : bw y = y) : bw (nb (i2b y)) % 256 = y % 256 := by
  have h1 : bw (i2b y) = i2b y := bw_toInt _
  have h2 : bw (nb (i2b y)) = nb (i2b y) := bw_toInt _
  rw [h2, nb_i2b, i2b_bm h1, i2b_bm hy]
  rw [bm256, bm256]
def by4 (x k : Int) : Int := if k = 0 then x / 16777216 % 256 else if k = 1 then x / 65536 % 256 else if k = 2 then x / 256 % 256 else x % 256
theorem sh24 {x : Int} (hx : bw x = x) : bshr x 24 = x / 16777216 := bshr_n (k := 24) (by decide) hx
theorem sh16 {x : Int} (hx : bw x = x) : bshr x 16 = x / 65536 := bshr_n (k := 16) (by decide) hx
theorem sh8 {x : Int} (hx : bw x = x) : bshr x 8 = x / 256 := bshr_n (k := 8) (by decide) hx
theorem put_step {n : Nat} {x1 x2 p : Int} {σ : Sg} (h2 : 0 ≤ x2 ∧ x2 ≤ 24) (hp : rd σ 59 4 = p) (p0 : 0 ≤ p ∧ p < 400) : fX7_put_L3 x1 (n + 1) x2 σ = fX7_put_L3 x1 n (x2 - 8) (wr (wr σ 60 p (nb (i2b (bshr x1 x2)))) 59 4 (p + 1)) := by
  rw [fX7_put_L3, if_neg (by omega), hp, if_pos p0.2, grd_pos p0, rq_c (by decide), hp, bw_id (z := x2 + -8) (by omega) (by omega), bw_id (z := p + 1) (by omega) (by omega), show x2 + -8 = x2 - 8 by omega]
theorem put_c {x1 p : Int} {σ : Sg} (hx : bw x1 = x1) (hp : rd σ 59 4 = p) (p0 : 0 ≤ p ∧ p + 4 ≤ 400) : wp (fX7_put x1 σ) (fun τ => rd τ 59 4 = p + 4 ∧ Fr [59, 60] σ τ ∧ ∀ i : Int, rd τ 60 i % 256 = if p ≤ i ∧ i < p + 4 then by4 x1 (i - p) else rd σ 60 i % 256) := by
  unfold fX7_put
  rw [show FU = 99995 + 1 + 1 + 1 + 1 + 1 from rfl, put_step (by decide) hp (by omega), show (24 : Int) - 8 = 16 from rfl, put_step (p := p + 1) (by decide) (by rw [rq_s, bw_id (by omega) (by omega)]) (by omega), show (16 : Int) - 8 = 8 from rfl, put_step (p := p + 1 + 1) (by decide) (by rw [rq_s, bw_id (by omega) (by omega)]) (by omega), show (8 : Int) - 8 = 0 from rfl, put_step (p := p + 1 + 1 + 1) (by decide) (by rw [rq_s, bw_id (by omega) (by omega)]) (by omega), fX7_put_L3, if_pos (by decide), wp_some]
  refine ⟨by rw [rq_s, bw_id (by omega) (by omega)]; omega, (((((((Fr.rf.wr (by decide)).wr (by decide)).wr (by decide)).wr (by decide)).wr (by decide)).wr (by decide)).wr (by decide)).wr (by decide), fun i => ?_⟩
  rw [wr_off _ _ (by decide), wr_row, wr_off _ _ (by decide), wr_row, wr_off _ _ (by decide), wr_row, wr_off _ _ (by decide), wr_row]
  by_cases e3 : i = p + 1 + 1 + 1
  · rw [e3, upz_s, nby (bshr_nr _ _), bshr0 hx, if_pos (by omega)]
    unfold by4
    rw [if_neg (by omega), if_neg (by omega), if_neg (by omega)]
  rw [upz_n e3]
  by_cases e2 : i = p + 1 + 1
  · rw [e2, upz_s, nby (bshr_nr _ _), sh8 hx, if_pos (by omega)]
    unfold by4
    rw [if_neg (by omega), if_neg (by omega), if_pos (by omega)]
  rw [upz_n e2]
  by_cases e1 : i = p + 1
  · rw [e1, upz_s, nby (bshr_nr _ _), sh16 hx, if_pos (by omega)]
    unfold by4
    rw [if_neg (by omega), if_pos (by omega)]
  rw [upz_n e1]
  by_cases e0 : i = p
  · rw [e0, upz_s, nby (bshr_nr _ _), sh24 hx, if_pos (by omega)]
    unfold by4
    rw [if_pos (by omega)]
  rw [upz_n e0, if_neg (by omega)]
theorem by4_m {y t : Int} (hy : bw y = y) (ht : 0 ≤ t ∧ t < 4) : band (bshr y (24 - 8 * t)) 255 = by4 y t := by
  rw [band_255 (bshr_nr _ _)]
  have : t = 0 ∨ t = 1 ∨ t = 2 ∨ t = 3 := by omega
  rcases this with rfl | rfl | rfl | rfl
  · show bshr y 24 % 256 = _
    rw [sh24 hy]; rfl
  · show bshr y 16 % 256 = _
    rw [sh16 hy]; rfl
  · show bshr y 8 % 256 = _
    rw [sh8 hy]; rfl
  · show bshr y 0 % 256 = _
    rw [bshr0 hy]; rfl
def pick (x1 x2 x3 x4 x5 k : Int) : Int := if k < 4 then x1 else if k < 8 then x2 else if k < 12 then x3 else if k < 16 then x4 else x5
theorem feedL_m {x1 x2 x3 x4 x5 p : Int} (h1 : bw x1 = x1) (h2 : bw x2 = x2) (h3 : bw x3 = x3) (h4 : bw x4 = x4) (h5 : bw x5 = x5) {σ : Sg} (hp : rd σ 84 16 = p) (p0 : 0 ≤ p ∧ p + 20 ≤ 400) : wp (fX11_feed_L18 x1 x2 x3 x4 x5 FU 0 σ) (fun r => r.1 = p + 20 ∧ rd r.2 84 16 = p + 20 ∧ (∀ i : Int, i ≠ 16 → rd r.2 84 i = rd σ 84 i) ∧ Fr [84, 92] σ r.2 ∧ ∀ i : Int, rd r.2 92 i = if p ≤ i ∧ i < p + 20 then by4 (pick x1 x2 x3 x4 x5 (i - p)) ((i - p) % 4) else rd σ 92 i) := by
  refine loopM (F := fun n q => fX11_feed_L18 x1 x2 x3 x4 x5 n q.1 q.2) (fun q : Int × Sg => (0 ≤ q.1 ∧ q.1 ≤ 20) ∧ rd q.2 84 16 = p + q.1 ∧ (∀ i : Int, i ≠ 16 → rd q.2 84 i = rd σ 84 i) ∧ Fr [84, 92] σ q.2 ∧ ∀ i : Int, rd q.2 92 i = if p ≤ i ∧ i < p + q.1 then by4 (pick x1 x2 x3 x4 x5 (i - p)) ((i - p) % 4) else rd σ 92 i) (fun q => (20 - q.1).toNat) ?_ FU (0, σ) (by unfold FU; simp only; omega) ⟨by simp only; omega, by simp only; omega, fun _ _ => rfl, Fr.rf, fun i => by simp only; rw [if_neg (by omega)]⟩
  rintro m ⟨j, ρ⟩ ⟨hj, hq, ho, hG, hy⟩ ih
  show wp (fX11_feed_L18 x1 x2 x3 x4 x5 (m + 1) j ρ) _
  simp only at hj hq ho hG hy
  rw [fX11_feed_L18]
  by_cases hl : j < 20
  · rw [if_pos hl]
    have st : ∀ y : Int, bw y = y → y = pick x1 x2 x3 x4 x5 j → wp (fX11_feed_J71 (fX11_feed_L18 x1 x2 x3 x4 x5 m) x1 x2 x3 x4 x5 j y ρ) (fun r => r.1 = p + 20 ∧ rd r.2 84 16 = p + 20 ∧ (∀ i : Int, i ≠ 16 → rd r.2 84 i = rd σ 84 i) ∧ Fr [84, 92] σ r.2 ∧ ∀ i : Int, rd r.2 92 i = if p ≤ i ∧ i < p + 20 then by4 (pick x1 x2 x3 x4 x5 (i - p)) ((i - p) % 4) else rd σ 92 i) := by
      intro y hy1 hy2
      unfold fX11_feed_J71
      rw [hq, grd_pos (by omega), trm_pos (by omega) (by omega) (by decide) (by decide), bw_id (z := 8 * (j % 4)) (by omega) (by omega), bw_id (z := 24 - 8 * (j % 4)) (by omega) (by omega), by4_m hy1 (by omega), rq_c (by decide), hq, bw_id (z := p + j + 1) (by omega) (by omega), bw_id (z := j + 1) (by omega) (by omega)]
      have hb : bw (by4 y (j % 4)) = by4 y (j % 4) := by
        rw [← by4_m hy1 (by omega)]; exact band_nr _ _
      refine ih (j + 1, wr (wr ρ 92 (p + j) (by4 y (j % 4))) 84 16 (p + j + 1)) ⟨by simp only; omega, ?_, fun i hi => ?_, (hG.wr (by decide)).wr (by decide), fun i => ?_⟩ (by simp only; omega)
      · show rd (wr _ 84 16 (p + j + 1)) 84 16 = p + (j + 1)
        rw [rq_s, bw_id (by omega) (by omega)]; omega
      · show rd (wr _ 84 16 (p + j + 1)) 84 i = _
        rw [rq_i hi, rq_c (by decide)]; exact ho i hi
      · show rd (wr (wr ρ 92 (p + j) (by4 y (j % 4))) 84 16 (p + j + 1)) 92 i = if p ≤ i ∧ i < p + (j + 1) then _ else _
        rw [rq_c (by decide), wr_row, hb]
        by_cases e : i = p + j
        · rw [e, upz_s, if_pos (by omega), show p + j - p = j by omega, hy2]
        · rw [upz_n e, hy]
          by_cases e3 : p ≤ i ∧ i < p + j
          · rw [if_pos e3, if_pos (by omega)]
          · rw [if_neg e3, if_neg (by omega)]
    by_cases c1 : j < 4
    · rw [if_pos c1]
      exact st x1 h1 (by unfold pick; rw [if_pos c1])
    rw [if_neg c1]
    by_cases c2 : j < 8
    · rw [if_pos c2]
      exact st x2 h2 (by unfold pick; rw [if_neg c1, if_pos c2])
    rw [if_neg c2]
    by_cases c3 : j < 12
    · rw [if_pos c3]
      exact st x3 h3 (by unfold pick; rw [if_neg c1, if_neg c2, if_pos c3])
    rw [if_neg c3]
    by_cases c4 : j < 16
    · rw [if_pos c4]
      exact st x4 h4 (by unfold pick; rw [if_neg c1, if_neg c2, if_neg c3, if_pos c4])
    rw [if_neg c4]
    exact st x5 h5 (by unfold pick; rw [if_neg c1, if_neg c2, if_neg c3, if_neg c4])
  · rw [if_neg hl, wp_some]
    have e20 : j = 20 := by omega
    rw [e20] at hq hy
    exact ⟨hq, hq, ho, hG, hy⟩
theorem op_feed {has : Bool} {N : Nat} (hN : N ≤ 511) (x1 x2 x3 x4 x5 : Int) (h1 : bw x1 = x1) (h2 : bw x2 = x2) (h3 : bw x3 = x3) (h4 : bw x4 = x4) (h5 : bw x5 = x5) : OpE has N (fX10_feed x1 x2 x3 x4 x5) (fX11_feed x1 x2 x3 x4 x5) := by
  intro σ h
  have hTR : TR σ := h.2.2.2.2.2.2.1
  obtain ⟨⟨t0, t1⟩, t2, t3⟩ := hTR
  generalize hp : rd σ 59 4 = p at t0 t1 t2 t3
  by_cases c : 400 < p + 20
  · refine opE_no (v := -1) h ?_ ?_
    · unfold fX10_feed
      rw [hp, bw_id (z := p + 20) (by omega) (by omega), if_pos c]
    · unfold fX11_feed
      rw [t2, bw_id (z := p + 20) (by omega) (by omega), if_pos c]
  · show wp (fX10_feed x1 x2 x3 x4 x5 σ) _
    unfold fX10_feed
    rw [hp, bw_id (z := p + 20) (by omega) (by omega), if_neg c, wp_bind]
    refine wp_mono (put_c h1 hp (by omega)) (fun s1 q1 => ?_)
    rw [wp_bind]
    refine wp_mono (put_c h2 q1.1 (by omega)) (fun s2 q2 => ?_)
    rw [wp_bind]
    refine wp_mono (put_c h3 q2.1 (by omega)) (fun s3 q3 => ?_)
    rw [wp_bind]
    refine wp_mono (put_c h4 q3.1 (by omega)) (fun s4 q4 => ?_)
    rw [wp_bind]
    refine wp_mono (put_c h5 q4.1 (by omega)) (fun s5 q5 => ?_)
    rw [wp_some]
    have fs : Fr [59, 60] σ s5 := (((q1.2.1.tr q2.2.1).tr q3.2.1).tr q4.2.1).tr q5.2.1
    have b60 : ∀ i : Int, rd s5 60 i % 256 = if p ≤ i ∧ i < p + 20 then by4 (pick x1 x2 x3 x4 x5 (i - p)) ((i - p) % 4) else rd σ 60 i % 256 := by
      intro i
      rw [q5.2.2, q4.2.2, q3.2.2, q2.2.2, q1.2.2]
      by_cases z : p ≤ i ∧ i < p + 20
      · rw [if_pos z]
        unfold pick
        by_cases z5 : p + 16 ≤ i
        · rw [if_pos (show p + 4 + 4 + 4 + 4 ≤ i ∧ i < p + 4 + 4 + 4 + 4 + 4 by omega), if_neg (show ¬ i - p < 4 by omega), if_neg (show ¬ i - p < 8 by omega), if_neg (show ¬ i - p < 12 by omega), if_neg (show ¬ i - p < 16 by omega)]
          congr 1
          omega
        rw [if_neg (show ¬ (p + 4 + 4 + 4 + 4 ≤ i ∧ i < p + 4 + 4 + 4 + 4 + 4) by omega)]
        by_cases z4 : p + 12 ≤ i
        · rw [if_pos (show p + 4 + 4 + 4 ≤ i ∧ i < p + 4 + 4 + 4 + 4 by omega), if_neg (show ¬ i - p < 4 by omega), if_neg (show ¬ i - p < 8 by omega), if_neg (show ¬ i - p < 12 by omega), if_pos (show i - p < 16 by omega)]
          congr 1
          omega
        rw [if_neg (show ¬ (p + 4 + 4 + 4 ≤ i ∧ i < p + 4 + 4 + 4 + 4) by omega)]
        by_cases z3 : p + 8 ≤ i
        · rw [if_pos (show p + 4 + 4 ≤ i ∧ i < p + 4 + 4 + 4 by omega), if_neg (show ¬ i - p < 4 by omega), if_neg (show ¬ i - p < 8 by omega), if_pos (show i - p < 12 by omega)]
          congr 1
          omega
        rw [if_neg (show ¬ (p + 4 + 4 ≤ i ∧ i < p + 4 + 4 + 4) by omega)]
        by_cases z2 : p + 4 ≤ i
        · rw [if_pos (show p + 4 ≤ i ∧ i < p + 4 + 4 by omega), if_neg (show ¬ i - p < 4 by omega), if_pos (show i - p < 8 by omega)]
          congr 1
          omega
        rw [if_neg (show ¬ (p + 4 ≤ i ∧ i < p + 4 + 4) by omega), if_pos (show p ≤ i ∧ i < p + 4 by omega), if_pos (show i - p < 4 by omega)]
        congr 1
        omega
      · rw [if_neg z, if_neg (by omega), if_neg (by omega), if_neg (by omega), if_neg (by omega), if_neg (by omega)]
    have e16 : rd s5 84 16 = p := (fs 84 16 (by decide)).trans t2
    show wp (fX11_feed x1 x2 x3 x4 x5 s5) _
    unfold fX11_feed
    rw [e16, bw_id (z := p + 20) (by omega) (by omega), if_neg c]
    refine wp_mono (feedL_m h1 h2 h3 h4 h5 e16 (by omega)) (fun r hr => ?_)
    obtain ⟨r1, r2, r3, r4, r5⟩ := hr
    have s59 : rd s5 59 4 = p + 20 := by rw [q5.1]; omega
    have o59 : rd r.2 59 4 = p + 20 := (r4 59 4 (by decide)).trans s59
    refine ⟨s59.trans r1.symm, inv_tape h (fun c a b d e => funext fun i => (r4 c i (by simp <;> omega)).trans (fs c i (by simp <;> omega))) (fun i hi => (r3 i hi).trans (fs 84 i (by decide))) ⟨?_, ?_, fun i i0 i1 => ?_⟩⟩
    · rw [o59]; omega
    · rw [o59]; exact r2
    · rw [o59] at i1
      have k60 : rd r.2 60 i = rd s5 60 i := r4 60 i (by decide)
      rw [k60, band_255 (rd_bw _ _ _), b60, r5]
      by_cases z : p ≤ i ∧ i < p + 20
      · rw [if_pos z, if_pos z]
      · rw [if_neg z, if_neg z, fs 92 i (by decide), ← t3 i i0 (by omega), band_255 (rd_bw _ _ _)]
