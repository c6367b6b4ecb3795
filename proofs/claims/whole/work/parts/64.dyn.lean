/-! rows that change: what the relation keeps -/
def upz (w : Int → Int) (i v : Int) : Int → Int := fun j => if j = i then v else w j
theorem upz_s {w : Int → Int} {i v : Int} : upz w i v i = v := if_pos rfl
theorem upz_n {w : Int → Int} {i j v : Int} (h : j ≠ i) : upz w i v j = w j := if_neg h
theorem wr_row (σ : Sg) (c : Nat) (i v : Int) : rd (wr σ c i v) c = upz (rd σ c) i (bw v) := by
  funext j
  rw [rd_wr, upz]
  by_cases h : j = i
  · rw [if_pos ⟨rfl, h⟩, if_pos h]
  · rw [if_neg (fun z => h z.2), if_neg h]
theorem wr_off {σ : Sg} {c c2 : Nat} (i v : Int) (h : c2 ≠ c) : rd (wr σ c i v) c2 = rd σ c2 := funext fun _ => rq_c h
theorem stN_congr {w w' : Int → Int} (h : ∀ j : Int, 911 ≤ j → w' j = w j) : ∀ (n : Nat) (a : Int), 0 ≤ a → stN w' n a = stN w n a
  | 0, _, _ => rfl
  | n + 1, a, ha => by rw [stN, stN, h _ (by omega), h _ (by omega), stN_congr h n (a + 1) (by omega)]
theorem stW_congr {w w' : Int → Int} (h : ∀ j : Int, 911 ≤ j → w' j = w j) {a b : Int} (ha : 0 ≤ a) : stW w' a b = stW w a b := stN_congr h _ _ ha
theorem LR_congr {w w' : Int → Int} {g g' : Nat → Int → Int} (h86 : w' 86 = w 86) (h : ∀ j : Int, 911 ≤ j → w' j = w j) (hg : ∀ k : Nat, 10 ≤ k → k ≤ 14 → ∀ i, g' k i = g k i) (k : LR w g) : LR w' g' := by
  obtain ⟨h1, h2, h3, h4⟩ := k
  have e11 : g' 11 = g 11 := funext (hg 11 (by omega) (by omega))
  refine ⟨by rw [h86]; exact h1, by rw [h86, hg 10 (by omega) (by omega)]; exact h2, by rw [hg 10 (by omega) (by omega)]; exact h3, fun i i0 i1 => ?_⟩
  rw [h86] at i1
  obtain ⟨k1, k2, k3, k4, k5, k6, k7, k8⟩ := h4 i i0 i1
  unfold LL
  rw [hg 12 (by omega) (by omega), hg 13 (by omega) (by omega), hg 13 (by omega) (by omega), hg 14 (by omega) (by omega), hg 10 (by omega) (by omega), e11, h (959 + i) (by omega), h (911 + i) (by omega), h (927 + i) (by omega), h (943 + i) (by omega), stW_congr h (by omega), stW_congr h (by omega)]
  exact ⟨k1, k2, k3, k4, k5, k6, k7, k8⟩
theorem sayN_congr {w w' : Int → Int} {fc : Int → Int} {word other : Int} (h : ∀ j : Int, 911 ≤ j → w' j = w j) (hb : ∀ i : Int, 0 ≤ i → i < w 86 → 0 ≤ w (911 + i) ∧ 0 ≤ w (927 + i)) : ∀ (n : Nat) (i : Int), 0 ≤ i → i + n ≤ w 86 → sayN w' fc word other n i = sayN w fc word other n i
  | 0, _, _, _ => rfl
  | n + 1, i, hi, hn => by
    have hb2 := hb i hi (by omega)
    rw [sayN, sayN, h (959 + i) (by omega), h (911 + i) (by omega), h (927 + i) (by omega), h (943 + i) (by omega), evW, evW, stW_congr h hb2.1, stW_congr h hb2.2, sayN_congr h hb n (i + 1) (by omega) (by omega)]
    rfl
theorem sayW_congr {w w' : Int → Int} {g : Nat → Int → Int} {fc : Int → Int} {word other most : Int} (hL : LR w g) (h86 : w' 86 = w 86) (h : ∀ j : Int, 911 ≤ j → w' j = w j) : sayW w' fc word other most = sayW w fc word other most := by
  unfold sayW
  rw [h86, sayN_congr h (fun i h1 h2 => by have := (hL.2.2.2 i h1 h2).2.2.2.1; omega) _ _ (by omega) (by have := hL.1; omega)]
/-- days, vows and their like: what they may change -/
theorem CG_dyn {m : Int} {w w' : Int → Int} {g g' : Nat → Int → Int} (h : CG m w g) (hw : ∀ j : Int, (80 ≤ j ∧ j < 311) ∨ 911 ≤ j → w' j = w j) (hg : ∀ k : Nat, k ≠ 0 → k ≠ 1 → k ≠ 8 → k ≠ 25 → k ≠ 26 → ∀ i, g' k i = g k i) (h0 : ∀ i : Int, 0 ≤ i → i ≤ 4 → g' 0 i = g 0 i) (hd : 0 ≤ w' 0 ∧ w' 0 ≤ 20000) (hn : 0 ≤ w' 1 ∧ w' 1 ≤ 1000000000) (hb3 : 0 ≤ w' 3 ∧ w' 3 ≤ 150) (hs : ∀ f, isF w f → 0 ≤ w' (4 + f) ∧ w' (4 + f) ≤ 99) (hwed : ∀ p, isP w p → w' (68 + p) = -1 ∨ isP w (w' (68 + p))) (r5 : g' 0 5 = w' 1) (r6 : g' 0 6 = w' 0) (r7 : g' 0 7 = w' 2) (rf : ∀ f, isF w f → g' 1 f = w' (4 + f)) (rn : ∀ f : Int, 0 ≤ f → f < 56 → 0 ≤ g' 1 f ∧ g' 1 f ≤ 99) (rw' : ∀ p, isP w p → g' 8 p = w' (68 + p)) (rb : RB m w' g') : CG m w' g' := by
  obtain ⟨⟨⟨a1, a2, a3, a4, a5, a6, a7, a8, a9⟩, -, hP, hV, hY, hN, hZ⟩, hS, -, hRP, hT, -, hL⟩ := h
  have e80 := hw 80 (by omega)
  have e81 := hw 81 (by omega)
  have e82 := hw 82 (by omega)
  have e83 := hw 83 (by omega)
  have e84 := hw 84 (by omega)
  have e85 := hw 85 (by omega)
  have e86 := hw 86 (by omega)
  have e87 := hw 87 (by omega)
  have e88 := hw 88 (by omega)
  have e89 := hw 89 (by omega)
  have e90 := hw 90 (by omega)
  have eF : ∀ c, isF w' c ↔ isF w c := fun c => by unfold isF; rw [e80, e81]
  have eP : ∀ c, isP w' c ↔ isP w c := fun c => by unfold isP; rw [e85]
  have pr : ∀ p, isP w p → 0 ≤ p ∧ p < 12 := fun p hp => ⟨hp.1, by have := hp.2; omega⟩
  refine ⟨⟨⟨by rw [e80]; exact a1, by rw [e81]; exact a2, by rw [e82]; exact a3, by rw [e83]; exact a4, by rw [e84]; exact a5, by rw [e85]; exact a6, hd, hn, hb3⟩, fun f hf => hs f ((eF f).mp hf), fun p hp => ?_, ⟨by rw [e87]; exact hV.1, fun i i0 i1 => ?_⟩, ⟨by rw [e88]; exact hY.1, fun i i0 i1 => ?_⟩, ⟨by rw [e89]; exact hN.1, fun i i0 i1 => ?_⟩, ⟨by rw [e90]; exact hZ.1, fun i i0 i1 => ?_⟩⟩, ?_, ⟨fun f hf => rf f ((eF f).mp hf), rn⟩, ⟨by rw [hg 3 (by omega) (by omega) (by omega) (by omega) (by omega), e85]; exact hRP.1, fun p hp => ?_⟩, ?_, rb, LR_congr e86 (fun j hj => hw j (Or.inr hj)) (fun k k1 k2 => hg k (by omega) (by omega) (by omega) (by omega) (by omega)) hL⟩
  · have hp' := (eP p).mp hp
    have hp2 := pr p hp'
    obtain ⟨p1, p2, p3, p4, p5, p6⟩ := hP p hp'
    rw [hw (91 + p) (by omega), hw (103 + p) (by omega), hw (115 + p) (by omega), hw (127 + p) (by omega), hw (139 + p) (by omega)]
    exact ⟨p1, p2, p3, (eF _).mpr p4, (hwed p hp').imp id (fun z => (eP _).mpr z), p6⟩
  · rw [e87] at i1
    obtain ⟨v1, v2, v3, v4, v5⟩ := hV.2 i i0 i1
    have v2' := pr _ v2
    have v3' := pr _ v3
    have := hV.1
    rw [hw (151 + 4 * i) (by omega), hw (152 + 4 * i) (by omega), hw (153 + 4 * i) (by omega), hw (154 + 4 * i) (by omega), hw (91 + w (152 + 4 * i)) (by omega), hw (91 + w (153 + 4 * i)) (by omega)]
    exact ⟨v1, (eP _).mpr v2, (eP _).mpr v3, v4, (eF _).mpr v5⟩
  · rw [e88] at i1
    have := hY.1
    rw [hw (215 + 2 * i) (by omega), hw (216 + 2 * i) (by omega)]
    exact hY.2 i i0 i1
  · rw [e89] at i1
    have := hN.1
    obtain ⟨v1, v2, v3⟩ := hN.2 i i0 i1
    rw [hw (239 + 3 * i) (by omega), hw (240 + 3 * i) (by omega), hw (241 + 3 * i) (by omega)]
    exact ⟨(eF _).mpr v1, v2, v3⟩
  · rw [e90] at i1
    have := hZ.1
    obtain ⟨v1, v2, v3⟩ := hZ.2 i i0 i1
    rw [hw (275 + 3 * i) (by omega), hw (276 + 3 * i) (by omega), hw (277 + 3 * i) (by omega)]
    exact ⟨(eP _).mpr v1, v2, v3⟩
  · obtain ⟨s0, s1, s2, s3, s4, -⟩ := hS
    exact ⟨by rw [h0 0 (by omega) (by omega), e80]; exact s0, by rw [h0 1 (by omega) (by omega), e81]; exact s1, by rw [h0 2 (by omega) (by omega), e82]; exact s2, by rw [h0 3 (by omega) (by omega), e83]; exact s3, by rw [h0 4 (by omega) (by omega), e84]; exact s4, r5, r6, r7⟩
  · have hp' := (eP p).mp hp
    have hp2 := pr p hp'
    obtain ⟨p1, p2, p3, p4, p5, p6⟩ := hRP.2 p hp'
    rw [hg 4 (by omega) (by omega) (by omega) (by omega) (by omega), hg 5 (by omega) (by omega) (by omega) (by omega) (by omega), hg 6 (by omega) (by omega) (by omega) (by omega) (by omega), hg 7 (by omega) (by omega) (by omega) (by omega) (by omega), hg 9 (by omega) (by omega) (by omega) (by omega) (by omega), hw (91 + p) (by omega), hw (103 + p) (by omega), hw (115 + p) (by omega), hw (127 + p) (by omega), hw (139 + p) (by omega)]
    exact ⟨p1, p2, p3, p4, rw' p hp', p6⟩
  · obtain ⟨⟨t1, t2, t3⟩, ⟨t4, t5, t6⟩, ⟨t7, t8, t9⟩, ⟨u1, u2, u3⟩⟩ := hT
    have gg : ∀ k : Nat, 17 ≤ k → k ≤ 24 → ∀ i, g' k i = g k i := fun k k1 k2 => hg k (by omega) (by omega) (by omega) (by omega) (by omega)
    have := hV.1
    have := hY.1
    have := hN.1
    have := hZ.1
    refine ⟨⟨by rw [gg 17 (by omega) (by omega)]; exact t1, by rw [gg 17 (by omega) (by omega), e87]; exact t2, fun i i0 i1 => ?_⟩, ⟨by rw [gg 19 (by omega) (by omega)]; exact t4, by rw [gg 19 (by omega) (by omega), e88]; exact t5, fun i i0 i1 => ?_⟩, ⟨by rw [gg 21 (by omega) (by omega)]; exact t7, by rw [gg 21 (by omega) (by omega), e89]; exact t8, fun i i0 i1 => ?_⟩, ⟨by rw [gg 23 (by omega) (by omega)]; exact u1, by rw [gg 23 (by omega) (by omega), e90]; exact u2, fun i i0 i1 => ?_⟩⟩
    · rw [e87] at i1
      rw [gg 18 (by omega) (by omega), gg 18 (by omega) (by omega), gg 18 (by omega) (by omega), gg 18 (by omega) (by omega), hw (151 + 4 * i) (by omega), hw (152 + 4 * i) (by omega), hw (153 + 4 * i) (by omega), hw (154 + 4 * i) (by omega)]
      exact t3 i i0 i1
    · rw [e88] at i1
      rw [gg 20 (by omega) (by omega), gg 20 (by omega) (by omega), hw (215 + 2 * i) (by omega), hw (216 + 2 * i) (by omega)]
      exact t6 i i0 i1
    · rw [e89] at i1
      rw [gg 22 (by omega) (by omega), gg 22 (by omega) (by omega), gg 22 (by omega) (by omega), hw (239 + 3 * i) (by omega), hw (240 + 3 * i) (by omega), hw (241 + 3 * i) (by omega)]
      exact t9 i i0 i1
    · rw [e90] at i1
      rw [gg 24 (by omega) (by omega), gg 24 (by omega) (by omega), gg 24 (by omega) (by omega), hw (275 + 3 * i) (by omega), hw (276 + 3 * i) (by omega), hw (277 + 3 * i) (by omega)]
      exact u3 i i0 i1
/-! THE BOOK's lines -/
def noteW (t : Int) (w : Int → Int) (what first much : Int) : Int → Int :=
  if t = 0 ∨ w 3 = 150 then w else fun j => if j = 3 then w 3 + 1 else if j = 314 + 4 * w 3 then much else if j = 313 + 4 * w 3 then first else if j = 312 + 4 * w 3 then what else if j = 311 + 4 * w 3 then w 0 else w j
theorem noteW_lo {t : Int} {w : Int → Int} {x y z j : Int} (h3 : 0 ≤ w 3) (h : j < 311 ∨ 911 ≤ j) (hb : w 3 ≤ 150) (hj : j ≠ 3) : noteW t w x y z j = w j := by
  unfold noteW
  split
  · rfl
  · next q => simp only; rw [if_neg hj, if_neg (by omega), if_neg (by omega), if_neg (by omega), if_neg (by omega)]
theorem noteW_at3 {t : Int} {w : Int → Int} {x y z : Int} (h : ¬ (t = 0 ∨ w 3 = 150)) : noteW t w x y z 3 = w 3 + 1 := by
  unfold noteW
  rw [if_neg h]
  exact if_pos rfl
theorem noteW_3 {t : Int} {w : Int → Int} {x y z : Int} (hb : 0 ≤ w 3 ∧ w 3 ≤ 150) : 0 ≤ noteW t w x y z 3 ∧ noteW t w x y z 3 ≤ 150 := by
  by_cases h : t = 0 ∨ w 3 = 150
  · unfold noteW
    rw [if_pos h]
    exact hb
  · rw [noteW_at3 h]
    omega
theorem notes_m {w : Int → Int} {σ : Sg} {x y z : Int} (hw : rd σ 85 = w) (hb : 0 ≤ w 3 ∧ w 3 ≤ 150) (hd : bw (w 0) = w 0) (hx : bw x = x) (hy : bw y = y) (hz : bw z = z) : wp (fX11_notes x y z σ) (fun τ => rd τ 85 = noteW (rd σ 84 26) w x y z ∧ Fr [85] σ τ) := by
  unfold fX11_notes noteW
  by_cases h1 : rd σ 84 26 = 0
  · rw [if_pos h1, if_pos (Or.inl h1), wp_some]
    exact ⟨hw, Fr.rf⟩
  · rw [if_neg h1, hw]
    by_cases h2 : w 3 = 150
    · rw [if_pos h2, if_pos (Or.inr h2), wp_some]
      exact ⟨hw, Fr.rf⟩
    · rw [if_neg h2, if_neg (fun q => q.elim h1 h2), bw_id (z := 4 * w 3) (by omega) (by omega), bw_id (z := 311 + 4 * w 3) (by omega) (by omega), bw_id (z := 311 + 4 * w 3 + 1) (by omega) (by omega), bw_id (z := 311 + 4 * w 3 + 2) (by omega) (by omega), bw_id (z := 311 + 4 * w 3 + 3) (by omega) (by omega), grd_pos (by omega), grd_pos (by omega), grd_pos (by omega), grd_pos (by omega), wp_some]
      refine ⟨?_, ((((Fr.rf.wr (by decide)).wr (by decide)).wr (by decide)).wr (by decide)).wr (by decide)⟩
      rw [rq_i (i2 := 3) (by omega), rq_i (i2 := 3) (by omega), rq_i (i2 := 3) (by omega), rq_i (i2 := 3) (by omega), wr_row, wr_row, wr_row, wr_row, wr_row, hw, hd, hx, hy, hz, bw_bw, bw_id (z := w 3 + 1) (by omega) (by omega)]
      funext j
      simp only [upz]
      repeat' split
      all_goals first | rfl | omega
theorem note_c {m : Int} {w : Int → Int} {σ : Sg} {b : Nat} {x y z : Int} (hb1 : b = 1 ∧ m = 150 ∨ b = 28 ∧ m = 0) (hR : RB m w (vw σ b)) (hb : 0 ≤ w 3 ∧ w 3 ≤ 150) (hd0 : rd σ b 6 = w 0) (hd : bw (w 0) = w 0) (hx : bw x = x) (hy : bw y = y) (hz : bw z = z) : wp (fX9_note b x y z σ) (fun τ => RB m (noteW m w x y z) (vw τ b) ∧ Fr [b + 25, b + 26] σ τ) := by
  unfold fX9_note fX6_add
  obtain ⟨r1, r2⟩ := hR
  have r1 : rd σ (b + 25) 1 = m := r1
  rcases r2 with ⟨hm, r2⟩ | ⟨hm, r2, r3⟩
  · have r2 : rd σ (b + 25) 2 = 0 := r2
    rw [r1, r2, if_neg (by omega), wp_bind, wp_some, wp_some]
    unfold noteW
    rw [if_pos (Or.inl hm)]
    exact ⟨⟨r1, Or.inl ⟨hm, r2⟩⟩, Fr.rf⟩
  · have r2 : rd σ (b + 25) 2 = w 3 := r2
    have hbk : bkN b = 600 := by
      rcases hb1 with ⟨rfl, -⟩ | ⟨-, h⟩
      · rfl
      · omega
    rw [r1, r2, hbk]
    by_cases h2 : w 3 = 150
    · rw [if_neg (by omega), wp_bind, wp_some, wp_some]
      unfold noteW
      rw [if_pos (Or.inr h2)]
      exact ⟨⟨r1, Or.inr ⟨hm, r2, r3⟩⟩, Fr.rf⟩
    · rw [if_pos (by omega), bw_id (z := w 3 * 4) (by omega) (by omega), bw_id (z := w 3 * 4 + 1) (by omega) (by omega), bw_id (z := w 3 * 4 + 2) (by omega) (by omega), bw_id (z := w 3 * 4 + 3) (by omega) (by omega), grd_pos (by omega), grd_pos (by omega), grd_pos (by omega), grd_pos (by omega), wp_bind, wp_some, wp_some, hd0]
      have q25 : ∀ i : Int, rd (wr (wr (wr (wr (wr σ (b + 25 + 1) (w 3 * 4) (w 0)) (b + 25 + 1) (w 3 * 4 + 1) x) (b + 25 + 1) (w 3 * 4 + 2) y) (b + 25 + 1) (w 3 * 4 + 3) z) (b + 25) 2 (w 3 + 1)) (b + 25) i = if i = 2 then w 3 + 1 else rd σ (b + 25) i := by
        intro i
        rw [rd_wr]
        by_cases hi : i = 2
        · rw [if_pos ⟨rfl, hi⟩, if_pos hi, bw_id (by omega) (by omega)]
        · rw [if_neg (fun q => hi q.2), if_neg hi, rq_c (by omega), rq_c (by omega), rq_c (by omega), rq_c (by omega)]
      have e2 : rd (wr (wr (wr (wr σ (b + 25 + 1) (w 3 * 4) (w 0)) (b + 25 + 1) (w 3 * 4 + 1) x) (b + 25 + 1) (w 3 * 4 + 2) y) (b + 25 + 1) (w 3 * 4 + 3) z) (b + 25) 2 = w 3 := by
        rw [rq_c (by omega), rq_c (by omega), rq_c (by omega), rq_c (by omega)]
        exact r2
      rw [e2, bw_id (z := w 3 + 1) (by omega) (by omega)]
      refine ⟨⟨(q25 1).trans r1, Or.inr ⟨hm, ?_, fun i i0 i1 => ?_⟩⟩, ((((Fr.rf.wr (by simp)).wr (by simp)).wr (by simp)).wr (by simp)).wr (by simp)⟩
      · unfold noteW
        rw [if_neg (by omega)]
        exact q25 2
      · have q26 : ∀ i : Int, rd (wr (wr (wr (wr (wr σ (b + 25 + 1) (w 3 * 4) (w 0)) (b + 25 + 1) (w 3 * 4 + 1) x) (b + 25 + 1) (w 3 * 4 + 2) y) (b + 25 + 1) (w 3 * 4 + 3) z) (b + 25) 2 (w 3 + 1)) (b + 26) i = if i = w 3 * 4 + 3 then z else if i = w 3 * 4 + 2 then y else if i = w 3 * 4 + 1 then x else if i = w 3 * 4 then w 0 else rd σ (b + 26) i := by
          intro i
          rw [rq_c (by omega)]
          show rd (wr (wr (wr (wr σ (b + 26) (w 3 * 4) (w 0)) (b + 26) (w 3 * 4 + 1) x) (b + 26) (w 3 * 4 + 2) y) (b + 26) (w 3 * 4 + 3) z) (b + 26) i = _
          rw [wr_row, wr_row, wr_row, wr_row, hx, hy, hz, hd]
          simp only [upz]
        have i1' : i < w 3 + 1 := by
          have : noteW m w x y z 3 = w 3 + 1 := by
            unfold noteW
            rw [if_neg (by omega)]
            exact if_pos rfl
          omega
        have hlo : ∀ j : Int, 311 ≤ j → noteW m w x y z j = if j = 314 + 4 * w 3 then z else if j = 313 + 4 * w 3 then y else if j = 312 + 4 * w 3 then x else if j = 311 + 4 * w 3 then w 0 else w j := by
          intro j hj
          unfold noteW
          rw [if_neg (by omega)]
          exact if_neg (by omega)
        have v26 : ∀ i : Int, vw (wr (wr (wr (wr (wr σ (b + 25 + 1) (w 3 * 4) (w 0)) (b + 25 + 1) (w 3 * 4 + 1) x) (b + 25 + 1) (w 3 * 4 + 2) y) (b + 25 + 1) (w 3 * 4 + 3) z) (b + 25) 2 (w 3 + 1)) b 26 i = if i = w 3 * 4 + 3 then z else if i = w 3 * 4 + 2 then y else if i = w 3 * 4 + 1 then x else if i = w 3 * 4 then w 0 else rd σ (b + 26) i := q26
        rw [v26, v26, v26, v26, hlo _ (by omega), hlo _ (by omega), hlo _ (by omega), hlo _ (by omega)]
        by_cases hi : i = w 3
        · subst hi
          refine ⟨?_, ?_, ?_, ?_⟩ <;> (repeat' split) <;> first | rfl | omega
        · obtain ⟨c1, c2, c3, c4⟩ := r3 i i0 (by omega)
          have c1 : rd σ (b + 26) (4 * i) = w (311 + 4 * i) := c1
          have c2 : rd σ (b + 26) (4 * i + 1) = w (312 + 4 * i) := c2
          have c3 : rd σ (b + 26) (4 * i + 2) = w (313 + 4 * i) := c3
          have c4 : rd σ (b + 26) (4 * i + 3) = w (314 + 4 * i) := c4
          rw [c1, c2, c3, c4]
          refine ⟨?_, ?_, ?_, ?_⟩ <;> (repeat' split) <;> first | rfl | omega
