/-! a text is told: what the world is then -/
def VoW (w w' : Int → Int) : Prop := (0 ≤ w' 87 ∧ w' 87 ≤ 16) ∧ ∀ i, 0 ≤ i → i < w' 87 → (0 ≤ w' (151 + 4 * i) ∧ w' (151 + 4 * i) ≤ 999) ∧ isP w (w' (152 + 4 * i)) ∧ isP w (w' (153 + 4 * i)) ∧ w (91 + w' (152 + 4 * i)) ≠ w (91 + w' (153 + 4 * i)) ∧ isF w (w' (154 + 4 * i))
def WeW (w' : Int → Int) : Prop := (0 ≤ w' 88 ∧ w' 88 ≤ 12) ∧ ∀ i, 0 ≤ i → i < w' 88 → (1 ≤ w' (215 + 2 * i) ∧ w' (215 + 2 * i) ≤ 60) ∧ 0 ≤ w' (216 + 2 * i) ∧ w' (216 + 2 * i) ≤ 30
def WaW (w w' : Int → Int) : Prop := (0 ≤ w' 89 ∧ w' 89 ≤ 12) ∧ ∀ i, 0 ≤ i → i < w' 89 → isF w (w' (239 + 3 * i)) ∧ (0 ≤ w' (240 + 3 * i) ∧ w' (240 + 3 * i) ≤ 999) ∧ 1 ≤ w' (241 + 3 * i) ∧ w' (241 + 3 * i) ≤ 99
def VoG (w' : Int → Int) (g : Nat → Int → Int) : Prop := g 17 1 = 16 ∧ g 17 2 = w' 87 ∧ ∀ i, 0 ≤ i → i < w' 87 → g 18 (4 * i) = w' (151 + 4 * i) ∧ g 18 (4 * i + 1) = w' (152 + 4 * i) ∧ g 18 (4 * i + 2) = w' (153 + 4 * i) ∧ g 18 (4 * i + 3) = w' (154 + 4 * i)
def WeG (w' : Int → Int) (g : Nat → Int → Int) : Prop := g 19 1 = 12 ∧ g 19 2 = w' 88 ∧ ∀ i, 0 ≤ i → i < w' 88 → g 20 (4 * i) = w' (215 + 2 * i) ∧ g 20 (4 * i + 1) = w' (216 + 2 * i)
def WaG (w' : Int → Int) (g : Nat → Int → Int) : Prop := g 21 1 = 12 ∧ g 21 2 = w' 89 ∧ ∀ i, 0 ≤ i → i < w' 89 → g 22 (4 * i) = w' (239 + 3 * i) ∧ g 22 (4 * i + 1) = w' (240 + 3 * i) ∧ g 22 (4 * i + 2) = w' (241 + 3 * i)
section
variable {m : Int} {w w' : Int → Int} {g g' : Nat → Int → Int}
theorem oldV (h : CG m w g) (e87 : w' 87 = w 87) (e : ∀ j : Int, 151 ≤ j → j < 215 → w' j = w j) : VoW w w' := by
  have hV := h.1.2.2.2.1
  unfold VoW
  rw [e87]
  refine ⟨hV.1, fun i i0 i1 => ?_⟩
  have := hV.1
  rw [e (151 + 4 * i) (by omega) (by omega), e (152 + 4 * i) (by omega) (by omega), e (153 + 4 * i) (by omega) (by omega), e (154 + 4 * i) (by omega) (by omega)]
  exact hV.2 i i0 i1
theorem oldY (h : CG m w g) (e88 : w' 88 = w 88) (e : ∀ j : Int, 215 ≤ j → j < 239 → w' j = w j) : WeW w' := by
  have hV := h.1.2.2.2.2.1
  unfold WeW
  rw [e88]
  refine ⟨hV.1, fun i i0 i1 => ?_⟩
  have := hV.1
  rw [e (215 + 2 * i) (by omega) (by omega), e (216 + 2 * i) (by omega) (by omega)]
  exact hV.2 i i0 i1
theorem oldN (h : CG m w g) (e89 : w' 89 = w 89) (e : ∀ j : Int, 239 ≤ j → j < 275 → w' j = w j) : WaW w w' := by
  have hV := h.1.2.2.2.2.2.1
  unfold WaW
  rw [e89]
  refine ⟨hV.1, fun i i0 i1 => ?_⟩
  have := hV.1
  rw [e (239 + 3 * i) (by omega) (by omega), e (240 + 3 * i) (by omega) (by omega), e (241 + 3 * i) (by omega) (by omega)]
  exact hV.2 i i0 i1
theorem oldVg (h : CG m w g) (e87 : w' 87 = w 87) (e : ∀ j : Int, 151 ≤ j → j < 215 → w' j = w j) (h17 : ∀ i, g' 17 i = g 17 i) (h18 : ∀ i, g' 18 i = g 18 i) : VoG w' g' := by
  have hV := h.1.2.2.2.1.1
  obtain ⟨t1, t2, t3⟩ := h.2.2.2.2.1.1
  unfold VoG
  rw [e87, h17, h17]
  refine ⟨t1, t2, fun i i0 i1 => ?_⟩
  rw [e (151 + 4 * i) (by omega) (by omega), e (152 + 4 * i) (by omega) (by omega), e (153 + 4 * i) (by omega) (by omega), e (154 + 4 * i) (by omega) (by omega), h18, h18, h18, h18]
  exact t3 i i0 i1
theorem oldYg (h : CG m w g) (e88 : w' 88 = w 88) (e : ∀ j : Int, 215 ≤ j → j < 239 → w' j = w j) (h19 : ∀ i, g' 19 i = g 19 i) (h20 : ∀ i, g' 20 i = g 20 i) : WeG w' g' := by
  have hV := h.1.2.2.2.2.1.1
  obtain ⟨t1, t2, t3⟩ := h.2.2.2.2.1.2.1
  unfold WeG
  rw [e88, h19, h19]
  refine ⟨t1, t2, fun i i0 i1 => ?_⟩
  rw [e (215 + 2 * i) (by omega) (by omega), e (216 + 2 * i) (by omega) (by omega), h20, h20]
  exact t3 i i0 i1
theorem oldNg (h : CG m w g) (e89 : w' 89 = w 89) (e : ∀ j : Int, 239 ≤ j → j < 275 → w' j = w j) (h21 : ∀ i, g' 21 i = g 21 i) (h22 : ∀ i, g' 22 i = g 22 i) : WaG w' g' := by
  have hV := h.1.2.2.2.2.2.1.1
  obtain ⟨t1, t2, t3⟩ := h.2.2.2.2.1.2.2.1
  unfold WaG
  rw [e89, h21, h21]
  refine ⟨t1, t2, fun i i0 i1 => ?_⟩
  rw [e (239 + 3 * i) (by omega) (by omega), e (240 + 3 * i) (by omega) (by omega), e (241 + 3 * i) (by omega) (by omega), h22, h22, h22]
  exact t3 i i0 i1
theorem CG_txt (h : CG m w g) (hw' : ∀ j : Int, j < 86 ∨ (89 < j ∧ j < 151) ∨ (275 ≤ j ∧ j < 911) → w' j = w j) (hg : ∀ k : Nat, k < 10 ∨ 22 < k → ∀ i, g' k i = g k i) (nV : VoW w w') (nY : WeW w') (nN : WaW w w') (tV : VoG w' g') (tY : WeG w' g') (tN : WaG w' g') (nL : LR w' g') : CG m w' g' := by
  obtain ⟨⟨⟨a1, a2, a3, a4, a5, a6, a7, a8, a9⟩, hF, hP, -, -, -, hZ⟩, hS, hRF, hRP, hT, hB, -⟩ := h
  have e80 := hw' 80 (by omega)
  have e81 := hw' 81 (by omega)
  have e85 := hw' 85 (by omega)
  have e90 := hw' 90 (by omega)
  have e3 := hw' 3 (by omega)
  have eF : ∀ c, isF w' c ↔ isF w c := fun c => by unfold isF; rw [e80, e81]
  have eP : ∀ c, isP w' c ↔ isP w c := fun c => by unfold isP; rw [e85]
  have pr : ∀ p, isP w p → 0 ≤ p ∧ p < 12 := fun p hp => ⟨hp.1, by have := hp.2; omega⟩
  refine ⟨⟨⟨by rw [e80]; exact a1, by rw [e81]; exact a2, by rw [hw' 82 (by omega)]; exact a3, by rw [hw' 83 (by omega)]; exact a4, by rw [hw' 84 (by omega)]; exact a5, by rw [e85]; exact a6, by rw [hw' 0 (by omega)]; exact a7, by rw [hw' 1 (by omega)]; exact a8, by rw [e3]; exact a9⟩, fun f hf => ?_, fun p hp => ?_, ⟨nV.1, fun i i0 i1 => ?_⟩, nY, ⟨nN.1, fun i i0 i1 => ?_⟩, ⟨by rw [e90]; exact hZ.1, fun i i0 i1 => ?_⟩⟩, ?_, ⟨fun f hf => ?_, fun f f0 f1 => by rw [hg 1 (by omega)]; exact hRF.2 f f0 f1⟩, ⟨by rw [hg 3 (by omega), e85]; exact hRP.1, fun p hp => ?_⟩, ⟨tV, tY, tN, ⟨by rw [hg 23 (by omega)]; exact hT.2.2.2.1, by rw [hg 23 (by omega), e90]; exact hT.2.2.2.2.1, fun i i0 i1 => ?_⟩⟩, RB_congr hB e3 a9.2 (fun j j0 j1 => hw' j (by omega)) (hg 25 (by omega)) (hg 26 (by omega)), nL⟩
  · have hf' := (eF f).mp hf
    have := isF_b hf'
    rw [hw' (4 + f) (by omega)]
    exact hF f hf'
  · have hp' := (eP p).mp hp
    have hp2 := pr p hp'
    obtain ⟨p1, p2, p3, p4, p5, p6⟩ := hP p hp'
    rw [hw' (91 + p) (by omega), hw' (103 + p) (by omega), hw' (115 + p) (by omega), hw' (127 + p) (by omega), hw' (68 + p) (by omega), hw' (139 + p) (by omega)]
    exact ⟨p1, p2, p3, (eF _).mpr p4, p5.imp id (fun z => (eP _).mpr z), p6⟩
  · obtain ⟨v1, v2, v3, v4, v5⟩ := nV.2 i i0 i1
    have v2' := pr _ v2
    have v3' := pr _ v3
    rw [hw' (91 + w' (152 + 4 * i)) (by omega), hw' (91 + w' (153 + 4 * i)) (by omega)]
    exact ⟨v1, (eP _).mpr v2, (eP _).mpr v3, v4, (eF _).mpr v5⟩
  · obtain ⟨v1, v2, v3⟩ := nN.2 i i0 i1
    exact ⟨(eF _).mpr v1, v2, v3⟩
  · rw [e90] at i1
    have := hZ.1
    obtain ⟨v1, v2, v3⟩ := hZ.2 i i0 i1
    rw [hw' (275 + 3 * i) (by omega), hw' (276 + 3 * i) (by omega), hw' (277 + 3 * i) (by omega)]
    exact ⟨(eP _).mpr v1, v2, v3⟩
  · obtain ⟨s0, s1, s2, s3, s4, s5, s6, s7⟩ := hS
    unfold RS
    simp only [hg 0 (by omega), e80, e81, hw' 82 (by omega), hw' 83 (by omega), hw' 84 (by omega), hw' 1 (by omega), hw' 0 (by omega), hw' 2 (by omega)]
    exact ⟨s0, s1, s2, s3, s4, s5, s6, s7⟩
  · have hf' := (eF f).mp hf
    have := isF_b hf'
    rw [hw' (4 + f) (by omega), hg 1 (by omega)]
    exact hRF.1 f hf'
  · have hp' := (eP p).mp hp
    have hp2 := pr p hp'
    rw [hg 4 (by omega), hg 5 (by omega), hg 6 (by omega), hg 7 (by omega), hg 8 (by omega), hg 9 (by omega), hw' (91 + p) (by omega), hw' (103 + p) (by omega), hw' (115 + p) (by omega), hw' (127 + p) (by omega), hw' (68 + p) (by omega), hw' (139 + p) (by omega)]
    exact hRP.2 p hp'
  · rw [e90] at i1
    have := hZ.1
    rw [hg 24 (by omega), hg 24 (by omega), hg 24 (by omega), hw' (275 + 3 * i) (by omega), hw' (276 + 3 * i) (by omega), hw' (277 + 3 * i) (by omega)]
    exact hT.2.2.2.2.2 i i0 i1
end
/-! text(0): the model -/
def txB (x1 : Int) (σ : Sg) : Sg := wr (wr (wr (wr (wr σ 84 23 0) 84 25 (-1)) 84 21 0) 84 17 0) 84 12 x1
theorem begin_m {t : Int → Int} {z x1 : Int} {σ : Sg} (hO : TO t z) (hx : 0 ≤ x1 ∧ x1 ≤ 3) (h16 : rd σ 84 16 = z) (h92 : ∀ i, 0 ≤ i → i < z → rd σ 92 i = t i) : wp (fX11_next0 (txB x1 σ)) (fun s => FrT σ s ∧ (rd s 84 23 = 0 ∧ rd s 84 25 = -1) ∧ TPm t z x1 s ∧ TKm t z x1 0 s) := by
  have f0 : FrT σ (txB x1 σ) := ((((FrT.rf.wr (by omega)).wr (by omega)).wr (by omega)).wr (by omega)).wr (by omega)
  have hT : TPm t z x1 (txB x1 σ) := by
    unfold txB
    refine ⟨?_, ?_, fun i a b => ?_⟩
    · rw [rq_i (by decide), rq_i (by decide), rq_i (by decide), rq_i (by decide), rq_i (by decide)]; exact h16
    · rw [rq_s, bw_id (by omega) (by omega)]
    · rw [rq_c (by decide), rq_c (by decide), rq_c (by decide), rq_c (by decide), rq_c (by decide)]; exact h92 i a b
  have h17 : rd (txB x1 σ) 84 17 = 0 := by
    unfold txB
    rw [rq_i (by decide), rq_s]; rfl
  refine wp_mono (nxt_m hO hT hx h17 (Int.le_refl _) hO.1.1) (fun s hs => ?_)
  obtain ⟨fx, k⟩ := hs
  refine ⟨f0.fx fx, ⟨?_, ?_⟩, TPm_fx hT fx, k⟩
  · rw [fx 84 23 (by omega)]
    unfold txB
    rw [rq_i (by decide), rq_i (by decide), rq_i (by decide), rq_i (by decide), rq_s]; rfl
  · rw [fx 84 25 (by omega)]
    unfold txB
    rw [rq_i (by decide), rq_i (by decide), rq_i (by decide), rq_s]; rfl
theorem lawRead_m {t : Int → Int} {z : Int} {N : Nat} (hO : TO t z) (H : HK (kT t z) (vT t z) N) {s : Sg} (hT : TPm t z 0 s) (hK : TKm t z 0 0 s) : match lisA (kT t z) (vT t z) FU 0 [] [] with
    | .error x => wp (fX11_readsLaw s) (fun q => q.1 = 0 ∧ FrL s q.2 ∧ rd q.2 84 21 = x.1 ∧ rd q.2 84 22 = pT t z x.2)
    | .ok a => wp (fX11_readsLaw s) (fun q => q.1 = 1 ∧ FrL s q.2 ∧ LM a.1 q.2 ∧ rd q.2 84 13 = a.2.length ∧ LnM a.2 q.2) := by
  have f0 : FrL s (wr (wr s 84 13 0) 84 14 0) := (FrL.rf.wr (by omega)).wr (by omega)
  have hA : AtM t z N (wr (wr s 84 13 0) 84 14 0) (rd s 84 24) 0 [] (wr (wr s 84 13 0) 84 14 0) := by
    refine ⟨FrM.rf, ⟨⟨?_, ?_, fun i a b => ?_⟩, ⟨?_, ?_, ?_, fun q => ?_⟩, ?_⟩, ⟨?_, fun i hi => ?_⟩, Nat.zero_le _⟩
    · rw [rq_i (by decide), rq_i (by decide)]; exact hT.1
    · rw [rq_i (by decide), rq_i (by decide)]; exact hT.2.1
    · rw [rq_c (by decide), rq_c (by decide)]; exact hT.2.2 i a b
    · rw [rq_i (by decide), rq_i (by decide)]; exact hK.1
    · rw [rq_i (by decide), rq_i (by decide)]; exact hK.2.1
    · rw [rq_i (by decide), rq_i (by decide)]; exact hK.2.2.1
    · rw [rq_i (by decide), rq_i (by decide)]; exact hK.2.2.2 q
    · rw [rq_i (by decide), rq_i (by decide)]
    · rw [rq_s]; rfl
    · exact absurd hi (Nat.not_lt_zero _)
  have r := lawS_m hO H FU 0 (rd s 84 24) [] [] (wr (wr s 84 13 0) 84 14 0) (by have := H.1; unfold FU; omega) hA (Nat.zero_le _) (by rw [rq_i (by decide), rq_s]; rfl) (fun i hi => absurd hi (Nat.not_lt_zero _)) (Nat.zero_le _)
  have e0 : fX11_readsLaw s = fX11_readsLaw_L12 FU 1 (wr (wr s 84 13 0) 84 14 0) := by unfold fX11_readsLaw; rfl
  rw [e0]
  cases e : lisA (kT t z) (vT t z) FU 0 [] [] with
  | error x =>
    rw [e] at r
    obtain ⟨q, w1, w2, w3, w4, w5⟩ := r
    exact ⟨q, w1, w2, f0.tr w3, w4, w5⟩
  | ok a =>
    rw [e] at r
    obtain ⟨q, w1, w2, w3, w4, w5, w6⟩ := r
    exact ⟨q, w1, w2, f0.tr w3, w4, w5, w6⟩
theorem textM_law {t : Int → Int} {z : Int} {N : Nat} (hO : TO t z) (H : HK (kT t z) (vT t z) N) {σ : Sg} (h16 : rd σ 84 16 = z) (h92 : ∀ i, 0 ≤ i → i < z → rd σ 92 i = t i) : match lisA (kT t z) (vT t z) FU 0 [] [] with
    | .error x => wp (fX11_text 0 σ) (fun r => r.1 = -1 ∧ FrT σ r.2 ∧ rd r.2 84 16 = 0 ∧ rd r.2 84 23 = x.1 ∧ rd r.2 84 25 = pT t z x.2)
    | .ok a => wp (fX11_text 0 σ) (fun r => r.1 = a.2.length ∧ (∃ s, FrT σ s ∧ Fr [85] s r.2) ∧ rd r.2 84 16 = 0 ∧ rd r.2 84 23 = 0 ∧ rd r.2 84 25 = -1 ∧ LRow a.1 a.2 (rd σ 85) (rd r.2 85)) := by
  obtain ⟨s, p1, f1, ⟨p2, p3⟩, p4, p5⟩ := begin_m (x1 := 0) hO (by decide) h16 h92
  have r := lawRead_m hO H p4 p5
  have ok := lisA_ok H FU 0 [] [] (by have := H.1; unfold FU; omega) (Nat.zero_le _) (Nat.zero_le _) ⟨Nat.zero_le _, fun i hi => absurd hi (Nat.not_lt_zero _)⟩
  have e0 : fX11_text 0 σ = (fX11_readsLaw s).bind fun q7 => fX11_text_J60 0 q7.1 q7.2 := by
    unfold fX11_text
    rw [isIn_m, if_pos (show (0 : Int) ≤ 0 ∧ (0 : Int) ≤ 3 by decide), if_neg n10]
    show (fX11_next0 (txB 0 σ)).bind _ = _
    rw [p1, Option.bind_some, if_pos p00]
  rw [e0]
  cases e : lisA (kT t z) (vT t z) FU 0 [] [] with
  | error x =>
    rw [e] at r ok
    obtain ⟨⟨q1, q2⟩, w1, w2, w3, w4, w5⟩ := r
    have w2 : q1 = 0 := w2
    have w3 : FrL s q2 := w3
    have w4 : rd q2 84 21 = x.1 := w4
    have w5 : rd q2 84 22 = pT t z x.2 := w5
    have x1 := ok.1
    show wp ((fX11_readsLaw s).bind _) _
    rw [w1, Option.bind_some, w2]
    show wp (fX11_text_J60 0 0 q2) _
    unfold fX11_text_J60
    rw [if_pos p00, wp_some]
    refine ⟨rfl, (((f1.fl w3).wr (by omega)).wr (by omega)).wr (by omega), ?_, ?_, ?_⟩
    · show rd (wr (wr (wr q2 84 16 0) 84 23 _) 84 25 _) 84 16 = 0
      rw [rq_i (by decide), rq_i (by decide), rq_s]; rfl
    · show rd (wr (wr (wr q2 84 16 0) 84 23 _) 84 25 _) 84 23 = _
      rw [rq_i (by decide), rq_s, rq_i (by decide), rd_bw]; exact w4
    · show rd (wr (wr (wr q2 84 16 0) 84 23 _) 84 25 _) 84 25 = _
      rw [rq_s, rd_bw, rq_i (by decide), rq_i (by decide)]; exact w5
  | ok a =>
    rw [e] at r ok
    obtain ⟨⟨q1, q2⟩, w1, w2, w3, w4, w5, w6⟩ := r
    have w2 : q1 = 1 := w2
    have w3 : FrL s q2 := w3
    have w5 : rd q2 84 13 = a.2.length := w5
    show wp ((fX11_readsLaw s).bind _) _
    rw [w1, Option.bind_some, w2]
    show wp (fX11_text_J60 0 1 q2) _
    unfold fX11_text_J60 fX11_putsText
    rw [if_neg n10, if_pos p00]
    have f2 : FrT σ (wr q2 84 16 0) := (f1.fl w3).wr (by omega)
    have k := putsLaw_m (ls := a.1) (lns := a.2) (σ := wr q2 84 16 0) ok.2.1 (by have h1 := encL_le a.1; have h2 := ok.1; have h3 := H.1; omega) (by rw [rq_i (by decide)]; exact w5) ⟨by rw [rq_i (by decide)]; exact w4.1, fun i hi => by rw [rq_c (by decide), rq_c (by decide)]; exact w4.2 i hi⟩ (fun i hi => by rw [rq_c (by decide), rq_c (by decide), rq_c (by decide), rq_c (by decide)]; exact w6 i hi)
    obtain ⟨⟨v1, v2⟩, k1, k2, k3, k4⟩ := k
    have k2 : v1 = a.2.length := k2
    have k3 : Fr [85] (wr q2 84 16 0) v2 := k3
    have k4 : LRow a.1 a.2 (rd (wr q2 84 16 0) 85) (rd v2 85) := k4
    rw [k1, Option.bind_some, Option.bind_some, wp_some]
    have e85 : rd (wr q2 84 16 0) 85 = rd σ 85 := funext fun i => f2 85 i (by decide) (by decide) (by decide) (by omega)
    rw [e85] at k4
    refine ⟨k2, ⟨_, f2, k3⟩, ?_, ?_, ?_, k4⟩
    · show rd v2 84 16 = 0
      rw [k3 84 16 (by decide), rq_s]; rfl
    · show rd v2 84 23 = 0
      rw [k3 84 23 (by decide), rq_i (by decide), w3 84 23 (by decide) (by decide) (by omega)]; exact p2
    · show rd v2 84 25 = -1
      rw [k3 84 25 (by decide), rq_i (by decide), w3 84 25 (by decide) (by decide) (by omega)]; exact p3
