/-! the class's VOW -/
section CVow
variable {m : Int} {w : Int → Int} {σ : Sg} {b : Nat} {p q x : Int}
theorem liftsL_c (h : CW m w σ b) (hp : isP w p) (hq : isP w q) (hx : isF w x) {k77 : Sg → Option (Int × Sg)} {Q : Int × Sg → Prop} (hk : ∀ τ, Fr [b + 2, b + 15, b + 16] σ τ → (∀ f : Int, 0 ≤ f → f < 56 → rd τ (b + 2) f = askW w p q x f) → wp (k77 τ) Q) : wp (fX9_makeVow_L23 b k77 p q x (foundW w p q) FU 0 σ) Q := by
  have hxb := isF_b hx
  refine loopM (F := fun n s => fX9_makeVow_L23 b k77 p q x (foundW w p q) n s.1 s.2) (fun s : Int × Sg => (0 ≤ s.1 ∧ s.1 ≤ 56) ∧ Fr [b + 2, b + 15, b + 16] σ s.2 ∧ ∀ f : Int, 0 ≤ f → f < s.1 → rd s.2 (b + 2) f = askW w p q x f) (fun s => (56 - s.1).toNat) ?_ FU (0, σ) (by unfold FU; simp only; omega) ⟨by simp only; omega, Fr.rf, fun j h1 h2 => absurd h2 (by simp only; omega)⟩
  rintro n ⟨i, τ⟩ ⟨hi, hF, hz⟩ ih
  show wp (fX9_makeVow_L23 b k77 p q x (foundW w p q) (n + 1) i τ) Q
  simp only at hi hF hz
  have hc : CW m w τ b := h.fr hF (by simp)
  rw [fX9_makeVow_L23]
  by_cases h56 : i < 56
  · rw [if_pos h56, hasField_c hc, bw_id (z := i + 1) (by omega) (by omega)]
    by_cases hf : isF w i
    · rw [if_pos hf, if_neg (by decide), grd_pos (by omega), steps_eq (by omega) (by omega)]
      have es : rd τ (b + 1) i = w (4 + i) := hc.2.2.1.1 i hf
      have ha := apW_r hxb (isF_b hf)
      rw [es, wp_bind]
      refine wp_mono (liftOf_c hc hp hq (foundW_r w p q) (by omega : 0 ≤ apW x i ∧ apW x i ≤ 20) (hc.1.2.1 i hf)) (fun r hr => ?_)
      rw [grd_pos (by omega)]
      refine ih (i + 1, wr r.2 (b + 2) i r.1) ⟨by simp only; omega, (hF.tr (hr.2.mo (by simp))).wr (by simp), fun f h1 h2 => ?_⟩ (by simp only; omega)
      have h2 : f < i + 1 := h2
      show rd (wr r.2 (b + 2) i r.1) (b + 2) f = _
      have hlr := liftW_r w p q (foundW w p q) (apW x i) (w (4 + i))
      rw [rd_wr]
      by_cases e : f = i
      · subst e
        rw [if_pos ⟨rfl, rfl⟩, hr.1, bw_id (by omega) (by omega), askW, if_pos hf]
      · rw [if_neg (fun z => e z.2), hr.2 (b + 2) f (by simp)]
        exact hz f h1 (by omega)
    · rw [if_neg hf, if_pos rfl, grd_pos (by omega)]
      refine ih (i + 1, wr τ (b + 2) i 0) ⟨by simp only; omega, hF.wr (by simp), fun f h1 h2 => ?_⟩ (by simp only; omega)
      have h2 : f < i + 1 := h2
      show rd (wr τ (b + 2) i 0) (b + 2) f = _
      rw [rd_wr]
      by_cases e : f = i
      · subst e
        rw [if_pos ⟨rfl, rfl⟩, askW, if_neg hf]
        rfl
      · rw [if_neg (fun z => e z.2)]
        exact hz f h1 (by omega)
  · rw [if_neg h56]
    exact hk τ hF (fun f h1 h2 => hz f h1 (by omega))
theorem rise_c (hW : Wf w) {τ : Sg} (hl : ∀ f : Int, 0 ≤ f → f < 56 → rd τ (b + 2) f = askW w p q x f) (hs : ∀ f, isF w f → rd τ (b + 1) f = w (4 + f)) (hn : ∀ f : Int, 0 ≤ f → f < 56 → 0 ≤ rd τ (b + 1) f ∧ rd τ (b + 1) f ≤ 99) (h5 : rd τ b 5 = w 1) : wp (fX9_rise b τ) (fun r => r.1 = sumN (upW w p q x) 64 ∧ Fr [b, b + 1] τ r.2 ∧ (∀ i : Int, i ≠ 5 → rd r.2 b i = rd τ b i) ∧ rd r.2 b 5 = w 1 + sumN (upW w p q x) 64 ∧ ∀ f : Int, 0 ≤ f → f < 56 → rd r.2 (b + 1) f = rd τ (b + 1) f - upW w p q x f) := by
  have hw1 := hW.1.2.2.2.2.2.2.2.1
  have hu : ∀ i : Int, 0 ≤ i → 0 ≤ upW w p q x i ∧ upW w p q x i ≤ 99 := fun i _ => ⟨(upW_r hW p q x i).1, (upW_r hW p q x i).2.1⟩
  have hup : ∀ f : Int, 0 ≤ f → f < 56 → min (askW w p q x f) (rd τ (b + 1) f) = upW w p q x f := by
    intro f h1 h2
    by_cases hf : isF w f
    · rw [upW, if_pos hf, hs f hf]; omega
    · rw [upW, if_neg hf, askW, if_neg hf]
      have := hn f h1 h2
      omega
  have h64 : sumN (upW w p q x) 64 = sumN (upW w p q x) 56 := sumN_0 (a := 56) (fun i hi => by rw [upW, if_neg (fun z => by have := isF_b z; omega)]) 8
  unfold fX9_rise
  refine loopM (F := fun n (s : Int × Int × Sg) => fX9_rise_L4 b n s.1 s.2.1 s.2.2) (fun s : Int × Int × Sg => (0 ≤ s.2.1 ∧ s.2.1 ≤ 56) ∧ s.1 = sumN (upW w p q x) s.2.1.toNat ∧ Fr [b + 1] τ s.2.2 ∧ ∀ f : Int, 0 ≤ f → f < 56 → rd s.2.2 (b + 1) f = if f < s.2.1 then rd τ (b + 1) f - upW w p q x f else rd τ (b + 1) f) (fun s => (56 - s.2.1).toNat) ?_ FU (0, 0, τ) (by unfold FU; simp only; omega) ⟨by simp only; omega, rfl, Fr.rf, fun f h1 h2 => by simp only; rw [if_neg (by omega)]⟩
  rintro n ⟨v, i, ρ⟩ ⟨hi, hv, hF, hz⟩ ih
  show wp (fX9_rise_L4 b (n + 1) v i ρ) _
  simp only at hi hv hF hz
  rw [fX9_rise_L4]
  by_cases h56 : i < 56
  · have e2 : rd ρ (b + 2) i = askW w p q x i := (hF (b + 2) i (by simp)).trans (hl i hi.1 h56)
    have e1 : rd ρ (b + 1) i = rd τ (b + 1) i := by rw [hz i hi.1 h56, if_neg (by omega)]
    have hui := hu i hi.1
    have hni := hn i hi.1 h56
    have hsr := sumN_r hu i.toNat
    have hv2 : 0 ≤ v ∧ v ≤ 5544 := by rw [hv]; omega
    rw [if_pos h56, grd_pos (by omega), grd_pos (by omega), grd_pos (by omega), grd_pos (by omega), e2, e1, min_eq, hup i hi.1 h56, bw_id (z := v + upW w p q x i) (by omega) (by omega), bw_id (z := i + 1) (by omega) (by omega)]
    refine ih (v + upW w p q x i, i + 1, wr ρ (b + 1) i (bw (rd τ (b + 1) i - upW w p q x i))) ⟨by simp only; omega, ?_, hF.wr (by simp), fun f h1 h2 => ?_⟩ (by simp only; omega)
    · show v + upW w p q x i = sumN (upW w p q x) (i + 1).toNat
      rw [show (i + 1).toNat = i.toNat + 1 by omega, sumN, ← hv, show ((i.toNat : Nat) : Int) = i by omega]
    · show rd (wr ρ (b + 1) i (bw (rd τ (b + 1) i - upW w p q x i))) (b + 1) f = if f < i + 1 then _ else _
      rw [rd_wr, bw_bw]
      by_cases e : f = i
      · subst e
        rw [if_pos ⟨rfl, rfl⟩, if_pos (by omega), bw_id (by omega) (by omega)]
      · rw [if_neg (fun z => e z.2), hz f h1 h2]
        by_cases e3 : f < i
        · rw [if_pos e3, if_pos (by omega)]
        · rw [if_neg e3, if_neg (by omega)]
  · have hi56 : i = 56 := by omega
    have hsr := sumN_r hu 56
    have e5 : rd ρ b 5 = w 1 := (hF b 5 (by simp <;> omega)).trans h5
    have hv3 : v = sumN (upW w p q x) 64 := by rw [hv, h64, hi56]; rfl
    rw [if_neg h56, wp_some, e5, hv3, bw_id (z := w 1 + sumN (upW w p q x) 64) (by omega) (by omega)]
    refine ⟨rfl, (hF.mo (by simp)).wr (by simp), fun j hj => ?_, ?_, fun f h1 h2 => ?_⟩
    · rw [rq_i hj]; exact hF b j (by simp <;> omega)
    · rw [rq_s, bw_id (by omega) (by omega)]
    · rw [rq_c (by omega), hz f h1 h2, if_pos (by omega)]
theorem drift_c (hW : Wf w) {τ : Sg} (hl : ∀ f : Int, 0 ≤ f → f < 56 → rd τ (b + 2) f = askW w p q x f) (hs : ∀ f, isF w f → rd τ (b + 1) f = w (4 + f)) (hn : ∀ f : Int, 0 ≤ f → f < 56 → 0 ≤ rd τ (b + 1) f ∧ rd τ (b + 1) f ≤ 99) (h5 : rd τ b 5 = w 1) (h0 : rd τ b 0 = w 80) (h1 : rd τ b 1 = w 81) (h2 : rd τ b 2 = w 82) : wp (fX9_drift b τ) (fun r => r.1 = sumN (dnW w p q x) 64 ∧ Fr [b, b + 1, b + 2] τ r.2 ∧ (∀ i : Int, i ≠ 5 → rd r.2 b i = rd τ b i) ∧ rd r.2 b 5 = drS w (dnW w p q x) (w 82) 64 1 ∧ (∀ f, isF w f → rd r.2 (b + 1) f = min 99 (drS w (dnW w p q x) (w 82) 64 (4 + f))) ∧ ∀ f : Int, 0 ≤ f → f < 56 → 0 ≤ rd r.2 (b + 1) f ∧ rd r.2 (b + 1) f ≤ 99) := by
  have hw1 := hW.1.2.2.2.2.2.2.2.1
  have hu : ∀ i : Int, 0 ≤ i → 0 ≤ dnW w p q x i ∧ dnW w p q x i ≤ 99 := fun i _ => ⟨(dnW_r hW p q x i).1, (dnW_r hW p q x i).2.1⟩
  have hz0 : ∀ c : Int, ¬ isF w c → dnW w p q x c = 0 := fun c hc => by rw [dnW, if_neg hc]
  have hz56 : ∀ c : Int, 56 ≤ c → dnW w p q x c = 0 := fun c hc => hz0 c (fun z => by have := isF_b z; omega)
  have hR := drS_r (wind := w 82) hW (dnW_r hW p q x) hz0
  have hdn : ∀ f : Int, 0 ≤ f → f < 56 → min (askW w p q x f / 2) (rd τ (b + 1) f) = dnW w p q x f := by
    intro f h1 h2
    by_cases hf : isF w f
    · rw [dnW, if_pos hf, hs f hf]; omega
    · rw [dnW, if_neg hf, askW, if_neg hf]
      have := hn f h1 h2
      omega
  have h64 : sumN (dnW w p q x) 64 = sumN (dnW w p q x) 56 := sumN_0 (a := 56) hz56 8
  have d64 : drS w (dnW w p q x) (w 82) 64 = drS w (dnW w p q x) (w 82) 56 := drS_56 hz56 8
  unfold fX9_drift
  refine loopM (F := fun n (s : Int × Sg) => fX9_drift_L2 b _ n s.1 s.2) (fun s : Int × Sg => (0 ≤ s.1 ∧ s.1 ≤ 56) ∧ Fr [b + 2] τ s.2 ∧ ∀ f : Int, 0 ≤ f → f < 56 → rd s.2 (b + 2) f = if f < s.1 then dnW w p q x f else askW w p q x f) (fun s => (56 - s.1).toNat) ?_ FU (0, τ) (by unfold FU; simp only; omega) ⟨by simp only; omega, Fr.rf, fun f a1 a2 => by simp only; rw [if_neg (by omega)]; exact hl f a1 a2⟩
  rintro n ⟨i, ρ⟩ ⟨hi, hF, hz⟩ ih
  show wp (fX9_drift_L2 b _ (n + 1) i ρ) _
  simp only at hi hF hz
  rw [fX9_drift_L2]
  by_cases h56 : i < 56
  · have e2 : rd ρ (b + 2) i = askW w p q x i := by rw [hz i hi.1 h56, if_neg (by omega)]
    have e1 : rd ρ (b + 1) i = rd τ (b + 1) i := hF (b + 1) i (by simp)
    have har := askW_r w p q x i
    rw [if_pos h56, grd_pos (by omega), grd_pos (by omega), grd_pos (by omega), e2, e1, min_eq, tdv_pos (by omega) (by omega) (by omega) (by omega), hdn i hi.1 h56, bw_id (z := i + 1) (by omega) (by omega)]
    refine ih (i + 1, wr ρ (b + 2) i (dnW w p q x i)) ⟨by simp only; omega, hF.wr (by simp), fun f a1 a2 => ?_⟩ (by simp only; omega)
    show rd (wr ρ (b + 2) i (dnW w p q x i)) (b + 2) f = if f < i + 1 then _ else _
    have hui := hu i hi.1
    rw [rd_wr]
    by_cases e : f = i
    · subst e
      rw [if_pos ⟨rfl, rfl⟩, if_pos (by omega), bw_id (by omega) (by omega)]
    · rw [if_neg (fun z => e z.2), hz f a1 a2]
      by_cases e3 : f < i
      · rw [if_pos e3, if_pos (by omega)]
      · rw [if_neg e3, if_neg (by omega)]
  · rw [if_neg h56]
    have hl2 : ∀ f : Int, 0 ≤ f → f < 56 → rd ρ (b + 2) f = dnW w p q x f := fun f a1 a2 => by rw [hz f a1 a2, if_pos (by omega)]
    clear ih hz
    refine loopM (F := fun n (s : Int × Int × Sg) => fX9_drift_L41 b _ n s.1 s.2.1 s.2.2) (fun s : Int × Int × Sg => (0 ≤ s.2.1 ∧ s.2.1 ≤ 56) ∧ s.1 = sumN (dnW w p q x) s.2.1.toNat ∧ Fr [b, b + 1] ρ s.2.2 ∧ (∀ j : Int, j ≠ 5 → rd s.2.2 b j = rd ρ b j) ∧ rd s.2.2 b 5 = drS w (dnW w p q x) (w 82) s.2.1.toNat 1 ∧ (∀ f, isF w f → rd s.2.2 (b + 1) f = drS w (dnW w p q x) (w 82) s.2.1.toNat (4 + f)) ∧ ∀ f : Int, 0 ≤ f → f < 56 → ¬ isF w f → rd s.2.2 (b + 1) f = rd τ (b + 1) f) (fun s => (56 - s.2.1).toNat) ?_ FU (0, 0, ρ) (by unfold FU; simp only; omega) ⟨by simp only; omega, rfl, Fr.rf, fun _ _ => rfl, (hF b 5 (by simp <;> omega)).trans h5, fun f hf => (hF (b + 1) f (by simp)).trans (hs f hf), fun f _ _ _ => hF (b + 1) f (by simp)⟩
    rintro n ⟨v, i, π⟩ ⟨hi, hv, hG, hb, hnx, hsn, hoff⟩ ih
    show wp (fX9_drift_L41 b _ (n + 1) v i π) _
    simp only at hi hv hG hb hnx hsn hoff
    rw [fX9_drift_L41]
    by_cases k56 : i < 56
    · have e2 : rd π (b + 2) i = dnW w p q x i := (hG (b + 2) i (by simp)).trans (hl2 i hi.1 k56)
      have hui := hu i hi.1
      have hsr := sumN_r hu i.toNat
      have hv2 : 0 ≤ v ∧ v ≤ 5544 := by rw [hv]; omega
      have hS : sumN (dnW w p q x) (i + 1).toNat = v + dnW w p q x i := by rw [show (i + 1).toNat = i.toNat + 1 by omega, sumN, ← hv, show ((i.toNat : Nat) : Int) = i by omega]
      have hRi := hR i.toNat (by omega)
      have hD : drS w (dnW w p q x) (w 82) (i + 1).toNat = if dnW w p q x i = 0 then drS w (dnW w p q x) (w 82) i.toNat else if goW w i (w 82) = -1 then upz (upz (drS w (dnW w p q x) (w 82) i.toNat) (4 + i) (drS w (dnW w p q x) (w 82) i.toNat (4 + i) - dnW w p q x i)) 1 (drS w (dnW w p q x) (w 82) i.toNat 1 + dnW w p q x i) else upz (upz (drS w (dnW w p q x) (w 82) i.toNat) (4 + i) (drS w (dnW w p q x) (w 82) i.toNat (4 + i) - dnW w p q x i)) (4 + goW w i (w 82)) (upz (drS w (dnW w p q x) (w 82) i.toNat) (4 + i) (drS w (dnW w p q x) (w 82) i.toNat (4 + i) - dnW w p q x i) (4 + goW w i (w 82)) + dnW w p q x i) := by
        rw [show (i + 1).toNat = i.toNat + 1 by omega, drS, show ((i.toNat : Nat) : Int) = i by omega]
      generalize hu0 : drS w (dnW w p q x) (w 82) i.toNat = u at hnx hsn hD hRi
      rw [if_pos k56, grd_pos (by omega), e2, bw_id (z := i + 1) (by omega) (by omega)]
      by_cases hz1 : dnW w p q x i = 0
      · rw [if_pos hz1]
        rw [if_pos hz1] at hD
        refine ih (v, i + 1, π) ⟨by simp only; omega, ?_, hG, hb, ?_, ?_, hoff⟩ (by simp only; omega)
        · show v = sumN (dnW w p q x) (i + 1).toNat
          rw [hS, hz1]; omega
        · show rd π b 5 = drS w (dnW w p q x) (w 82) (i + 1).toNat 1
          rw [hD]; exact hnx
        · show ∀ f, isF w f → rd π (b + 1) f = drS w (dnW w p q x) (w 82) (i + 1).toNat (4 + f)
          rw [hD]; exact hsn
      · rw [if_neg hz1]
        rw [if_neg hz1] at hD
        have hFi : isF w i := Decidable.not_not.mp (fun z => hz1 (hz0 i z))
        have hui2 := (dnW_r hW p q x i).2.2 hFi
        have hri := hRi.1 i hFi
        have e1 : rd π (b + 1) i = u (4 + i) := hsn i hFi
        have hb2 : rd (wr π (b + 1) i (bw (u (4 + i) - dnW w p q x i))) b 2 = w 82 := by
          rw [rq_c (by omega), hb 2 (by decide), hF b 2 (by simp <;> omega)]; exact h2
        have hbs : fX9_beside b i (w 82) (wr π (b + 1) i (bw (u (4 + i) - dnW w p q x i))) = goW w i (w 82) := beside_c (w 82) (by rw [rq_c (by omega), hb 0 (by decide), hF b 0 (by simp <;> omega)]; exact h0) (by rw [rq_c (by omega), hb 1 (by decide), hF b 1 (by simp <;> omega)]; exact h1) (by omega)
        rw [grd_pos (by omega), grd_pos (by omega), grd_pos (by omega), grd_pos (by omega), e1, hb2, hbs]
        have hbwu : bw (u (4 + i) - dnW w p q x i) = u (4 + i) - dnW w p q x i := bw_id (by omega) (by omega)
        have hw5 : rd (wr π (b + 1) i (bw (u (4 + i) - dnW w p q x i))) b 5 = u 1 := by rw [rq_c (by omega)]; exact hnx
        have hw2 : rd (wr π (b + 1) i (bw (u (4 + i) - dnW w p q x i))) (b + 2) i = dnW w p q x i := by rw [rq_c (by omega)]; exact e2
        rw [hw2, bw_id (z := v + dnW w p q x i) (by omega) (by omega)]
        by_cases hgo : goW w i (w 82) = -1
        · rw [if_pos hgo, grd_pos (by omega), hw5]
          rw [if_pos hgo] at hD
          refine ih (v + dnW w p q x i, i + 1, _) ⟨by simp only; omega, ?_, (hG.wr (c := b + 1) (by simp)).wr (c := b) (by simp), ?_, ?_, ?_, ?_⟩ (by simp only; omega)
          · exact hS.symm
          · intro j hj
            show rd (wr (wr π _ _ _) b 5 _) b j = _
            rw [rq_i hj, rq_c (by omega)]; exact hb j hj
          · show rd (wr (wr π _ _ _) b 5 _) b 5 = drS w (dnW w p q x) (w 82) (i + 1).toNat 1
            rw [hD, upz_s, rq_s, bw_bw, bw_id (by omega) (by omega)]
          · intro f hf
            have hfb := isF_b hf
            show rd (wr (wr π _ _ _) b 5 _) (b + 1) f = drS w (dnW w p q x) (w 82) (i + 1).toNat (4 + f)
            rw [hD, upz_n (by omega), rq_c (by omega), wr_row, bw_bw, hbwu]
            by_cases e : f = i
            · subst e; rw [upz_s, upz_s]
            · rw [upz_n e, upz_n (by omega)]; exact hsn f hf
          · intro f a1 a2 hf
            show rd (wr (wr π _ _ _) b 5 _) (b + 1) f = _
            rw [rq_c (by omega), rq_i (fun e : f = i => hf (by rw [e]; exact hFi))]; exact hoff f a1 a2 hf
        · rw [if_neg hgo]
          rw [if_neg hgo] at hD
          have hGF := (goW_F hW.1.1.2 hW.1.2.1.2 i (w 82)).resolve_left hgo
          have hGb := isF_b hGF
          have hrg := hRi.1 _ hGF
          have hto : rd (wr π (b + 1) i (bw (u (4 + i) - dnW w p q x i))) (b + 1) (goW w i (w 82)) = upz u (4 + i) (u (4 + i) - dnW w p q x i) (4 + goW w i (w 82)) := by
            rw [wr_row, bw_bw, hbwu]
            by_cases e : goW w i (w 82) = i
            · rw [e, upz_s, upz_s]
            · rw [upz_n e, upz_n (by omega)]; exact hsn _ hGF
          rw [grd_pos (by omega), grd_pos (by omega), grd_pos (by omega), hto]
          have hub : upz u (4 + i) (u (4 + i) - dnW w p q x i) (4 + goW w i (w 82)) ≤ 6336 ∧ 0 ≤ upz u (4 + i) (u (4 + i) - dnW w p q x i) (4 + goW w i (w 82)) := by
            by_cases e : goW w i (w 82) = i
            · rw [e, upz_s]; omega
            · rw [upz_n (by omega)]; omega
          refine ih (v + dnW w p q x i, i + 1, _) ⟨by simp only; omega, ?_, (hG.wr (c := b + 1) (by simp)).wr (c := b + 1) (by simp), ?_, ?_, ?_, ?_⟩ (by simp only; omega)
          · exact hS.symm
          · intro j hj
            show rd (wr (wr π _ _ _) (b + 1) _ _) b j = _
            rw [rq_c (by omega), rq_c (by omega)]; exact hb j hj
          · show rd (wr (wr π _ _ _) (b + 1) _ _) b 5 = drS w (dnW w p q x) (w 82) (i + 1).toNat 1
            rw [hD, upz_n (j := 1) (by omega), upz_n (j := 1) (by omega), rq_c (by omega), rq_c (by omega)]; exact hnx
          · intro f hf
            have hfb := isF_b hf
            show rd (wr (wr π _ _ _) (b + 1) _ _) (b + 1) f = drS w (dnW w p q x) (w 82) (i + 1).toNat (4 + f)
            rw [hD, wr_row, bw_bw, bw_id (z := upz u (4 + i) (u (4 + i) - dnW w p q x i) (4 + goW w i (w 82)) + dnW w p q x i) (by omega) (by omega)]
            by_cases e2 : f = goW w i (w 82)
            · rw [e2, upz_s, upz_s]
            · rw [upz_n e2, upz_n (by omega), wr_row, bw_bw, hbwu]
              by_cases e : f = i
              · subst e; rw [upz_s, upz_s]
              · rw [upz_n e, upz_n (by omega)]; exact hsn f hf
          · intro f a1 a2 hf
            show rd (wr (wr π _ _ _) (b + 1) _ _) (b + 1) f = _
            rw [rq_i (fun e : f = goW w i (w 82) => hf (by rw [e]; exact hGF)), rq_i (fun e : f = i => hf (by rw [e]; exact hFi))]; exact hoff f a1 a2 hf
    · rw [if_neg k56]
      have hi56 : i = 56 := by omega
      have hv3 : v = sumN (dnW w p q x) 64 := by rw [hv, h64, hi56]; rfl
      have hu64 : drS w (dnW w p q x) (w 82) i.toNat = drS w (dnW w p q x) (w 82) 64 := by rw [d64, hi56]; rfl
      rw [hu64] at hnx hsn
      have hR64 := hR 64 (by omega)
      have hpn : ∀ f : Int, 0 ≤ f → f < 56 → 0 ≤ rd π (b + 1) f := by
        intro f a1 a2
        by_cases hf : isF w f
        · rw [hsn f hf]; exact (hR64.1 f hf).1
        · rw [hoff f a1 a2 hf]; exact (hn f a1 a2).1
      clear ih
      refine loopM (F := fun n (s : Int × Sg) => fX9_drift_L139 b v n s.1 s.2) (fun s : Int × Sg => (0 ≤ s.1 ∧ s.1 ≤ 56) ∧ Fr [b + 1] π s.2 ∧ ∀ f : Int, 0 ≤ f → f < 56 → rd s.2 (b + 1) f = if f < s.1 then min 99 (rd π (b + 1) f) else rd π (b + 1) f) (fun s => (56 - s.1).toNat) ?_ FU (0, π) (by unfold FU; simp only; omega) ⟨by simp only; omega, Fr.rf, fun f a1 a2 => by simp only; rw [if_neg (by omega)]⟩
      rintro n ⟨i, κ⟩ ⟨hi, hK, hz⟩ ih
      show wp (fX9_drift_L139 b v (n + 1) i κ) _
      simp only at hi hK hz
      rw [fX9_drift_L139]
      by_cases j56 : i < 56
      · have e1 : rd κ (b + 1) i = rd π (b + 1) i := by rw [hz i hi.1 j56, if_neg (by omega)]
        have hpi := hpn i hi.1 j56
        rw [if_pos j56, grd_pos (by omega), grd_pos (by omega), e1, min_eq, bw_id (z := i + 1) (by omega) (by omega)]
        refine ih (i + 1, wr κ (b + 1) i (min (rd π (b + 1) i) 99)) ⟨by simp only; omega, hK.wr (by simp), fun f a1 a2 => ?_⟩ (by simp only; omega)
        show rd (wr κ (b + 1) i (min (rd π (b + 1) i) 99)) (b + 1) f = if f < i + 1 then _ else _
        rw [rd_wr]
        by_cases e : f = i
        · subst e
          rw [if_pos ⟨rfl, rfl⟩, if_pos (by omega), bw_id (by omega) (by omega)]; omega
        · rw [if_neg (fun z => e z.2), hz f a1 a2]
          by_cases e3 : f < i
          · rw [if_pos e3, if_pos (by omega)]
          · rw [if_neg e3, if_neg (by omega)]
      · rw [if_neg j56, wp_some]
        have hz2 : ∀ f : Int, 0 ≤ f → f < 56 → rd κ (b + 1) f = min 99 (rd π (b + 1) f) := fun f a1 a2 => by rw [hz f a1 a2, if_pos (by omega)]
        refine ⟨hv3, ((hF.mo (by simp)).tr (hG.mo (by simp))).tr (hK.mo (by simp)), fun j hj => ?_, ?_, fun f hf => ?_, fun f a1 a2 => ?_⟩
        · exact ((hK b j (by simp <;> omega)).trans (hb j hj)).trans (hF b j (by simp <;> omega))
        · exact (hK b 5 (by simp <;> omega)).trans hnx
        · have hfb := isF_b hf
          rw [hz2 f (by omega) (by omega), hsn f hf]
        · have := hpn f a1 a2
          rw [hz2 f a1 a2]; omega
end CVow
