/-! a DAY on both sides -/
theorem CW_day {m : Int} {w : Int → Int} {σ : Sg} {b : Nat} (h : CW m w σ b) {d : Int} (hd : 0 ≤ d ∧ d ≤ 20000) : CW m (upz w 0 d) (wr σ b 6 d) b := by
  have h12 := h.1.1.2.2.2.2.2.1
  have lo : ∀ j : Int, j ≠ 0 → upz w 0 d j = w j := fun j hj => upz_n hj
  refine CG_dyn h (fun j hj => lo j (by omega)) (fun i i0 i1 i8 i25 i26 j => ?_) (fun i i0 i4 => rq_i (by omega)) (by rw [upz_s]; exact hd) (by rw [lo 1 (by decide)]; exact h.1.1.2.2.2.2.2.2.2.1) (by rw [lo 3 (by decide)]; exact h.1.1.2.2.2.2.2.2.2.2) (fun f hf => ?_) (fun p hp => ?_) ?_ ?_ ?_ (fun f hf => ?_) (fun f a1 a2 => ?_) (fun p hp => ?_) ?_
  · unfold vw
    split
    · rfl
    · exact rq_c (by omega)
  · have hfb := isF_b hf
    rw [lo (4 + f) (by omega)]
    exact h.1.2.1 f hf
  · have := hp.1
    rw [lo (68 + p) (by omega)]
    exact (h.1.2.2.1 p hp).2.2.2.2.1
  · rw [lo 1 (by decide)]; exact (rq_i (by decide)).trans h.2.1.2.2.2.2.2.1
  · rw [upz_s]; exact rq_s.trans (bw_id (by omega) (by omega))
  · rw [lo 2 (by decide)]; exact (rq_i (by decide)).trans h.2.1.2.2.2.2.2.2.2
  · have hfb := isF_b hf
    rw [lo (4 + f) (by omega)]
    exact (rq_c (by omega)).trans (h.2.2.1.1 f hf)
  · have h3 : 0 ≤ rd σ (b + 1) f ∧ rd σ (b + 1) f ≤ 99 := h.2.2.1.2 f a1 a2
    show 0 ≤ rd (wr σ b 6 d) (b + 1) f ∧ rd (wr σ b 6 d) (b + 1) f ≤ 99
    rw [rq_c (by omega)]
    exact h3
  · have := hp.1
    rw [lo (68 + p) (by omega)]
    exact (rq_c (by omega)).trans (h.2.2.2.1.2 p hp).2.2.2.2.1
  · exact RB_congr h.2.2.2.2.2.1 (lo 3 (by decide)) h.1.1.2.2.2.2.2.2.2.2.2 (fun j a1 a2 => lo j (by omega)) (fun i => rq_c (by omega)) (fun i => rq_c (by omega))
theorem passDay_c {m : Int} {w : Int → Int} {σ : Sg} {b : Nat} (hb : b = 1 ∧ m = 150 ∨ b = 28 ∧ m = 0) (h : CW m w σ b) (fv : Int) (hpot : pot w ≤ 800000000) (hday : w 0 ≤ 19999) : wp (fX9_passDay b σ) (fun r => r.1 = (vdD m w fv).2.1 ∧ CW m (dayW m w fv) r.2 b ∧ Fr (cellW b) σ r.2) := by
  have hd := h.1.1.2.2.2.2.2.2.1
  have h87 := h.1.2.2.2.1.1
  have hok : OKw m w := ⟨σ, b, hb, h⟩
  unfold fX9_passDay
  rw [show rd σ b 6 = w 0 from h.2.1.2.2.2.2.2.2.1, weather_c h (by omega), wp_bind, wp_some]
  refine snows_c h (fun τ hτ hF => ?_)
  have e87 : snowsW w 87 = w 87 := snowsW_o (by decide)
  refine lines_c hb (w 87).toNat FU 0 fv 0 (snowsW w) τ hτ (by omega) (by rw [e87]; omega) (by unfold FU; omega) (by rw [snows_pot]; omega) (by omega) (by omega) (fun ρ hρ hG => ?_)
  obtain ⟨⟨a1, a2, a3⟩, -⟩ := vdW_ok (w 87).toNat 0 fv 0 (snowsW w) hok.snows (by omega) (by rw [e87]; omega) (by rw [snows_pot]; omega)
  have hF2 : Fr (cellW b) σ ρ := (hF.mo (by simp [cellW])).tr hG
  have hu0 : (vdD m w fv).1 0 = w 0 := (a3 0 (by omega)).trans (snowsW_o (by decide))
  have last : ∀ κ, CW m (slD m (vdD m w fv).1) κ b → Fr (cellW b) σ κ → wp (fX9_passDay_J170 b (vdD m w fv).2.1 κ) (fun r => r.1 = (vdD m w fv).2.1 ∧ CW m (dayW m w fv) r.2 b ∧ Fr (cellW b) σ r.2) := by
    intro κ hκ hFκ
    have hs0 : slD m (vdD m w fv).1 0 = w 0 := ((slD_ok a1).2.2 0 (by omega)).trans hu0
    unfold fX9_passDay_J170
    rw [wp_bind]
    refine wp_mono (meltAll_c hκ) (fun π hπ => ?_)
    have e6 : rd π b 6 = w 0 := by
      have : rd π b 6 = meltsW (slD m (vdD m w fv).1) 0 := hπ.1.2.1.2.2.2.2.2.2.1
      rw [this, meltsW_o (by decide)]; exact hs0
    rw [wp_some, e6, bw_id (z := w 0 + 1) (by omega) (by omega)]
    refine ⟨rfl, ?_, (hFκ.tr hπ.2).wr (by simp [cellW])⟩
    unfold dayW
    rw [hs0]
    exact CW_day hπ.1 (by omega)
  show wp (if 0 < rd ρ b 4 then (fX9_slide b ρ).bind fun s21 => fX9_passDay_J170 b (vdD m w fv).2.1 s21 else fX9_passDay_J170 b (vdD m w fv).2.1 ρ) _
  have hρ' : CW m (vdD m w fv).1 ρ b := hρ
  have e4 : rd ρ b 4 = if m = 0 then 0 else (vdD m w fv).1 84 := hρ'.2.1.2.2.2.2.1
  rw [e4]
  by_cases hm : m = 0
  · rw [if_pos hm, if_neg (by decide)]
    refine last ρ ?_ hF2
    unfold slD
    rw [if_neg (fun z => z.1 hm)]
    exact hρ'
  · rw [if_neg hm]
    by_cases ho : 0 < (vdD m w fv).1 84
    · rw [if_pos ho, wp_bind]
      refine wp_mono (slide_c hb hm hρ') (fun κ hκ => ?_)
      refine last κ ?_ (hF2.tr hκ.2)
      unfold slD
      rw [if_pos ⟨hm, ho⟩]
      exact hκ.1
    · rw [if_neg ho]
      refine last ρ ?_ hF2
      unfold slD
      rw [if_neg (fun z => ho z.2)]
      exact hρ'
theorem OKw.day {m : Int} {w : Int → Int} (h : OKw m w) (fv : Int) (hpot : pot w ≤ 800000000) (hday : w 0 ≤ 19999) : OKw m (dayW m w fv) := by
  obtain ⟨σ, b, hb, hC⟩ := h
  obtain ⟨r, -, -, h2, -⟩ := passDay_c hb hC fv hpot hday
  exact ⟨r.2, b, hb, h2⟩
theorem dayW_lo {m : Int} {w : Int → Int} (h : OKw m w) (fv : Int) (hpot : pot w ≤ 800000000) : pot (dayW m w fv) ≤ pot w ∧ dayW m w fv 0 = w 0 + 1 ∧ (∀ j : Int, (80 ≤ j ∧ j < 311) ∨ 911 ≤ j → dayW m w fv j = w j) ∧ (0 ≤ (vdD m w fv).2.1 ∧ (vdD m w fv).2.1 ≤ 16) ∧ ((vdD m w fv).2.2 = fv ∨ 0 ≤ (vdD m w fv).2.2 ∧ (vdD m w fv).2.2 < w 87) := by
  have h87 := h.wf.2.2.2.1.1
  have e87 : snowsW w 87 = w 87 := snowsW_o (by decide)
  obtain ⟨⟨a1, a2, a3⟩, a4, a5, a6⟩ := vdW_ok (w 87).toNat 0 fv 0 (snowsW w) h.snows (by omega) (by rw [e87]; omega) (by rw [snows_pot]; omega)
  rw [snows_pot] at a2
  rw [e87] at a6
  obtain ⟨b1, b2, b3⟩ := slD_ok a1
  have hs : ∀ j : Int, (80 ≤ j ∧ j < 311) ∨ 911 ≤ j ∨ j = 0 → slD m (vdD m w fv).1 j = w j := fun j hj => (b3 j (by omega)).trans ((a3 j (by omega)).trans (snowsW_o (by omega)))
  have hm1 : meltsW (slD m (vdD m w fv).1) 1 = slD m (vdD m w fv).1 1 := meltsW_o (by decide)
  have hp : pot (dayW m w fv) = pot (slD m (vdD m w fv).1) := by
    have hf : frN (upz (meltsW (slD m (vdD m w fv).1)) 0 ((slD m (vdD m w fv).1) 0 + 1)) = frN (slD m (vdD m w fv).1) := frN_congr (fun j h1 h2 => by rw [upz_n (by omega)]; exact meltsW_o (by omega))
    unfold pot dayW
    rw [upz_n (by decide), hm1, hf]
  refine ⟨?_, ?_, fun j hj => ?_, ⟨a4, by unfold vdD; omega⟩, a6⟩
  · rw [hp]
    unfold vdD
    rw [b2]
    exact a2
  · unfold dayW
    rw [upz_s, hs 0 (by omega)]
  · unfold dayW
    rw [upz_n (by omega), meltsW_o (by omega), hs j (by omega)]
theorem aDay_m {m : Int} {w : Int → Int} {σ : Sg} {fv : Int} (h : OKw m w) (hw : rd σ 85 = w) (ht : rd σ 84 26 = 0 ↔ m = 0) (hfv : rd σ 84 28 = fv) (hpot : pot w ≤ 800000000) : wp (fX11_aDay σ) (fun r => r.1 = (vdD m w fv).2.1 ∧ rd r.2 85 = dayW m w fv ∧ rd r.2 84 28 = (vdD m w fv).2.2 ∧ Fs σ r.2) := by
  have hW := h.wf
  have h87 := hW.2.2.2.1.1
  have e87 : snowsW w 87 = w 87 := snowsW_o (by decide)
  unfold fX11_aDay
  rw [wp_bind]
  refine wp_mono (snows_m hW hw) (fun τ hτ => ?_)
  rw [wp_bind]
  unfold fX11_vowsOfDay
  have s1 : Fs σ τ := Fs.of hτ.2 (by decide)
  refine lines_m (m := m) (w 87).toNat FU 0 fv 0 (snowsW w) τ h.snows hτ.1 (by rw [hτ.2 84 26 (by decide)]; exact ht) ((hτ.2 84 28 (by decide)).trans hfv) (by omega) (by rw [e87]; omega) (by unfold FU; omega) (by rw [snows_pot]; omega) (by omega) (by omega) (fun ρ h1 h2 h3 h4 => ?_)
  show wp ((fX11_slides ρ).bind fun s3 => fX11_aDay_L15 (vdD m w fv).2.1 FU 0 s3) _
  rw [wp_bind]
  refine wp_mono (slides_m h1 h2 (by rw [h4 84 26 (by decide) (by omega), hτ.2 84 26 (by decide)]; exact ht)) (fun κ hκ => ?_)
  have hok2 := (slD_ok h1).1
  refine wp_mono (melts_m hok2 hκ.1) (fun r hr => ?_)
  refine ⟨hr.1, hr.2.1, ?_, ((s1.tr h4).tr (Fs.of hκ.2 (by decide))).tr (Fs.of hr.2.2 (by decide))⟩
  rw [hr.2.2 84 28 (by decide), hκ.2 84 28 (by decide)]
  exact h3
