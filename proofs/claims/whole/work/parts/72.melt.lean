/-! melt, and a DAY whole -/
theorem fMe_nr2 {w : Int → Int} {y : Int} (hd : 0 ≤ w 0 ∧ w 0 ≤ 20000) (hy : 0 ≤ y ∧ y ≤ 99) : ∀ i, bw (fMe w y i) = fMe w y i := by
  intro i
  apply bw_id <;> unfold fMe <;> (repeat' split) <;> omega
theorem meltOf_c2 {w : Int → Int} {σ : Sg} {b : Nat} (hd : 0 ≤ w 0 ∧ w 0 ≤ 20000) (e6 : rd σ b 6 = w 0) (hL : LR w (vw σ b)) {y : Int} (hy : 0 ≤ y ∧ y ≤ 99) : wp (fX9_meltOf b y σ) (fun r => r.1 = meltW w y ∧ Fr [b + 15, b + 16] σ r.2) := by
  unfold fX9_meltOf
  rw [wp_bind]
  refine wp_mono forget_c (fun s2 hs2 => ?_)
  rw [wp_bind]
  refine wp_mono (name_c (f := fun _ => 0) (by omega) (by omega) (bw_id (by omega) (by omega)) hs2.1 hs2.2) (fun s8 hs8 => ?_)
  have e9 : rd s8 b 6 = w 0 := (hs8.1 b 6 (by simp <;> omega)).trans e6
  rw [wp_bind, e9]
  refine wp_mono (name_c (by omega) (by omega) (bw_id (by omega) (by omega)) hs8.1 hs8.2) (fun s9 hs9 => ?_)
  rw [wp_bind]
  have hvw : vw s9 b = vw σ b := vw_fr hs9.1 (by simp)
  refine wp_mono (tell_c (word := 22) (fMe_nr2 hd hy) (by rw [hvw]; exact hL) (fun j h1 h2 => ?_)) (fun r hr2 => ?_)
  · rw [hs9.2 j h1 h2]
    unfold fMe
    repeat' split
    all_goals first | rfl | omega
  · rw [wp_some]
    refine ⟨?_, (hs9.1.mo (by simp)).tr (hr2.2.mo (by simp))⟩
    rw [held_eq, hr2.1]
    unfold meltW sayW
    omega
theorem meltOf_m2 {w : Int → Int} {σ : Sg} {g : Nat → Int → Int} (hd : 0 ≤ w 0 ∧ w 0 ≤ 20000) (hL : LR w g) (hw : rd σ 85 = w) {c : Int} (hy : 0 ≤ w (4 + c) ∧ w (4 + c) ≤ 99) (hcb : 0 ≤ c ∧ c < 56) : wp (fX11_meltOf c σ) (fun r => r.1 = meltW w (w (4 + c)) ∧ Fr [93, 94] σ r.2) := by
  unfold fX11_meltOf
  rw [wp_bind]
  refine wp_mono (clears_m hw (bw_id (by omega) (by omega))) (fun s hs => ?_)
  have e85 : rd s 85 = w := (funext fun j => hs.1 85 j (by decide)).trans hw
  have e85b : rd (wr s 94 8 (w (4 + c))) 85 = w := (funext fun j => rq_c (by decide)).trans e85
  rw [bw_id (z := 4 + c) (by omega) (by omega), grd_pos (by omega), e85, wp_bind]
  refine wp_mono (says_m (fMe_nr2 hd hy) e85b hL (fun j hj1 hj2 => ?_)) (fun r hr => ?_)
  · rw [fact_m (bw_id (by omega) (by omega)) hs.2 j (by omega) hj2]
    unfold fMe
    repeat' split
    all_goals first | rfl | omega
  · rw [wp_some]
    exact ⟨hr.1, ((hs.1.wr (by decide)).mo (by decide)).tr (hr.2.mo (by decide))⟩
def meltsW (w : Int → Int) : Int → Int := fun j => if isF w (j - 4) then max 0 (w j - meltW w (w j)) else w j
theorem meltsW_o {w : Int → Int} {j : Int} (h : j < 4 ∨ 60 ≤ j) : meltsW w j = w j := if_neg (fun z => by have := isF_b z; omega)
theorem meltAll_c {m : Int} {w : Int → Int} {σ : Sg} {b : Nat} (h : CW m w σ b) : wp (fX9_meltAll b σ) (fun τ => CW m (meltsW w) τ b ∧ Fr (cellW b) σ τ) := by
  have hd := h.1.1.2.2.2.2.2.2.1
  have h12 := h.1.1.2.2.2.2.2.1
  have hL := h.2.2.2.2.2.2
  unfold fX9_meltAll
  refine loopM (F := fun n (s : Int × Int × Int × Sg) => fX9_meltAll_L6 b n s.1 s.2.1 s.2.2.1 s.2.2.2) (fun s : Int × Int × Int × Sg => (0 ≤ s.2.2.1 ∧ s.2.2.1 ≤ 56) ∧ (s.1 = -1 ∨ (0 ≤ s.1 ∧ s.1 ≤ 99) ∧ s.2.1 = meltW w s.1) ∧ Fr [b + 1, b + 15, b + 16] σ s.2.2.2 ∧ ∀ f : Int, 0 ≤ f → f < 56 → rd s.2.2.2 (b + 1) f = if f < s.2.2.1 ∧ isF w f then max 0 (w (4 + f) - meltW w (w (4 + f))) else rd σ (b + 1) f) (fun s => (56 - s.2.2.1).toNat) ?_ FU (-1, 0, 0, σ) (by unfold FU; simp only; omega) ⟨by simp only; omega, Or.inl rfl, Fr.rf, fun f a1 a2 => by simp only; rw [if_neg (by omega)]⟩
  rintro n ⟨deep, less, i, τ⟩ ⟨hi, hdl, hF, hy⟩ ih
  show wp (fX9_meltAll_L6 b (n + 1) deep less i τ) _
  simp only at hi hdl hF hy
  have e0 : rd τ b 0 = w 80 := (hF b 0 (by simp <;> omega)).trans h.2.1.1
  have e1 : rd τ b 1 = w 81 := (hF b 1 (by simp <;> omega)).trans h.2.1.2.1
  have e6 : rd τ b 6 = w 0 := (hF b 6 (by simp <;> omega)).trans h.2.1.2.2.2.2.2.2.1
  have hfield : fX9_hasField b i τ = if isF w i then 1 else 0 := by
    rw [← hasField_c h i]
    unfold fX9_hasField
    rw [e0, e1, show rd σ b 0 = w 80 from h.2.1.1, show rd σ b 1 = w 81 from h.2.1.2.1]
  have hLτ : LR w (vw τ b) := LR_congr rfl (fun _ _ => rfl) (fun k k1 k2 j => by
    unfold vw
    split
    · rfl
    · exact hF _ _ (by simp; omega)) hL
  rw [fX9_meltAll_L6]
  by_cases h56 : i < 56
  · rw [if_pos h56, hfield, bw_id (z := i + 1) (by omega) (by omega)]
    by_cases hf : isF w i
    · have hwi := h.1.2.1 i hf
      have es : rd τ (b + 1) i = w (4 + i) := by rw [hy i hi.1 h56, if_neg (by omega)]; exact h.2.2.1.1 i hf
      have last : ∀ (ρ : Sg) (dp ls : Int), dp = w (4 + i) → ls = meltW w (w (4 + i)) → Fr [b + 15, b + 16] τ ρ → wp (fX9_meltAll_J46 b (fX9_meltAll_L6 b n) i dp ls ρ) (fun τ => CW m (meltsW w) τ b ∧ Fr (cellW b) σ τ) := by
        intro ρ dp ls hdp hls hρ
        have hmr := meltW_r w (w (4 + i))
        have es2 : rd ρ (b + 1) i = w (4 + i) := (hρ (b + 1) i (by simp)).trans es
        unfold fX9_meltAll_J46
        rw [grd_pos (by omega), grd_pos (by omega), es2, max_eq, hls, bw_id (z := w (4 + i) - meltW w (w (4 + i))) (by omega) (by omega), bw_id (z := i + 1) (by omega) (by omega)]
        refine ih (dp, meltW w (w (4 + i)), i + 1, wr ρ (b + 1) i (max 0 (w (4 + i) - meltW w (w (4 + i))))) ⟨by simp only; omega, Or.inr ⟨by simp only; rw [hdp]; exact hwi, by simp only; rw [hdp]⟩, (hF.tr (hρ.mo (by simp))).wr (by simp), fun f a1 a2 => ?_⟩ (by simp only; omega)
        show rd (wr ρ (b + 1) i (max 0 (w (4 + i) - meltW w (w (4 + i))))) (b + 1) f = if f < i + 1 ∧ isF w f then _ else _
        rw [rd_wr]
        by_cases e : f = i
        · rw [e, if_pos ⟨rfl, rfl⟩, if_pos ⟨by omega, hf⟩, bw_id (by omega) (by omega)]
        · rw [if_neg (fun z => e z.2), hρ (b + 1) f (by simp), hy f a1 a2]
          by_cases e3 : f < i ∧ isF w f
          · rw [if_pos e3, if_pos ⟨by omega, e3.2⟩]
          · rw [if_neg e3, if_neg (fun z => e3 ⟨by omega, z.2⟩)]
      rw [if_pos hf, if_neg (by decide), grd_pos (by omega), es]
      by_cases hsame : w (4 + i) = deep
      · rw [if_pos hsame]
        refine last τ deep less hsame.symm ?_ Fr.rf
        rcases hdl with z | ⟨-, z⟩
        · omega
        · rw [z, hsame]
      · rw [if_neg hsame, grd_pos (by omega), wp_bind]
        refine wp_mono (meltOf_c2 hd e6 hLτ hwi) (fun r hr => ?_)
        exact last r.2 _ _ rfl hr.1 hr.2
    · rw [if_neg hf, if_pos rfl]
      refine ih (deep, less, i + 1, τ) ⟨by simp only; omega, hdl, hF, fun f a1 a2 => ?_⟩ (by simp only; omega)
      show rd τ (b + 1) f = if f < i + 1 ∧ isF w f then _ else _
      rw [hy f a1 a2]
      by_cases e3 : f < i ∧ isF w f
      · rw [if_pos e3, if_pos ⟨by omega, e3.2⟩]
      · rw [if_neg e3, if_neg (fun z => e3 ⟨by have : f ≠ i := fun e => hf (by rw [← e]; exact z.2); omega, z.2⟩)]
  · rw [if_neg h56, wp_some]
    have hall : Fr (cellW b) σ τ := hF.mo (by simp [cellW])
    refine ⟨CG_dyn h (fun j hj => meltsW_o (by omega)) (fun k i0 i1 i8 i25 i26 j => ?_) (fun j i0 i4 => hF b j (by simp <;> omega)) ?_ ?_ ?_ (fun f hf => ?_) (fun p hp => ?_) ?_ ?_ ?_ (fun f hf => ?_) (fun f a1 a2 => ?_) (fun p hp => ?_) ?_, hall⟩
    · unfold vw
      split
      · rfl
      · exact hF _ _ (by simp; omega)
    · rw [meltsW_o (by decide)]; exact hd
    · rw [meltsW_o (by decide)]; exact h.1.1.2.2.2.2.2.2.2.1
    · rw [meltsW_o (by decide)]; exact h.1.1.2.2.2.2.2.2.2.2
    · have h1 := h.1.2.1 f hf
      have h2 := meltW_r w (w (4 + f))
      unfold meltsW
      rw [if_pos (by rw [show 4 + f - 4 = f by omega]; exact hf)]
      omega
    · have := hp.1
      have := hp.2
      rw [meltsW_o (by omega)]
      exact (h.1.2.2.1 p hp).2.2.2.2.1
    · rw [meltsW_o (by decide)]; exact (hF b 5 (by simp <;> omega)).trans h.2.1.2.2.2.2.2.1
    · rw [meltsW_o (by decide)]; exact e6
    · rw [meltsW_o (by decide)]; exact (hF b 7 (by simp <;> omega)).trans h.2.1.2.2.2.2.2.2.2
    · have hfb := isF_b hf
      show rd τ (b + 1) f = _
      rw [hy f (by omega) (by omega), if_pos ⟨by omega, hf⟩]
      unfold meltsW
      rw [if_pos (by rw [show 4 + f - 4 = f by omega]; exact hf)]
    · show 0 ≤ rd τ (b + 1) f ∧ rd τ (b + 1) f ≤ 99
      rw [hy f a1 a2]
      have h3 : 0 ≤ rd σ (b + 1) f ∧ rd σ (b + 1) f ≤ 99 := h.2.2.1.2 f a1 a2
      by_cases hf : isF w f
      · have h1 := h.1.2.1 f hf
        have h2 := meltW_r w (w (4 + f))
        rw [if_pos ⟨by omega, hf⟩]
        omega
      · rw [if_neg (fun z => hf z.2)]
        exact h3
    · have := hp.1
      have := hp.2
      rw [meltsW_o (by omega)]
      exact (hF (b + 8) p (by simp)).trans (h.2.2.2.1.2 p hp).2.2.2.2.1
    · exact RB_congr h.2.2.2.2.2.1 (meltsW_o (by decide)) h.1.1.2.2.2.2.2.2.2.2.2 (fun j a1 a2 => meltsW_o (by omega)) (fun j => hF (b + 25) j (by simp)) (fun j => hF (b + 26) j (by simp))
theorem melts_m {m : Int} {w : Int → Int} {σ : Sg} {v : Int} (h : OKw m w) (hw : rd σ 85 = w) : wp (fX11_aDay_L15 v FU 0 σ) (fun r => r.1 = v ∧ rd r.2 85 = upz (meltsW w) 0 (w 0 + 1) ∧ Fr [85, 93, 94] σ r.2) := by
  have hW := h.wf
  obtain ⟨g, hL⟩ := h.lr
  have hd := hW.1.2.2.2.2.2.2.1
  refine loopM (F := fun n s => fX11_aDay_L15 v n s.1 s.2) (fun s : Int × Sg => (0 ≤ s.1 ∧ s.1 ≤ 64) ∧ Fr [85, 93, 94] σ s.2 ∧ ∀ j : Int, rd s.2 85 j = if j < 4 + s.1 then meltsW w j else w j) (fun s => (64 - s.1).toNat) ?_ FU (0, σ) (by unfold FU; simp only; omega) ⟨by simp only; omega, Fr.rf, fun j => by simp only; rw [hw]; split; exact (meltsW_o (by omega)).symm; rfl⟩
  rintro n ⟨i, τ⟩ ⟨hi, hF, hy⟩ ih
  show wp (fX11_aDay_L15 v (n + 1) i τ) _
  simp only at hi hF hy
  have hlo : ∀ j : Int, j < 4 ∨ 60 ≤ j → rd τ 85 j = w j := by
    intro j hj
    rw [hy j]
    split
    · exact meltsW_o hj
    · rfl
  rw [fX11_aDay_L15]
  by_cases h64 : i < 64
  · have hon : fX11_isField i τ = if isF w i then 1 else 0 := by
      rw [← isField_m hW hw i]
      unfold fX11_isField fX11_isOn
      rw [hlo 80 (by decide), hlo 81 (by decide), hw]
    rw [if_pos h64, hon, bw_id (z := i + 1) (by omega) (by omega), bw_id (z := 4 + i) (by omega) (by omega)]
    by_cases hf : isF w i
    · have hwi := hW.2.1 i hf
      have hib := isF_b hf
      have ew : rd τ 85 (4 + i) = w (4 + i) := by rw [hy, if_neg (by omega)]
      rw [if_pos hf, if_neg (by decide), grd_pos (by omega), wp_bind]
      have hL2 : LR (rd τ 85) g := LR_congr (hlo 86 (by decide)) (fun j hj => hlo j (by omega)) (fun _ _ _ _ => rfl) hL
      refine wp_mono (meltOf_m2 (w := rd τ 85) (by rw [hlo 0 (by decide)]; exact hd) hL2 rfl (by rw [ew]; exact hwi) hib) (fun r hr => ?_)
      have hmel : r.1 = meltW w (w (4 + i)) := by
        rw [hr.1, ew]
        unfold meltW
        have : fMe (rd τ 85) (w (4 + i)) = fMe w (w (4 + i)) := by
          funext s
          unfold fMe
          rw [hlo 0 (by decide)]
        rw [this]
        exact sayW_congr hL (hlo 86 (by decide)) (fun j hj => hlo j (by omega))
      have hmr := meltW_r w (w (4 + i))
      rw [grd_pos (by omega), ew, hmel, gre_eq, bw_id (z := w (4 + i) - meltW w (w (4 + i))) (by omega) (by omega)]
      refine ih (i + 1, wr r.2 85 (4 + i) (max 0 (w (4 + i) - meltW w (w (4 + i))))) ⟨by simp only; omega, (hF.tr (hr.2.mo (by decide))).wr (by decide), fun j => ?_⟩ (by simp only; omega)
      show rd (wr r.2 85 (4 + i) (max 0 (w (4 + i) - meltW w (w (4 + i))))) 85 j = if j < 4 + (i + 1) then _ else _
      rw [rd_wr, bw_id (z := max 0 (w (4 + i) - meltW w (w (4 + i)))) (by omega) (by omega)]
      by_cases e : j = 4 + i
      · rw [e, if_pos ⟨rfl, rfl⟩, if_pos (by omega), meltsW, if_pos (by rw [show 4 + i - 4 = i by omega]; exact hf)]
      · rw [if_neg (fun z => e z.2), hr.2 85 j (by decide), hy j]
        by_cases e3 : j < 4 + i
        · rw [if_pos e3, if_pos (by omega)]
        · rw [if_neg e3, if_neg (by omega)]
    · rw [if_neg hf, if_pos rfl]
      refine ih (i + 1, τ) ⟨by simp only; omega, hF, fun j => ?_⟩ (by simp only; omega)
      show rd τ 85 j = if j < 4 + (i + 1) then _ else _
      rw [hy j]
      by_cases e : j = 4 + i
      · rw [e, if_neg (by omega), if_pos (by omega), meltsW, if_neg (by rw [show 4 + i - 4 = i by omega]; exact hf)]
      · by_cases e3 : j < 4 + i
        · rw [if_pos e3, if_pos (by omega)]
        · rw [if_neg e3, if_neg (by omega)]
  · rw [if_neg h64, wp_some, hlo 0 (by decide), bw_id (z := w 0 + 1) (by omega) (by omega)]
    refine ⟨rfl, ?_, hF.wr (by decide)⟩
    rw [wr_row, bw_id (z := w 0 + 1) (by omega) (by omega)]
    congr 1
    funext j
    rw [hy j]
    split
    · rfl
    · exact (meltsW_o (by omega)).symm
/-- a DAY: the row, how many, the first void -/
def vdD (m : Int) (w : Int → Int) (fv : Int) : (Int → Int) × Int × Int := vdW m (w 87).toNat 0 (snowsW w, 0, fv)
def slD (m : Int) (u : Int → Int) : Int → Int := if m ≠ 0 ∧ 0 < u 84 then slN m u 64 else u
def dayW (m : Int) (w : Int → Int) (fv : Int) : Int → Int := upz (meltsW (slD m (vdD m w fv).1)) 0 ((slD m (vdD m w fv).1) 0 + 1)
theorem vdW_ok {m : Int} : ∀ (r : Nat) (i fv v : Int) (w : Int → Int), OKw m w → 0 ≤ i → i + r = w 87 → pot w ≤ 800000000 → (OKw m (vdW m r i (w, v, fv)).1 ∧ pot (vdW m r i (w, v, fv)).1 ≤ pot w ∧ (∀ j : Int, (80 ≤ j ∧ j < 311) ∨ 911 ≤ j ∨ j = 0 ∨ j = 2 → (vdW m r i (w, v, fv)).1 j = w j)) ∧ v ≤ (vdW m r i (w, v, fv)).2.1 ∧ (vdW m r i (w, v, fv)).2.1 ≤ v + r ∧ ((vdW m r i (w, v, fv)).2.2 = fv ∨ 0 ≤ (vdW m r i (w, v, fv)).2.2 ∧ (vdW m r i (w, v, fv)).2.2 < w 87)
  | 0, i, fv, v, w, h, _, _, _ => ⟨⟨h, Int.le_refl _, fun _ _ => rfl⟩, Int.le_refl _, by show v ≤ v + 0; omega, Or.inl rfl⟩
  | r + 1, i, fv, v, w, h, i0, i1, hpot => by
    have hW := h.wf
    have fr := frN_r w
    have hw1 : w 1 ≤ 900000000 := by unfold pot at hpot; omega
    have h87 := hW.2.2.2.1.1
    obtain ⟨l1, l2, l3, l4, l5⟩ := hW.2.2.2.1.2 i i0 (by omega)
    rw [vdW]
    simp only
    by_cases hday : w (151 + 4 * i) = w 0
    · simp only [if_pos hday]
      by_cases z : w (68 + w (152 + 4 * i)) = -1 ∧ w (68 + w (153 + 4 * i)) = -1
      · simp only [if_pos z]
        have hp2 := vowW_pot (t := m) (x := w (154 + 4 * i)) hW l2 l3 z.1
        have hlo : ∀ j : Int, (80 ≤ j ∧ j < 311) ∨ 911 ≤ j ∨ j = 0 ∨ j = 2 → vowW m w (w (152 + 4 * i)) (w (153 + 4 * i)) (w (154 + 4 * i)) j = w j := fun j hj => vowW_lo hW l2 l3 (by omega)
        obtain ⟨⟨a1, a2, a3⟩, a4, a5, a6⟩ := vdW_ok r (i + 1) fv (v + 1) _ (h.vow l2 l3 l5 hw1) (by omega) (by rw [hlo 87 (by omega)]; omega) (by omega)
        rw [hlo 87 (by omega)] at a6
        exact ⟨⟨a1, by omega, fun j hj => (a3 j hj).trans (hlo j hj)⟩, by omega, by omega, a6⟩
      · simp only [if_neg z]
        have hb3 := hW.1.2.2.2.2.2.2.2.2
        have hlo : ∀ j : Int, (80 ≤ j ∧ j < 311) ∨ 911 ≤ j ∨ j = 0 ∨ j = 2 → noteW m w 3 i 0 j = w j := fun j hj => noteW_lo (by omega) (by omega) (by omega) (by omega)
        have hok : OKw m (noteW m w 3 i 0) := h.note rfl (bw_id (by omega) (by omega)) rfl
        obtain ⟨⟨a1, a2, a3⟩, a4, a5, a6⟩ := vdW_ok r (i + 1) (if fv = -1 then i else fv) v _ hok (by omega) (by rw [hlo 87 (by omega)]; omega) (by rw [note_pot hb3]; omega)
        rw [hlo 87 (by omega)] at a6
        rw [note_pot hb3] at a2
        refine ⟨⟨a1, a2, fun j hj => (a3 j hj).trans (hlo j hj)⟩, by omega, by omega, ?_⟩
        rcases a6 with a6 | a6
        · rw [a6]
          split
          · exact Or.inr (by omega)
          · exact Or.inl rfl
        · exact Or.inr a6
    · simp only [if_neg hday]
      obtain ⟨a0, a4, a5, a6⟩ := vdW_ok r (i + 1) fv v w h (by omega) (by omega) hpot
      exact ⟨a0, by omega, by omega, a6⟩
theorem OKw.snows {m : Int} {w : Int → Int} (h : OKw m w) : OKw m (snowsW w) := by
  obtain ⟨σ, b, hb, hC⟩ := h
  have : wp (fX9_passDay_L11 b (fun s => some (0, s)) (weathW w (w 0)) FU 0 σ) (fun r => CW m (snowsW w) r.2 b) := snows_c hC (fun τ h1 _ => wp_some.mpr h1)
  obtain ⟨r, -, h2⟩ := this
  exact ⟨r.2, b, hb, h2⟩
theorem snows_pot {w : Int → Int} : pot (snowsW w) = pot w := by
  unfold pot
  rw [snowsW_o (by decide), frN_congr (fun j h1 h2 => snowsW_o (by omega))]
theorem slN_lo {m : Int} {w : Int → Int} (h : OKw m w) (hm : m ≠ 0) {j : Int} (hj : j = 0 ∨ j = 1 ∨ (68 ≤ j ∧ j < 311) ∨ 911 ≤ j) : ∀ k : Nat, k ≤ 64 → slN m w k j = w j
  | 0, _ => rfl
  | k + 1, hk => by rw [slN, slS_lo (h.sl hm k (by omega)).wf hj]; exact slN_lo h hm hj k (by omega)
theorem slD_ok {m : Int} {u : Int → Int} (h : OKw m u) : OKw m (slD m u) ∧ pot (slD m u) = pot u ∧ ∀ j : Int, j = 0 ∨ j = 1 ∨ (68 ≤ j ∧ j < 311) ∨ 911 ≤ j → slD m u j = u j := by
  unfold slD
  split
  · next hc =>
    have hlo : ∀ j : Int, j = 0 ∨ j = 1 ∨ (68 ≤ j ∧ j < 311) ∨ 911 ≤ j → slN m u 64 j = u j := fun j hj => slN_lo h hc.1 hj 64 (by omega)
    refine ⟨h.sl hc.1 64 (by omega), ?_, hlo⟩
    unfold pot
    rw [hlo 1 (by omega), frN_congr (fun j h1 h2 => hlo j (by omega))]
  · exact ⟨h, rfl, fun _ _ => rfl⟩
