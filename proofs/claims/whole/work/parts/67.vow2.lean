/-! a VOW whole, on both sides -/
def cellW (b : Nat) : List Nat := [b, b + 1, b + 2, b + 8, b + 15, b + 16, b + 25, b + 26]
theorem upz_self {w : Int → Int} {i : Int} : upz w i (w i) = w := by
  funext j
  by_cases h : j = i
  · rw [h, upz_s]
  · rw [upz_n h]
theorem RB_congr {m : Int} {w u : Int → Int} {g g' : Nat → Int → Int} (h : RB m w g) (h3 : u 3 = w 3) (hb3 : w 3 ≤ 150) (hu : ∀ j : Int, 311 ≤ j → j < 911 → u j = w j) (hg : ∀ i, g' 25 i = g 25 i) (hg2 : ∀ i, g' 26 i = g 26 i) : RB m u g' := by
  obtain ⟨r1, r2⟩ := h
  refine ⟨(hg 1).trans r1, ?_⟩
  rcases r2 with ⟨hm, r2⟩ | ⟨hm, r2, r3⟩
  · exact Or.inl ⟨hm, (hg 2).trans r2⟩
  · refine Or.inr ⟨hm, by rw [hg, h3]; exact r2, fun i i0 i1 => ?_⟩
    rw [h3] at i1
    rw [hg2, hg2, hg2, hg2, hu _ (by omega) (by omega), hu _ (by omega) (by omega), hu _ (by omega) (by omega), hu _ (by omega) (by omega)]
    exact r3 i i0 i1
section CVow2
variable {m : Int} {w : Int → Int} {σ : Sg} {b : Nat} {p q x : Int}
theorem J111_c (hb : b = 1 ∧ m = 150 ∨ b = 28 ∧ m = 0) (h : CW m w σ b) (hp : isP w p) (hq : isP w q) {u : Int → Int} {f what much : Int} {τ : Sg} (hwh : 0 ≤ what ∧ what ≤ 6) (hmu : 0 ≤ much ∧ much ≤ 10000) (hF : Fr [b, b + 1, b + 2, b + 15, b + 16] σ τ) (h0 : ∀ i : Int, i ≠ 5 → rd τ b i = rd σ b i) (h5 : rd τ b 5 = u 1) (hs : ∀ f, isF w f → rd τ (b + 1) f = u (4 + f)) (hn : ∀ f : Int, 0 ≤ f → f < 56 → 0 ≤ rd τ (b + 1) f ∧ rd τ (b + 1) f ≤ 99) (hu : ∀ j : Int, j ≠ 1 → j < 4 ∨ 68 ≤ j → u j = w j) (hu1 : 0 ≤ u 1 ∧ u 1 ≤ 1000000000) : wp (fX9_makeVow_J111 b p q f what much τ) (fun r => r.1 = f ∧ CW m (upz (upz (noteW m u what p much) (68 + p) q) (68 + q) p) r.2 b ∧ Fr (cellW b) σ r.2) := by
  have hr := h.1.1.2.2.2.2.2.1
  have hd := h.1.1.2.2.2.2.2.2.1
  have hb3 := h.1.1.2.2.2.2.2.2.2.2
  have hpr : 0 ≤ p ∧ p < 12 := ⟨hp.1, by have := hp.2; omega⟩
  have hqr : 0 ≤ q ∧ q < 12 := ⟨hq.1, by have := hq.2; omega⟩
  have u3 : u 3 = w 3 := hu 3 (by decide) (by decide)
  have u0 : u 0 = w 0 := hu 0 (by decide) (by decide)
  unfold fX9_makeVow_J111
  rw [grd_pos ⟨hp.1, by omega⟩, grd_pos ⟨hq.1, by omega⟩, wp_bind]
  have hF2 : Fr [b, b + 1, b + 2, b + 8, b + 15, b + 16] σ (wr (wr τ (b + 8) p q) (b + 8) q p) := ((hF.mo (by simp)).wr (by simp)).wr (by simp)
  have hRB : RB m u (vw (wr (wr τ (b + 8) p q) (b + 8) q p) b) := RB_congr h.2.2.2.2.2.1 u3 hb3.2 (fun j a1 a2 => hu j (by omega) (by omega)) (fun i => hF2 (b + 25) i (by simp)) (fun i => hF2 (b + 26) i (by simp))
  have e6 : rd (wr (wr τ (b + 8) p q) (b + 8) q p) b 6 = u 0 := by
    rw [rq_c (by omega), rq_c (by omega), h0 6 (by decide), u0]; exact h.2.1.2.2.2.2.2.2.1
  refine wp_mono (note_c hb hRB (by omega) e6 (bw_id (by omega) (by omega)) (bw_id (z := what) (by omega) (by omega)) (bw_id (z := p) (by omega) (by omega)) (bw_id (z := much) (by omega) (by omega))) (fun ρ hρ => ?_)
  rw [wp_some]
  obtain ⟨hB, hG⟩ := hρ
  have hlo : ∀ j : Int, j < 311 ∨ 911 ≤ j → j ≠ 3 → j ≠ 68 + p → j ≠ 68 + q → upz (upz (noteW m u what p much) (68 + p) q) (68 + q) p j = u j := by
    intro j a1 a2 a3 a4
    rw [upz_n a4, upz_n a3, noteW_lo (by omega) a1 (by omega) a2]
  have h3' : upz (upz (noteW m u what p much) (68 + p) q) (68 + q) p 3 = noteW m u what p much 3 := by rw [upz_n (by omega), upz_n (by omega)]
  have hall : Fr (cellW b) σ ρ := (hF2.mo (by simp [cellW])).tr (hG.mo (by simp [cellW]))
  refine ⟨rfl, ?_, hall⟩
  have g8 : ∀ i, rd ρ (b + 8) i = upz (upz (rd σ (b + 8)) p q) q p i := by
    intro i
    rw [hG (b + 8) i (by simp), wr_row, wr_row, bw_id (z := p) (by omega) (by omega), bw_id (z := q) (by omega) (by omega)]
    have : rd τ (b + 8) = rd σ (b + 8) := funext fun j => hF (b + 8) j (by simp)
    rw [this]
  refine CG_dyn h (fun j hj => ?_) (fun k k0 k1 k8 k25 k26 i => ?_) (fun i i0 i4 => ?_) ?_ ?_ ?_ (fun f hf => ?_) (fun r hr2 => ?_) ?_ ?_ ?_ (fun f hf => ?_) (fun f a1 a2 => ?_) (fun r hr2 => ?_) ?_
  · rw [hlo j (by omega) (by omega) (by omega) (by omega)]
    exact hu j (by omega) (by omega)
  · unfold vw
    split
    · rfl
    · next hk => exact hall _ _ (by simp [cellW]; omega)
  · show rd ρ b i = rd σ b i
    rw [hG b i (by simp <;> omega), rq_c (by omega), rq_c (by omega)]
    exact h0 i (by omega)
  · rw [hlo 0 (by decide) (by decide) (by omega) (by omega), u0]; exact hd
  · rw [hlo 1 (by decide) (by decide) (by omega) (by omega)]; exact hu1
  · rw [h3']; exact noteW_3 (by omega)
  · have hfb := isF_b hf
    rw [hlo (4 + f) (by omega) (by omega) (by omega) (by omega), ← hs f hf]
    exact hn f (by omega) (by omega)
  · by_cases e1 : r = q
    · rw [e1, upz_s]; exact Or.inr hp
    · rw [upz_n (by omega)]
      by_cases e2 : r = p
      · rw [e2, upz_s]; exact Or.inr hq
      · have hrb := hr2
        rw [upz_n (by omega), noteW_lo (by omega) (by have := hr2.2; omega) (by omega) (by have := hr2.1; omega), hu _ (by have := hr2.1; omega) (by have := hr2.1; omega)]
        exact (h.1.2.2.1 r hr2).2.2.2.2.1
  · show rd ρ b 5 = _
    rw [hlo 1 (by decide) (by decide) (by omega) (by omega), hG b 5 (by simp <;> omega), rq_c (by omega), rq_c (by omega)]
    exact h5
  · show rd ρ b 6 = _
    rw [hlo 0 (by decide) (by decide) (by omega) (by omega), hG b 6 (by simp <;> omega)]
    exact e6
  · show rd ρ b 7 = _
    rw [hlo 2 (by decide) (by decide) (by omega) (by omega), hG b 7 (by simp <;> omega), rq_c (by omega), rq_c (by omega), h0 7 (by decide), hu 2 (by decide) (by decide)]
    exact h.2.1.2.2.2.2.2.2.2
  · have hfb := isF_b hf
    show rd ρ (b + 1) f = _
    rw [hlo (4 + f) (by omega) (by omega) (by omega) (by omega), hG (b + 1) f (by simp), rq_c (by omega), rq_c (by omega)]
    exact hs f hf
  · show 0 ≤ rd ρ (b + 1) f ∧ rd ρ (b + 1) f ≤ 99
    rw [hG (b + 1) f (by simp), rq_c (by omega), rq_c (by omega)]
    exact hn f a1 a2
  · show rd ρ (b + 8) r = _
    rw [g8]
    by_cases e1 : r = q
    · rw [e1, upz_s, upz_s]
    · rw [upz_n (j := r) e1, upz_n (j := 68 + r) (by omega)]
      by_cases e2 : r = p
      · rw [e2, upz_s, upz_s]
      · rw [upz_n (j := r) e2, upz_n (j := 68 + r) (by omega), noteW_lo (by omega) (by have := hr2.2; omega) (by omega) (by have := hr2.1; omega), hu _ (by have := hr2.1; omega) (by have := hr2.1; omega)]
        exact (h.2.2.2.1.2 r hr2).2.2.2.2.1
  · refine RB_congr hB h3' (noteW_3 (by omega)).2 (fun j a1 a2 => ?_) (fun i => rfl) (fun i => rfl)
    rw [upz_n (by omega), upz_n (by omega)]
theorem makeVow_c (hb : b = 1 ∧ m = 150 ∨ b = 28 ∧ m = 0) (h : CW m w σ b) (hp : isP w p) (hq : isP w q) (hx : isF w x) (hn1 : w 1 ≤ 900000000) : wp (fX9_makeVow b p q x σ) (fun r => r.1 = foundW w p q ∧ CW m (vowW m w p q x) r.2 b ∧ Fr (cellW b) σ r.2) := by
  have hw1 := h.1.1.2.2.2.2.2.2.2.1
  unfold fX9_makeVow
  rw [wp_bind]
  refine wp_mono (foundOf_c h hp hq) (fun r hr => ?_)
  have hF0 : Fr [b, b + 1, b + 2, b + 15, b + 16] σ r.2 := hr.2.mo (by simp)
  rw [hr.1]
  by_cases f3 : foundW w p q < 3
  · rw [if_pos f3]
    refine wp_mono (J111_c (u := w) (what := 2) (much := 0) hb h hp hq (by omega) (by omega) hF0 (fun i hi => hr.2 b i (by simp <;> omega)) ((hr.2 b 5 (by simp <;> omega)).trans h.2.1.2.2.2.2.2.1) (fun f hf => (hr.2 (b + 1) f (by simp)).trans (h.2.2.1.1 f hf)) (fun f a1 a2 => by rw [hr.2 (b + 1) f (by simp)]; exact h.2.2.1.2 f a1 a2) (fun j _ _ => rfl) (by omega)) (fun r2 hr2 => ?_)
    unfold vowW vow0W whatW muchW
    rw [if_neg (by omega), if_neg (by omega), if_neg (by omega), if_neg (by omega), if_neg (by omega), if_neg (by omega)]
    exact hr2
  · rw [if_neg f3]
    have h2 : CW m w r.2 b := h.fr hr.2 (by simp)
    refine liftsL_c h2 hp hq hx (fun τ hτ hl => ?_)
    have h3 : CW m w τ b := h2.fr hτ (by simp)
    have hs3 : ∀ f, isF w f → rd τ (b + 1) f = w (4 + f) := h3.2.2.1.1
    have hn3 : ∀ f : Int, 0 ≤ f → f < 56 → 0 ≤ rd τ (b + 1) f ∧ rd τ (b + 1) f ≤ 99 := h3.2.2.1.2
    have h53 : rd τ b 5 = w 1 := h3.2.1.2.2.2.2.2.1
    have hFτ : Fr [b, b + 1, b + 2, b + 15, b + 16] σ τ := hF0.tr (hτ.mo (by simp))
    have hbτ : ∀ i : Int, rd τ b i = rd σ b i := fun i => (hτ b i (by simp <;> omega)).trans (hr.2 b i (by simp <;> omega))
    by_cases f6 : foundW w p q < 6
    · rw [if_pos f6]
      unfold fX9_makeVow_J89
      rw [if_pos f6, wp_bind]
      have hd := dnW_r h.1 p q x
      have hsm := sumN_r (f := dnW w p q x) (k := 99) (fun i _ => ⟨(hd i).1, (hd i).2.1⟩) 64
      have hz0 : ∀ c : Int, ¬ isF w c → dnW w p q x c = 0 := fun c hc => by rw [dnW, if_neg hc]
      have hR := drS_r (wind := w 82) h.1 hd hz0 64 (by omega)
      refine wp_mono (drift_c h.1 hl hs3 hn3 h53 h3.2.1.1 h3.2.1.2.1 h3.2.1.2.2.1) (fun r2 hr2 => ?_)
      obtain ⟨k1, k2, k3, k4, k5, k6⟩ := hr2
      rw [k1]
      refine wp_mono (J111_c (u := driftW w p q x) (what := 1) hb h hp hq (by omega) (by omega) (hFτ.tr (k2.mo (by simp))) (fun i hi => (k3 i hi).trans (hbτ i)) ?_ (fun f hf => ?_) k6 (fun j a1 a2 => ?_) ?_) (fun r3 hr3 => ?_)
      · rw [k4]; unfold driftW capW; rw [if_neg (by decide)]
      · have hfb := isF_b hf
        rw [k5 f hf]; unfold driftW capW; rw [if_pos (by omega)]
      · unfold driftW capW
        rw [if_neg (by omega)]
        exact drS_lo h.1 64 (by omega) hz0 j a1 (fun z => by have := isF_b z; omega)
      · unfold driftW capW
        rw [if_neg (by decide)]
        omega
      · unfold vowW vow0W whatW muchW
        rw [if_neg (by omega), if_pos (by omega), if_neg (by omega), if_pos (by omega), if_neg (by omega), if_pos (by omega)]
        exact hr3
    · rw [if_neg f6]
      unfold fX9_makeVow_J89
      rw [if_neg f6, wp_bind]
      have hd := upW_r h.1 p q x
      have hsm := sumN_r (f := upW w p q x) (k := 99) (fun i _ => ⟨(hd i).1, (hd i).2.1⟩) 64
      refine wp_mono (rise_c h.1 hl hs3 hn3 h53) (fun r2 hr2 => ?_)
      obtain ⟨k1, k2, k3, k4, k5⟩ := hr2
      rw [k1]
      refine wp_mono (J111_c (u := riseW w p q x) (what := 0) hb h hp hq (by omega) (by omega) (hFτ.tr (k2.mo (by simp))) (fun i hi => (k3 i hi).trans (hbτ i)) ?_ (fun f hf => ?_) (fun f a1 a2 => ?_) (fun j a1 a2 => ?_) ?_) (fun r3 hr3 => ?_)
      · rw [k4]; unfold riseW; rw [upz_s]
      · have hfb := isF_b hf
        rw [k5 f (by omega) (by omega), hs3 f hf]
        unfold riseW subW
        rw [upz_n (by omega)]
        show _ = if _ then _ else _
        rw [if_pos (by omega), show 4 + f - 4 = f by omega]
      · have h1 := hn3 f a1 a2
        have h2 := hd f
        rw [k5 f a1 a2]
        by_cases hf : isF w f
        · rw [hs3 f hf] at h1 ⊢
          have := h2.2.2 hf
          omega
        · have : upW w p q x f = 0 := by rw [upW, if_neg hf]
          omega
      · unfold riseW subW
        rw [upz_n a1]
        show (if _ then _ else _) = _
        rw [if_neg (by omega)]
      · unfold riseW
        rw [upz_s]
        omega
      · unfold vowW vow0W whatW muchW
        rw [if_pos (by omega), if_pos (by omega), if_pos (by omega)]
        exact hr3
end CVow2
