/-! lines of a DAY, avalanches, melt, a DAY whole -/
def frN (w : Int → Int) : Int := sumN (fun p => if w (68 + p) = -1 then 1 else 0) 12
def pot (w : Int → Int) : Int := w 1 + 6336 * frN w
theorem frN_r (w : Int → Int) : 0 ≤ frN w ∧ frN w ≤ 12 := by
  have h := sumN_r (f := fun p => if w (68 + p) = -1 then 1 else 0) (k := 1) (fun i _ => by split <;> omega) 12
  unfold frN
  omega
theorem sumN_le {f g : Int → Int} : ∀ n : Nat, (∀ i : Int, 0 ≤ i → i < n → f i ≤ g i) → sumN f n ≤ sumN g n
  | 0, _ => by simp [sumN]
  | n + 1, h => by
    have h1 := sumN_le n (fun i a1 a2 => h i a1 (by omega))
    have h2 := h n (by omega) (by omega)
    rw [sumN, sumN]; omega
theorem sumN_lt {f g : Int → Int} {k : Int} (h0 : 0 ≤ k) (hk : f k + 1 ≤ g k) : ∀ n : Nat, k < n → (∀ i : Int, 0 ≤ i → i < n → f i ≤ g i) → sumN f n + 1 ≤ sumN g n
  | 0, h, _ => by omega
  | n + 1, h, hl => by
    rw [sumN, sumN]
    by_cases e : k = n
    · have h1 := sumN_le (f := f) (g := g) n (fun i a1 a2 => hl i a1 (by omega))
      have hk2 : f n + 1 ≤ g n := by rw [← e]; exact hk
      omega
    · have h1 := sumN_lt h0 hk n (by omega) (fun i a1 a2 => hl i a1 (by omega))
      have h2 := hl n (by omega) (by omega)
      omega
theorem sumN_congr {f g : Int → Int} : ∀ n : Nat, (∀ i : Int, 0 ≤ i → i < n → f i = g i) → sumN f n = sumN g n
  | 0, _ => rfl
  | n + 1, h => by rw [sumN, sumN, sumN_congr n (fun i a1 a2 => h i a1 (by omega)), h n (by omega) (by omega)]
theorem frN_congr {w u : Int → Int} (h : ∀ j : Int, 68 ≤ j → j < 80 → u j = w j) : frN u = frN w := sumN_congr 12 (fun i a1 a2 => by rw [h _ (by omega) (by omega)])
theorem vow0W_lo {w : Int → Int} (hW : Wf w) {p q x : Int} : ∀ j : Int, j ≠ 1 → j < 4 ∨ 68 ≤ j → vow0W w p q x j = w j := by
  intro j h1 h2
  unfold vow0W
  split
  · unfold riseW
    rw [upz_n h1, subW, if_neg (by omega)]
  · split
    · unfold driftW capW
      rw [if_neg (by omega)]
      exact drS_lo hW 64 (by omega) (fun c hc => by rw [dnW, if_neg hc]) j h1 (fun z => by have := isF_b z; omega)
    · rfl
theorem vow0W_1 {w : Int → Int} (hW : Wf w) {p q x : Int} : w 1 ≤ vow0W w p q x 1 ∧ vow0W w p q x 1 ≤ w 1 + 6336 := by
  unfold vow0W
  split
  · have hd := upW_r hW p q x
    have hsm := sumN_r (f := upW w p q x) (k := 99) (fun i _ => ⟨(hd i).1, (hd i).2.1⟩) 64
    unfold riseW
    rw [upz_s]; omega
  · split
    · have hR := drS_r (wind := w 82) hW (dnW_r hW p q x) (fun c hc => by rw [dnW, if_neg hc]) 64 (by omega)
      unfold driftW capW
      rw [if_neg (by decide)]
      omega
    · omega
theorem vowW_lo {t : Int} {w : Int → Int} (hW : Wf w) {p q x j : Int} (hp : isP w p) (hq : isP w q) (hj : (80 ≤ j ∧ j < 311) ∨ 911 ≤ j ∨ j = 0 ∨ j = 2) : vowW t w p q x j = w j := by
  have h12 := hW.1.2.2.2.2.2.1
  have hp1 := hp.1
  have hp2 := hp.2
  have hq1 := hq.1
  have hq2 := hq.2
  have hb3 := hW.1.2.2.2.2.2.2.2.2
  have h3 := vow0W_lo hW (p := p) (q := q) (x := x) 3 (by omega) (by omega)
  unfold vowW
  rw [upz_n (by omega), upz_n (by omega), noteW_lo (by omega) (by omega) (by omega) (by omega)]
  exact vow0W_lo hW j (by omega) (by omega)
theorem vowW_pot {t : Int} {w : Int → Int} (hW : Wf w) {p q x : Int} (hp : isP w p) (hq : isP w q) (hfp : w (68 + p) = -1) : pot (vowW t w p q x) ≤ pot w ∧ 0 ≤ vowW t w p q x 1 := by
  have h12 := hW.1.2.2.2.2.2.1
  have hn := hW.1.2.2.2.2.2.2.2.1
  have hp1 := hp.1
  have hp2 := hp.2
  have hq1 := hq.1
  have hq2 := hq.2
  have hb3 := hW.1.2.2.2.2.2.2.2.2
  have h3 := vow0W_lo hW (p := p) (q := q) (x := x) 3 (by omega) (by omega)
  have h1 := vow0W_1 hW (p := p) (q := q) (x := x)
  have e1 : vowW t w p q x 1 = vow0W w p q x 1 := by
    unfold vowW
    rw [upz_n (by omega), upz_n (by omega), noteW_lo (by omega) (by omega) (by omega) (by omega)]
  have ew : ∀ r : Int, 0 ≤ r → r < 12 → vowW t w p q x (68 + r) = if r = q then p else if r = p then q else w (68 + r) := by
    intro r r0 r1
    unfold vowW
    by_cases a1 : r = q
    · rw [a1, upz_s, if_pos rfl]
    · rw [upz_n (by omega), if_neg a1]
      by_cases a2 : r = p
      · rw [a2, upz_s, if_pos rfl]
      · rw [upz_n (by omega), if_neg a2, noteW_lo (by omega) (by omega) (by omega) (by omega)]
        exact vow0W_lo hW _ (by omega) (by omega)
  have hfr : frN (vowW t w p q x) + 1 ≤ frN w := by
    refine sumN_lt (k := p) hp1 ?_ 12 (by omega) (fun i a1 a2 => ?_)
    · rw [ew p hp1 (by omega), hfp]
      have hne : ¬ (if p = q then p else if p = p then q else -1) = -1 := by
        by_cases z : p = q
        · rw [if_pos z]; omega
        · rw [if_neg z, if_pos rfl]; omega
      rw [if_neg hne, if_pos (show (-1 : Int) = -1 from rfl)]
      omega
    · rw [ew i a1 (by omega)]
      by_cases z : i = q
      · rw [if_pos z, if_neg (show ¬ p = -1 by omega)]
        split <;> omega
      · by_cases z2 : i = p
        · rw [if_neg z, if_pos z2, if_neg (show ¬ q = -1 by omega)]
          split <;> omega
        · rw [if_neg z, if_neg z2]
          exact Int.le_refl _
  unfold pot
  rw [e1]
  exact ⟨by omega, by omega⟩
def vdW (t : Int) : Nat → Int → (Int → Int) × Int × Int → (Int → Int) × Int × Int
  | 0, _, s => s
  | n + 1, i, s =>
    if s.1 (151 + 4 * i) = s.1 0 then
      if s.1 (68 + s.1 (152 + 4 * i)) = -1 ∧ s.1 (68 + s.1 (153 + 4 * i)) = -1 then vdW t n (i + 1) (vowW t s.1 (s.1 (152 + 4 * i)) (s.1 (153 + 4 * i)) (s.1 (154 + 4 * i)), s.2.1 + 1, s.2.2)
      else vdW t n (i + 1) (noteW t s.1 3 i 0, s.2.1, if s.2.2 = -1 then i else s.2.2)
    else vdW t n (i + 1) s
/-- a world that some class's world is -/
def OKw (m : Int) (w : Int → Int) : Prop := ∃ (σ : Sg) (b : Nat), (b = 1 ∧ m = 150 ∨ b = 28 ∧ m = 0) ∧ CW m w σ b
theorem OKw.vow {m : Int} {w : Int → Int} (h : OKw m w) {p q x : Int} (hp : isP w p) (hq : isP w q) (hx : isF w x) (hn1 : w 1 ≤ 900000000) : OKw m (vowW m w p q x) := by
  obtain ⟨σ, b, hb, hC⟩ := h
  obtain ⟨r, -, -, h2, -⟩ := makeVow_c hb hC hp hq hx hn1
  exact ⟨r.2, b, hb, h2⟩
theorem CW_note {m : Int} {w : Int → Int} {σ : Sg} {b : Nat} (hb : b = 1 ∧ m = 150 ∨ b = 28 ∧ m = 0) (h : CW m w σ b) {x y z : Int} (hx : bw x = x) (hy : bw y = y) (hz : bw z = z) : wp (fX9_note b x y z σ) (fun τ => CW m (noteW m w x y z) τ b ∧ Fr [b + 25, b + 26] σ τ) := by
  have hd := h.1.1.2.2.2.2.2.2.1
  have hb3 := h.1.1.2.2.2.2.2.2.2.2
  have h12 := h.1.1.2.2.2.2.2.1
  refine wp_mono (note_c hb h.2.2.2.2.2.1 hb3 h.2.1.2.2.2.2.2.2.1 (bw_id (by omega) (by omega)) hx hy hz) (fun τ hτ => ⟨?_, hτ.2⟩)
  have hF := hτ.2
  have lo : ∀ j : Int, j < 311 ∨ 911 ≤ j → j ≠ 3 → noteW m w x y z j = w j := fun j h1 h2 => noteW_lo (by omega) h1 (by omega) h2
  refine CG_dyn h (fun j hj => lo j (by omega) (by omega)) (fun i i0 i1 i8 i25 i26 j => ?_) (fun i i0 i4 => hF b i (by simp <;> omega)) (by rw [lo 0 (by decide) (by decide)]; exact hd) (by rw [lo 1 (by decide) (by decide)]; exact h.1.1.2.2.2.2.2.2.2.1) (noteW_3 hb3) (fun f hf => ?_) (fun p hp => ?_) ?_ ?_ ?_ (fun f hf => ?_) (fun f a1 a2 => ?_) (fun p hp => ?_) hτ.1
  · unfold vw
    split
    · rfl
    · exact hF _ _ (by simp; omega)
  · have hfb := isF_b hf
    rw [lo (4 + f) (by omega) (by omega)]
    exact h.1.2.1 f hf
  · have := hp.1
    have := hp.2
    rw [lo (68 + p) (by omega) (by omega)]
    exact (h.1.2.2.1 p hp).2.2.2.2.1
  · rw [lo 1 (by decide) (by decide)]; exact (hF b 5 (by simp <;> omega)).trans h.2.1.2.2.2.2.2.1
  · rw [lo 0 (by decide) (by decide)]; exact (hF b 6 (by simp <;> omega)).trans h.2.1.2.2.2.2.2.2.1
  · rw [lo 2 (by decide) (by decide)]; exact (hF b 7 (by simp <;> omega)).trans h.2.1.2.2.2.2.2.2.2
  · have hfb := isF_b hf
    rw [lo (4 + f) (by omega) (by omega)]
    exact (hF (b + 1) f (by simp)).trans (h.2.2.1.1 f hf)
  · have h3 : 0 ≤ rd σ (b + 1) f ∧ rd σ (b + 1) f ≤ 99 := h.2.2.1.2 f a1 a2
    show 0 ≤ rd τ (b + 1) f ∧ rd τ (b + 1) f ≤ 99
    rw [hF (b + 1) f (by simp)]
    exact h3
  · have := hp.1
    have := hp.2
    rw [lo (68 + p) (by omega) (by omega)]
    exact (hF (b + 8) p (by simp)).trans (h.2.2.2.1.2 p hp).2.2.2.2.1
theorem OKw.note {m : Int} {w : Int → Int} (h : OKw m w) {x y z : Int} (hx : bw x = x) (hy : bw y = y) (hz : bw z = z) : OKw m (noteW m w x y z) := by
  obtain ⟨σ, b, hb, hC⟩ := h
  obtain ⟨r, -, h2, -⟩ := CW_note hb hC hx hy hz
  exact ⟨r, b, hb, h2⟩
theorem note_pot {t : Int} {w : Int → Int} {x y z : Int} (hb : 0 ≤ w 3 ∧ w 3 ≤ 150) : pot (noteW t w x y z) = pot w := by
  unfold pot
  rw [noteW_lo (by omega) (by omega) (by omega) (by omega), frN_congr (fun j h1 h2 => noteW_lo (by omega) (by omega) (by omega) (by omega))]
theorem isFree_c {m : Int} {w : Int → Int} {σ : Sg} {b : Nat} (h : CW m w σ b) (p : Int) : fX1_isFree (b + 3) p σ = some (if isP w p ∧ w (68 + p) = -1 then 1 else 0) := by
  have h12 := h.1.1.2.2.2.2.2.1
  have e6 : rd σ (b + 3) 6 = w 85 := h.2.2.2.1.1
  unfold fX1_isFree fX1_has
  rw [e6]
  by_cases hp : isP w p
  · have hp1 := hp.1
    have hp2 := hp.2
    have e8 : rd σ (b + 3 + 5) p = w (68 + p) := (h.2.2.2.1.2 p hp).2.2.2.2.1
    rw [if_neg (show ¬ p < 0 by omega), if_pos hp2, if_neg (by decide), grd_pos (by omega), e8]
    by_cases h1 : w (68 + p) = -1
    · rw [if_pos h1, if_pos ⟨hp, h1⟩]
    · rw [if_neg h1, if_neg (fun z => h1 z.2)]
  · by_cases h1 : p < 0
    · rw [if_pos h1, if_pos rfl, if_neg (fun z => hp z.1)]
    · have h2 : ¬ p < w 85 := fun z => hp ⟨by omega, z⟩
      rw [if_neg h1, if_neg h2, if_pos rfl, if_neg (fun z => hp z.1)]
theorem canWed_c {m : Int} {w : Int → Int} {σ : Sg} {b : Nat} (h : CW m w σ b) (p q : Int) : fX1_canWed (b + 3) p q σ = some (if (isP w p ∧ isP w q ∧ w (91 + p) ≠ w (91 + q)) ∧ w (68 + p) = -1 ∧ w (68 + q) = -1 then 1 else 0) := by
  have h12 := h.1.1.2.2.2.2.2.1
  unfold fX1_canWed
  rw [isFree_c h, isFree_c h]
  show (if (if isP w p ∧ w (68 + p) = -1 then 1 else 0 : Int) = 0 then some 0 else (if (if isP w q ∧ w (68 + q) = -1 then 1 else 0 : Int) = 0 then some 0 else _)) = _
  by_cases h1 : isP w p ∧ w (68 + p) = -1
  · rw [if_pos h1, if_neg (by decide)]
    by_cases h2 : isP w q ∧ w (68 + q) = -1
    · have p1 := h1.1.1
      have p2 := h1.1.2
      have q1 := h2.1.1
      have q2 := h2.1.2
      have e1 : rd σ (b + 3 + 1) p = w (91 + p) := (h.2.2.2.1.2 p h1.1).1
      have e2 : rd σ (b + 3 + 1) q = w (91 + q) := (h.2.2.2.1.2 q h2.1).1
      rw [if_pos h2, if_neg (by decide), e1, e2, grd_pos (by omega), grd_pos (by omega)]
      by_cases h3 : w (91 + p) = w (91 + q)
      · rw [if_pos h3, if_neg (fun z => z.1.2.2 h3)]
      · rw [if_neg h3, if_pos ⟨⟨h1.1, h2.1, h3⟩, h1.2, h2.2⟩]
    · rw [if_neg h2, if_pos rfl, if_neg (fun z => h2 ⟨z.1.2.1, z.2.2⟩)]
  · rw [if_neg h1, if_pos rfl, if_neg (fun z => h1 ⟨z.1.1, z.2.1⟩)]
theorem lines_c {m : Int} {b : Nat} (hb : b = 1 ∧ m = 150 ∨ b = 28 ∧ m = 0) {k : Int → Sg → Option (Int × Sg)} {Q : Int × Sg → Prop} : ∀ (r n : Nat) (i fv v : Int) (w : Int → Int) (σ : Sg), CW m w σ b → 0 ≤ i → i + r = w 87 → r < n → pot w ≤ 800000000 → 0 ≤ v → v + r ≤ 100 → (∀ τ, CW m (vdW m r i (w, v, fv)).1 τ b → Fr (cellW b) σ τ → wp (k (vdW m r i (w, v, fv)).2.1 τ) Q) → wp (fX9_passDay_L50 b k n v i σ) Q
  | 0, n, i, fv, v, w, σ, h, i0, i1, hn, hpot, v0, v1, hk => by
    have e : rd σ (b + 17) 2 = w 87 := h.2.2.2.2.1.1.2.1
    cases n with
    | zero => omega
    | succ n =>
      rw [fX9_passDay_L50, e, if_neg (by omega)]
      exact hk σ h Fr.rf
  | r + 1, n, i, fv, v, w, σ, h, i0, i1, hn, hpot, v0, v1, hk => by
    have h87 := h.1.2.2.2.1.1
    have e : rd σ (b + 17) 2 = w 87 := h.2.2.2.2.1.1.2.1
    have fr := frN_r w
    have hw1 : w 1 ≤ 900000000 := by unfold pot at hpot; omega
    obtain ⟨l1, l2, l3, l4, l5⟩ := h.1.2.2.2.1.2 i i0 (by omega)
    obtain ⟨g1, g2, g3, g4⟩ := h.2.2.2.2.1.1.2.2 i i0 (by omega)
    have cc : ∀ j : Int, 0 ≤ j → j < 4 → fX6_cell (b + 17) 64 i j σ = some (rd σ (b + 18) (4 * i + j)) := fun j j0 j1 => cell_c e ⟨i0, by omega⟩ ⟨j0, j1⟩ (by omega) (by omega)
    have c0 : fX6_cell (b + 17) 64 i 0 σ = some (w (151 + 4 * i)) := by rw [cc 0 (by omega) (by omega), Int.add_zero]; exact congrArg some g1
    have c1 : fX6_cell (b + 17) 64 i 1 σ = some (w (152 + 4 * i)) := (cc 1 (by omega) (by omega)).trans (congrArg some g2)
    have c2 : fX6_cell (b + 17) 64 i 2 σ = some (w (153 + 4 * i)) := (cc 2 (by omega) (by omega)).trans (congrArg some g3)
    have c3 : fX6_cell (b + 17) 64 i 3 σ = some (w (154 + 4 * i)) := (cc 3 (by omega) (by omega)).trans (congrArg some g4)
    have e6 : rd σ b 6 = w 0 := h.2.1.2.2.2.2.2.2.1
    have hcw : fX1_canWed (b + 3) (w (152 + 4 * i)) (w (153 + 4 * i)) σ = some (if w (68 + w (152 + 4 * i)) = -1 ∧ w (68 + w (153 + 4 * i)) = -1 then 1 else 0) := by
      rw [canWed_c h]
      by_cases z : w (68 + w (152 + 4 * i)) = -1 ∧ w (68 + w (153 + 4 * i)) = -1
      · rw [if_pos z, if_pos ⟨⟨l2, l3, l4⟩, z⟩]
      · rw [if_neg z, if_neg (fun y => z y.2)]
    cases n with
    | zero => omega
    | succ n =>
      rw [fX9_passDay_L50, e, if_pos (by omega), c0, c1, c2, c3, wp_bind, wp_some, e6, bw_id (z := i + 1) (by omega) (by omega)]
      rw [vdW] at hk
      simp only at hk
      by_cases hday : w (151 + 4 * i) = w 0
      · rw [if_pos hday, wp_bind, wp_some, wp_bind, wp_some, hcw, wp_bind, wp_some]
        simp only [if_pos hday] at hk
        by_cases z : w (68 + w (152 + 4 * i)) = -1 ∧ w (68 + w (153 + 4 * i)) = -1
        · rw [if_pos z, if_neg (by decide), wp_bind, wp_some, wp_bind, wp_some, wp_bind, wp_some, wp_bind, bw_id (z := v + 1) (by omega) (by omega)]
          simp only [if_pos z] at hk
          refine wp_mono (makeVow_c hb h l2 l3 l5 hw1) (fun q hq => ?_)
          have hpot2 := vowW_pot (t := m) (x := w (154 + 4 * i)) h.1 l2 l3 z.1
          exact lines_c hb r n (i + 1) fv (v + 1) _ q.2 hq.2.1 (by omega) (by rw [vowW_lo h.1 l2 l3 (by omega)]; omega) (by omega) (by omega) (by omega) (by omega) (fun τ h1 h2 => hk τ h1 (hq.2.2.tr h2))
        · rw [if_neg z, if_pos rfl, wp_bind]
          simp only [if_neg z] at hk
          refine wp_mono (CW_note hb h (x := 3) (y := i) (z := 0) rfl (bw_id (by omega) (by omega)) rfl) (fun q hq => ?_)
          have hb3 := h.1.1.2.2.2.2.2.2.2.2
          exact lines_c hb r n (i + 1) _ v _ q hq.1 (by omega) (by rw [noteW_lo (by omega) (by omega) (by omega) (by omega)]; omega) (by omega) (by rw [note_pot hb3]; omega) (by omega) (by omega) (fun τ h1 h2 => hk τ h1 ((hq.2.mo (by simp [cellW])).tr h2))
      · rw [if_neg hday]
        simp only [if_neg hday] at hk
        exact lines_c hb r n (i + 1) fv v w σ h (by omega) (by omega) (by omega) hpot (by omega) (by omega) hk
theorem noteW_t {t m : Int} (h : t = 0 ↔ m = 0) (w : Int → Int) (x y z : Int) : noteW t w x y z = noteW m w x y z := by
  unfold noteW
  by_cases h0 : t = 0
  · rw [if_pos (Or.inl h0), if_pos (Or.inl (h.mp h0))]
  · by_cases h3 : w 3 = 150
    · rw [if_pos (Or.inr h3), if_pos (Or.inr h3)]
    · rw [if_neg (fun q => q.elim h0 h3), if_neg (fun q => q.elim (fun e => h0 (h.mpr e)) h3)]
theorem vowW_t {t m : Int} (h : t = 0 ↔ m = 0) (w : Int → Int) (p q x : Int) : vowW t w p q x = vowW m w p q x := by
  unfold vowW
  rw [noteW_t h]
theorem OKw.wf {m : Int} {w : Int → Int} (h : OKw m w) : Wf w := by
  obtain ⟨σ, b, -, hC⟩ := h
  exact hC.1
theorem OKw.lr {m : Int} {w : Int → Int} (h : OKw m w) : ∃ g, LR w g := by
  obtain ⟨σ, b, -, hC⟩ := h
  exact ⟨_, hC.2.2.2.2.2.2⟩
theorem canVow_m {w : Int → Int} {σ : Sg} (hW : Wf w) (hw : rd σ 85 = w) (p q x : Int) : fX11_canVow p q x σ = some (if (isP w p ∧ isP w q ∧ w (91 + p) ≠ w (91 + q)) ∧ (w (68 + p) = -1 ∧ w (68 + q) = -1) ∧ isF w x then 1 else 0) := by
  have h12 := hW.1.2.2.2.2.2.1
  unfold fX11_canVow
  rw [areUnlike_m hW hw]
  show (if (if isP w p ∧ isP w q ∧ w (91 + p) ≠ w (91 + q) then 1 else 0 : Int) = 0 then some 0 else _) = _
  by_cases h1 : isP w p ∧ isP w q ∧ w (91 + p) ≠ w (91 + q)
  · have p1 := h1.1.1
    have p2 := h1.1.2
    have q1 := h1.2.1.1
    have q2 := h1.2.1.2
    rw [if_pos h1, if_neg (by decide), isFree_m hw (p := p) (by omega), isFree_m hw (p := q) (by omega), isField_m hW hw]
    show (if (if w (68 + p) = -1 then 1 else 0 : Int) = 0 then some 0 else (if (if w (68 + q) = -1 then 1 else 0 : Int) = 0 then some 0 else _)) = _
    by_cases h2 : w (68 + p) = -1
    · rw [if_pos h2, if_neg (by decide)]
      by_cases h3 : w (68 + q) = -1
      · rw [if_pos h3, if_neg (by decide)]
        by_cases h4 : isF w x
        · rw [if_pos h4, if_neg (by decide), if_pos ⟨h1, ⟨h2, h3⟩, h4⟩]
        · rw [if_neg h4, if_pos rfl, if_neg (fun z => h4 z.2.2)]
      · rw [if_neg h3, if_pos rfl, if_neg (fun z => h3 z.2.1.2)]
    · rw [if_neg h2, if_pos rfl, if_neg (fun z => h2 z.2.1.1)]
  · rw [if_neg h1, if_pos rfl, if_neg (fun z => h1 z.1)]
/-- the model's lines; its own slots but firstVoid stay -/
def Fs (σ τ : Sg) : Prop := ∀ (c : Nat) (i : Int), c ∉ [85, 93, 94, 95] → ¬ (c = 84 ∧ i = 28) → rd τ c i = rd σ c i
theorem Fs.of {l : List Nat} {σ τ : Sg} (h : Fr l σ τ) (hl : ∀ c ∈ l, c ∈ [85, 93, 94, 95]) : Fs σ τ := fun c i hc _ => h c i (fun z => hc (hl c z))
theorem Fs.rf {σ : Sg} : Fs σ σ := fun _ _ _ _ => rfl
theorem Fs.tr {σ τ ρ : Sg} (h : Fs σ τ) (k : Fs τ ρ) : Fs σ ρ := fun c i hc hi => (k c i hc hi).trans (h c i hc hi)
theorem lines_m {m : Int} {Q : Int × Sg → Prop} : ∀ (r n : Nat) (i fv v : Int) (w : Int → Int) (σ : Sg), OKw m w → rd σ 85 = w → (rd σ 84 26 = 0 ↔ m = 0) → rd σ 84 28 = fv → 0 ≤ i → i + r = w 87 → r < n → pot w ≤ 800000000 → 0 ≤ v → v + r ≤ 100 → (∀ τ, OKw m (vdW m r i (w, v, fv)).1 → rd τ 85 = (vdW m r i (w, v, fv)).1 → rd τ 84 28 = (vdW m r i (w, v, fv)).2.2 → Fs σ τ → Q ((vdW m r i (w, v, fv)).2.1, τ)) → wp (fX11_vowsOfDay_L4 n v i σ) Q
  | 0, n, i, fv, v, w, σ, h, hw, ht, hfv, i0, i1, hn, hpot, v0, v1, hk => by
    cases n with
    | zero => omega
    | succ n =>
      rw [fX11_vowsOfDay_L4, hw, if_neg (by omega), wp_some]
      exact hk σ h hw hfv Fs.rf
  | r + 1, n, i, fv, v, w, σ, h, hw, ht, hfv, i0, i1, hn, hpot, v0, v1, hk => by
    have hW := h.wf
    obtain ⟨g, hL⟩ := h.lr
    have h87 := hW.2.2.2.1.1
    have fr := frN_r w
    have hw1 : w 1 ≤ 900000000 := by unfold pot at hpot; omega
    obtain ⟨l1, l2, l3, l4, l5⟩ := hW.2.2.2.1.2 i i0 (by omega)
    have cc : ∀ j : Int, 0 ≤ j → j < 4 → fX11_ofVow i j σ = some (w (151 + 4 * i + j)) := by
      intro j j0 j1
      unfold fX11_ofVow
      rw [hw, bw_id (z := 4 * i) (by omega) (by omega), bw_id (z := 151 + 4 * i) (by omega) (by omega), bw_id (z := 151 + 4 * i + j) (by omega) (by omega), grd_pos (by omega)]
    have c0 := cc 0 (by omega) (by omega)
    have c1 := cc 1 (by omega) (by omega)
    have c2 := cc 2 (by omega) (by omega)
    have c3 := cc 3 (by omega) (by omega)
    rw [Int.add_zero] at c0
    rw [show 151 + 4 * i + 1 = 152 + 4 * i by omega] at c1
    rw [show 151 + 4 * i + 2 = 153 + 4 * i by omega] at c2
    rw [show 151 + 4 * i + 3 = 154 + 4 * i by omega] at c3
    have hcw : fX11_canVow (w (152 + 4 * i)) (w (153 + 4 * i)) (w (154 + 4 * i)) σ = some (if w (68 + w (152 + 4 * i)) = -1 ∧ w (68 + w (153 + 4 * i)) = -1 then 1 else 0) := by
      rw [canVow_m hW hw]
      by_cases z : w (68 + w (152 + 4 * i)) = -1 ∧ w (68 + w (153 + 4 * i)) = -1
      · rw [if_pos z, if_pos ⟨⟨l2, l3, l4⟩, z, l5⟩]
      · rw [if_neg z, if_neg (fun y => z y.2.1)]
    cases n with
    | zero => omega
    | succ n =>
      rw [fX11_vowsOfDay_L4, hw, if_pos (by omega), c0, c1, c2, c3, wp_bind, wp_some, bw_id (z := i + 1) (by omega) (by omega)]
      rw [vdW] at hk
      simp only at hk
      by_cases hday : w (151 + 4 * i) = w 0
      · rw [if_pos hday, wp_bind, wp_some, wp_bind, wp_some, wp_bind, wp_some, hcw, wp_bind, wp_some]
        simp only [if_pos hday] at hk
        by_cases z : w (68 + w (152 + 4 * i)) = -1 ∧ w (68 + w (153 + 4 * i)) = -1
        · rw [if_pos z, if_neg (by decide), wp_bind, wp_some, wp_bind, wp_some, wp_bind, wp_some, wp_bind, bw_id (z := v + 1) (by omega) (by omega)]
          simp only [if_pos z] at hk
          refine wp_mono (vows_m hW hL hw l2 l3 l5 hw1) (fun q hq => ?_)
          have hpot2 := vowW_pot (t := m) (x := w (154 + 4 * i)) hW l2 l3 z.1
          have hq2 : rd q.2 85 = vowW m w (w (152 + 4 * i)) (w (153 + 4 * i)) (w (154 + 4 * i)) := hq.2.1.trans (vowW_t ht _ _ _ _)
          exact lines_m r n (i + 1) fv (v + 1) _ q.2 (h.vow l2 l3 l5 hw1) hq2 (by rw [hq.2.2 84 26 (by decide)]; exact ht) ((hq.2.2 84 28 (by decide)).trans hfv) (by omega) (by rw [vowW_lo hW l2 l3 (by omega)]; omega) (by omega) (by omega) (by omega) (by omega) (fun τ h1 h2 h3 h4 => hk τ h1 h2 h3 ((Fs.of hq.2.2 (by decide)).tr h4))
        · rw [if_neg z, if_pos rfl, wp_bind]
          simp only [if_neg z] at hk
          have hb3 := hW.1.2.2.2.2.2.2.2.2
          have hd := hW.1.2.2.2.2.2.2.1
          refine wp_mono (notes_m (x := 3) (y := i) (z := 0) hw hb3 (bw_id (by omega) (by omega)) rfl (bw_id (by omega) (by omega)) rfl) (fun q hq => ?_)
          have hq1 : rd q 85 = noteW m w 3 i 0 := hq.1.trans (noteW_t ht _ _ _ _)
          have e28 : rd q 84 28 = fv := (hq.2 84 28 (by decide)).trans hfv
          have hok : OKw m (noteW m w 3 i 0) := h.note rfl (bw_id (by omega) (by omega)) rfl
          have fin : ∀ v2 : Int, v2 = (if fv = -1 then i else fv) → wp (fX11_vowsOfDay_L4 n v (i + 1) (wr q 84 28 v2)) Q := by
            intro v2 hv2
            have hvn : bw v2 = v2 := by
              rw [hv2]
              split
              · exact bw_id (by omega) (by omega)
              · rw [← hfv, rd_bw]
            have hFs : Fs σ (wr q 84 28 v2) := fun c j hc hi => by
              rw [rd_wr, if_neg hi]
              exact hq.2 c j (fun y => hc (by have := List.mem_singleton.mp y; rw [this]; decide))
            refine lines_m r n (i + 1) v2 v _ (wr q 84 28 v2) hok ((wr_off 28 v2 (by decide)).trans hq1) (by rw [rq_i (by decide), hq.2 84 26 (by decide)]; exact ht) (rq_s.trans hvn) (by omega) (by rw [noteW_lo (by omega) (by omega) (by omega) (by omega)]; omega) (by omega) (by rw [note_pot hb3]; omega) (by omega) (by omega) (fun τ h1 h2 h3 h4 => ?_)
            rw [hv2] at h1 h2 h3 ⊢
            exact hk τ h1 h2 h3 (hFs.tr h4)
          by_cases h28 : fv = -1
          · rw [e28, if_pos h28]
            exact fin i (by rw [if_pos h28])
          · rw [e28, if_neg h28]
            exact fin fv (by rw [if_neg h28])
      · rw [if_neg hday]
        simp only [if_neg hday] at hk
        exact lines_m r n (i + 1) fv v w σ h hw ht hfv (by omega) (by omega) (by omega) hpot (by omega) (by omega) hk
