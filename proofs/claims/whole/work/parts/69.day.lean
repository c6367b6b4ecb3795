/-! weather, and a DAY's snow -/
theorem cell_c {c N : Nat} {σ : Sg} {i j cnt : Int} (hc : rd σ c 2 = cnt) (hi : 0 ≤ i ∧ i < cnt) (hj : 0 ≤ j ∧ j < 4) (hN : 4 * cnt ≤ (N : Int)) (hb : cnt ≤ 1000) : fX6_cell c N i j σ = some (rd σ (c + 1) (4 * i + j)) := by
  unfold fX6_cell
  rw [if_neg (by omega), hc, if_pos (by omega), if_neg (by omega), if_pos (by omega), bw_id (z := i * 4) (by omega) (by omega), bw_id (z := i * 4 + j) (by omega) (by omega), grd_pos (by omega), show i * 4 + j = 4 * i + j by omega]
theorem sumN_r2 {f : Int → Int} {k : Int} : ∀ n : Nat, (∀ i : Int, 0 ≤ i → i < n → 0 ≤ f i ∧ f i ≤ k) → 0 ≤ sumN f n ∧ sumN f n ≤ n * k
  | 0, _ => by simp [sumN]
  | n + 1, h => by
    have h1 := sumN_r2 n (fun i h1 h2 => h i h1 (by omega))
    have h2 := h n (by omega) (by omega)
    have h3 : ((n + 1 : Nat) : Int) * k = n * k + k := by rw [Int.natCast_add, Int.add_mul]; simp
    rw [sumN, h3]
    omega
def wxS (w : Int → Int) : Int → Int := fun i => w (215 + 2 * i)
def walkW (w : Int → Int) : Nat → Int → Int → Int
  | 0, _, _ => 0
  | n + 1, left, i => if left < wxS w i then w (216 + 2 * i) else walkW w n (left - wxS w i) (i + 1)
def weathW (w : Int → Int) (day : Int) : Int := if sumN (wxS w) (w 88).toNat = 0 then 0 else walkW w (w 88).toNat (day % sumN (wxS w) (w 88).toNat) 0
theorem wxS_r {w : Int → Int} (hW : Wf w) (n : Nat) (hn : (n : Int) ≤ w 88) : 0 ≤ sumN (wxS w) n ∧ sumN (wxS w) n ≤ 720 := by
  obtain ⟨-, -, -, -, hY, -⟩ := hW
  have h := sumN_r2 (f := wxS w) (k := 60) n (fun i h1 h2 => by have := (hY.2 i h1 (by omega)).1; unfold wxS; omega)
  omega
theorem walkW_r {w : Int → Int} (hW : Wf w) : ∀ (n : Nat) (left i : Int), 0 ≤ i → i + n ≤ w 88 → 0 ≤ walkW w n left i ∧ walkW w n left i ≤ 30
  | 0, _, _, _, _ => by rw [walkW]; omega
  | n + 1, left, i, h1, h2 => by
    have hY := hW.2.2.2.2.1.2 i h1 (by omega)
    rw [walkW]
    split
    · omega
    · exact walkW_r hW n _ _ (by omega) (by omega)
theorem weathW_r {w : Int → Int} (hW : Wf w) (d : Int) : 0 ≤ weathW w d ∧ weathW w d ≤ 30 := by
  have h := hW.2.2.2.2.1.1
  unfold weathW
  split
  · omega
  · exact walkW_r hW _ _ _ (by omega) (by omega)
theorem weather_c {m : Int} {w : Int → Int} {σ : Sg} {b : Nat} (h : CW m w σ b) {day : Int} (hd : 0 ≤ day ∧ day ≤ 30000) : fX9_weatherOf b day σ = some (weathW w day) := by
  have hW := h.1
  have h88 := hW.2.2.2.2.1.1
  obtain ⟨-, ⟨-, t5, t6⟩, -⟩ := h.2.2.2.2.1
  have t5 : rd σ (b + 19) 2 = w 88 := t5
  have c0 : ∀ i : Int, 0 ≤ i → i < w 88 → fX6_cell (b + 19) 48 i 0 σ = some (wxS w i) := fun i i0 i1 => by
    rw [cell_c t5 ⟨i0, i1⟩ (by omega) (by omega) (by omega), Int.add_zero]
    exact congrArg some (t6 i i0 i1).1
  have c1 : ∀ i : Int, 0 ≤ i → i < w 88 → fX6_cell (b + 19) 48 i 1 σ = some (w (216 + 2 * i)) := fun i i0 i1 => by
    rw [cell_c t5 ⟨i0, i1⟩ (by omega) (by omega) (by omega)]
    exact congrArg some (t6 i i0 i1).2
  have hx := wxS_r hW (w 88).toNat (by omega)
  have s1 : ∀ (k : Int → Option Int) (r n : Nat) (i : Int), 0 ≤ i → i + r = w 88 → r < n → fX9_weatherOf_L4 b σ k day n (sumN (wxS w) i.toNat) i = k (sumN (wxS w) (w 88).toNat) := by
    intro k r
    induction r with
    | zero =>
      intro n i i0 i1 hn
      cases n with
      | zero => omega
      | succ n => rw [fX9_weatherOf_L4, t5, if_neg (by omega), show i.toNat = (w 88).toNat by omega]
    | succ r ih =>
      intro n i i0 i1 hn
      cases n with
      | zero => omega
      | succ n =>
        have hi := wxS_r hW (i.toNat + 1) (by omega)
        have hS : sumN (wxS w) (i + 1).toNat = sumN (wxS w) i.toNat + wxS w i := by rw [show (i + 1).toNat = i.toNat + 1 by omega, sumN, show ((i.toNat : Nat) : Int) = i by omega]
        rw [show i.toNat + 1 = (i + 1).toNat by omega] at hi
        rw [fX9_weatherOf_L4, t5, if_pos (by omega), c0 i i0 (by omega)]
        show fX9_weatherOf_L4 b σ k day n (bw (sumN (wxS w) i.toNat + wxS w i)) (bw (i + 1)) = _
        rw [← hS, bw_id (z := sumN (wxS w) (i + 1).toNat) (by omega) (by omega), bw_id (z := i + 1) (by omega) (by omega)]
        exact ih n (i + 1) (by omega) (by omega) (by omega)
  have s2 : ∀ (r n : Nat) (left i : Int), 0 ≤ i → i + r = w 88 → r < n → 0 ≤ left → left ≤ 720 → fX9_weatherOf_L46 b σ (fun v8_4 => (fX6_cell (b + 19) 48 v8_4 1 σ).bind fun r9 => some r9) n left i = some (walkW w r left i) := by
    intro r
    induction r with
    | zero =>
      intro n left i i0 i1 hn l0 l1
      cases n with
      | zero => omega
      | succ n => rw [fX9_weatherOf_L46, t5, if_neg (by omega), walkW]
    | succ r ih =>
      intro n left i i0 i1 hn l0 l1
      cases n with
      | zero => omega
      | succ n =>
        have hr : 1 ≤ wxS w i ∧ wxS w i ≤ 60 := (hW.2.2.2.2.1.2 i i0 (by omega)).1
        rw [fX9_weatherOf_L46, t5, if_pos (by omega), c0 i i0 (by omega), walkW]
        show (if bw (left - wxS w i) < 0 then (fX6_cell (b + 19) 48 i 1 σ).bind (fun r9 => some r9) else fX9_weatherOf_L46 b σ _ n (bw (left - wxS w i)) (bw (i + 1))) = _
        rw [bw_id (z := left - wxS w i) (by omega) (by omega), bw_id (z := i + 1) (by omega) (by omega)]
        by_cases hl : left < wxS w i
        · rw [if_pos (by omega), if_pos hl, c1 i i0 (by omega)]; rfl
        · rw [if_neg (by omega), if_neg hl]
          exact ih n _ (i + 1) (by omega) (by omega) (by omega) (by omega) (by omega)
  unfold fX9_weatherOf weathW
  have := s1 (fun v3_2 => if 0 < v3_2 then grd (¬ v3_2 = 0) (fX9_weatherOf_L46 b σ (fun v8_4 => (fX6_cell (b + 19) 48 v8_4 1 σ).bind fun r9 => some r9) FU (trm day v3_2) 0) else some 0) (w 88).toNat FU 0 (by omega) (by omega) (by unfold FU; omega)
  refine Eq.trans this ?_
  by_cases hz : sumN (wxS w) (w 88).toNat = 0
  · rw [if_pos hz]
    show (if 0 < sumN (wxS w) (w 88).toNat then _ else _) = _
    rw [if_neg (by omega)]
  · rw [if_neg hz]
    show (if 0 < sumN (wxS w) (w 88).toNat then _ else _) = _
    rw [if_pos (by omega), grd_pos hz, trm_pos (by omega) (by omega) (by omega) (by omega)]
    have h1 := Int.emod_nonneg day hz
    have h2 := Int.emod_lt_of_pos day (show 0 < sumN (wxS w) (w 88).toNat by omega)
    exact s2 (w 88).toNat FU _ 0 (by omega) (by omega) (by unfold FU; omega) h1 (by omega)
theorem weather_m {w : Int → Int} {σ : Sg} (hW : Wf w) (hw : rd σ 85 = w) {day : Int} (hd : 0 ≤ day ∧ day ≤ 30000) : fX11_weatherOf day σ = some (weathW w day) := by
  have h88 := hW.2.2.2.2.1.1
  have hx := wxS_r hW (w 88).toNat (by omega)
  have s1 : ∀ (k : Int → Option Int) (r n : Nat) (i : Int), 0 ≤ i → i + r = w 88 → r < n → fX11_weatherOf_L4 σ k day n (sumN (wxS w) i.toNat) i = k (sumN (wxS w) (w 88).toNat) := by
    intro k r
    induction r with
    | zero =>
      intro n i i0 i1 hn
      cases n with
      | zero => omega
      | succ n => rw [fX11_weatherOf_L4, hw, if_neg (by omega), show i.toNat = (w 88).toNat by omega]
    | succ r ih =>
      intro n i i0 i1 hn
      cases n with
      | zero => omega
      | succ n =>
        have hi := wxS_r hW (i.toNat + 1) (by omega)
        have hS : sumN (wxS w) (i + 1).toNat = sumN (wxS w) i.toNat + w (215 + 2 * i) := by rw [show (i + 1).toNat = i.toNat + 1 by omega, sumN, show ((i.toNat : Nat) : Int) = i by omega]; rfl
        rw [show i.toNat + 1 = (i + 1).toNat by omega] at hi
        rw [fX11_weatherOf_L4, hw, if_pos (by omega), bw_id (z := 2 * i) (by omega) (by omega), bw_id (z := 215 + 2 * i) (by omega) (by omega), grd_pos (by omega), ← hS, bw_id (z := sumN (wxS w) (i + 1).toNat) (by omega) (by omega), bw_id (z := i + 1) (by omega) (by omega)]
        exact ih n (i + 1) (by omega) (by omega) (by omega)
  have s2 : ∀ (r n : Nat) (left i : Int), 0 ≤ i → i + r = w 88 → r < n → 0 ≤ left → left < sumN (wxS w) (w 88).toNat - sumN (wxS w) i.toNat → fX11_weatherOf_L49 σ n left i = some (walkW w r left i) := by
    intro r
    induction r with
    | zero =>
      intro n left i i0 i1 hn l0 l1
      rw [show i.toNat = (w 88).toNat by omega] at l1
      omega
    | succ r ih =>
      intro n left i i0 i1 hn l0 l1
      cases n with
      | zero => omega
      | succ n =>
        have hr : 1 ≤ w (215 + 2 * i) ∧ w (215 + 2 * i) ≤ 60 := (hW.2.2.2.2.1.2 i i0 (by omega)).1
        have hi := wxS_r hW i.toNat (by omega)
        have hS : sumN (wxS w) (i + 1).toNat = sumN (wxS w) i.toNat + w (215 + 2 * i) := by rw [show (i + 1).toNat = i.toNat + 1 by omega, sumN, show ((i.toNat : Nat) : Int) = i by omega]; rfl
        rw [fX11_weatherOf_L49, hw, bw_id (z := 2 * i) (by omega) (by omega), bw_id (z := 215 + 2 * i) (by omega) (by omega), bw_id (z := 215 + 2 * i + 1) (by omega) (by omega), grd_pos (by omega), walkW]
        by_cases hl : left < w (215 + 2 * i)
        · rw [if_pos hl, if_pos (show left < wxS w i from hl), grd_pos (by omega), show 215 + 2 * i + 1 = 216 + 2 * i by omega]
        · rw [if_neg hl, if_neg (show ¬ left < wxS w i from hl), grd_pos (by omega), bw_id (z := left - w (215 + 2 * i)) (by omega) (by omega), bw_id (z := i + 1) (by omega) (by omega)]
          exact ih n _ (i + 1) (by omega) (by omega) (by omega) (by omega) (by rw [hS]; omega)
  unfold fX11_weatherOf weathW
  have := s1 (fun v2_2 => if v2_2 = 0 then some 0 else grd (¬ v2_2 = 0) (fX11_weatherOf_L49 σ FU (trm day v2_2) 0)) (w 88).toNat FU 0 (by omega) (by omega) (by unfold FU; omega)
  refine Eq.trans this ?_
  by_cases hz : sumN (wxS w) (w 88).toNat = 0
  · rw [if_pos hz, if_pos hz]
  · rw [if_neg hz, if_neg hz, grd_pos hz, trm_pos (by omega) (by omega) (by omega) (by omega)]
    have h1 := Int.emod_nonneg day hz
    have h2 := Int.emod_lt_of_pos day (show 0 < sumN (wxS w) (w 88).toNat by omega)
    exact s2 (w 88).toNat FU _ 0 (by omega) (by omega) (by unfold FU; omega) h1 (by rw [show ((0 : Int)).toNat = 0 from rfl, sumN]; omega)
def snowsW (w : Int → Int) : Int → Int := fun j => if isF w (j - 4) then min 99 (w j + weathW w (w 0)) else w j
theorem snowsW_o {w : Int → Int} {j : Int} (h : j < 4 ∨ 60 ≤ j) : snowsW w j = w j := if_neg (fun z => by have := isF_b z; omega)
theorem snows_c {m : Int} {w : Int → Int} {σ : Sg} {b : Nat} (h : CW m w σ b) {k : Sg → Option (Int × Sg)} {Q : Int × Sg → Prop} (hk : ∀ τ, CW m (snowsW w) τ b → Fr [b + 1] σ τ → wp (k τ) Q) : wp (fX9_passDay_L11 b k (weathW w (w 0)) FU 0 σ) Q := by
  have hr := weathW_r h.1 (w 0)
  have fin : ∀ τ, Fr [b + 1] σ τ → (∀ f : Int, 0 ≤ f → f < 56 → rd τ (b + 1) f = min 99 (rd σ (b + 1) f + weathW w (w 0))) → wp (k τ) Q := by
    intro τ hF hs
    have h2 := h.2.2.1
    refine hk τ (CG_dyn h (fun j hj => snowsW_o (by omega)) (fun i i0 i1 i8 i25 i26 j => ?_) (fun i i0 i4 => hF b i (by simp <;> omega)) ?_ ?_ ?_ (fun f hf => ?_) (fun p hp => ?_) ?_ ?_ ?_ (fun f hf => ?_) (fun f a1 a2 => ?_) (fun p hp => ?_) ?_) hF
    · unfold vw
      split
      · rfl
      · exact hF _ _ (by simp; omega)
    · rw [snowsW_o (by decide)]; exact h.1.1.2.2.2.2.2.2.1
    · rw [snowsW_o (by decide)]; exact h.1.1.2.2.2.2.2.2.2.1
    · rw [snowsW_o (by decide)]; exact h.1.1.2.2.2.2.2.2.2.2
    · have := h.1.2.1 f hf
      unfold snowsW
      rw [if_pos (by rw [show 4 + f - 4 = f by omega]; exact hf)]
      omega
    · have := hp.1
      have := hp.2
      have := h.1.1.2.2.2.2.2.1
      rw [snowsW_o (by omega)]
      exact (h.1.2.2.1 p hp).2.2.2.2.1
    · rw [snowsW_o (by decide)]; exact (hF b 5 (by simp <;> omega)).trans h.2.1.2.2.2.2.2.1
    · rw [snowsW_o (by decide)]; exact (hF b 6 (by simp <;> omega)).trans h.2.1.2.2.2.2.2.2.1
    · rw [snowsW_o (by decide)]; exact (hF b 7 (by simp <;> omega)).trans h.2.1.2.2.2.2.2.2.2
    · have hfb := isF_b hf
      show rd τ (b + 1) f = _
      rw [hs f (by omega) (by omega)]
      unfold snowsW
      rw [if_pos (by rw [show 4 + f - 4 = f by omega]; exact hf), show rd σ (b + 1) f = w (4 + f) from h2.1 f hf]
    · have := h2.2 f a1 a2
      show 0 ≤ rd τ (b + 1) f ∧ rd τ (b + 1) f ≤ 99
      rw [hs f a1 a2]
      have h3 : 0 ≤ rd σ (b + 1) f ∧ rd σ (b + 1) f ≤ 99 := this
      omega
    · have := hp.1
      have := hp.2
      have := h.1.1.2.2.2.2.2.1
      rw [snowsW_o (by omega)]
      exact (hF (b + 8) p (by simp)).trans (h.2.2.2.1.2 p hp).2.2.2.2.1
    · exact RB_congr h.2.2.2.2.2.1 (snowsW_o (by decide)) h.1.1.2.2.2.2.2.2.2.2.2 (fun j a1 a2 => snowsW_o (by omega)) (fun i => hF (b + 25) i (by simp)) (fun i => hF (b + 26) i (by simp))
  by_cases hz : weathW w (w 0) = 0
  · have : fX9_passDay_L11 b k (weathW w (w 0)) FU 0 σ = k σ := by
      rw [hz]
      unfold FU
      rw [fX9_passDay_L11, if_pos (by decide), if_neg (by decide)]
    rw [this]
    refine fin σ Fr.rf (fun f a1 a2 => ?_)
    have h3 : 0 ≤ rd σ (b + 1) f ∧ rd σ (b + 1) f ≤ 99 := h.2.2.1.2 f a1 a2
    omega
  · refine loopM (F := fun n s => fX9_passDay_L11 b k (weathW w (w 0)) n s.1 s.2) (fun s : Int × Sg => (0 ≤ s.1 ∧ s.1 ≤ 56) ∧ Fr [b + 1] σ s.2 ∧ ∀ f : Int, 0 ≤ f → f < 56 → rd s.2 (b + 1) f = if f < s.1 then min 99 (rd σ (b + 1) f + weathW w (w 0)) else rd σ (b + 1) f) (fun s => (56 - s.1).toNat) ?_ FU (0, σ) (by unfold FU; simp only; omega) ⟨by simp only; omega, Fr.rf, fun f a1 a2 => by simp only; rw [if_neg (by omega)]⟩
    rintro n ⟨i, τ⟩ ⟨hi, hF, hy⟩ ih
    show wp (fX9_passDay_L11 b k (weathW w (w 0)) (n + 1) i τ) Q
    simp only at hi hF hy
    rw [fX9_passDay_L11]
    by_cases h56 : i < 56
    · have e1 : rd τ (b + 1) i = rd σ (b + 1) i := by rw [hy i hi.1 h56, if_neg (by omega)]
      have h3 : 0 ≤ rd σ (b + 1) i ∧ rd σ (b + 1) i ≤ 99 := h.2.2.1.2 i hi.1 h56
      rw [if_pos h56, if_pos (by omega), grd_pos (by omega), grd_pos (by omega), e1, min_eq, bw_id (z := rd σ (b + 1) i + weathW w (w 0)) (by omega) (by omega), bw_id (z := i + 1) (by omega) (by omega)]
      refine ih (i + 1, wr τ (b + 1) i (min (rd σ (b + 1) i + weathW w (w 0)) 99)) ⟨by simp only; omega, hF.wr (by simp), fun f a1 a2 => ?_⟩ (by simp only; omega)
      show rd (wr τ (b + 1) i (min (rd σ (b + 1) i + weathW w (w 0)) 99)) (b + 1) f = if f < i + 1 then _ else _
      rw [rd_wr]
      by_cases e : f = i
      · subst e
        rw [if_pos ⟨rfl, rfl⟩, if_pos (by omega), bw_id (by omega) (by omega)]
        omega
      · rw [if_neg (fun z => e z.2), hy f a1 a2]
        by_cases e3 : f < i
        · rw [if_pos e3, if_pos (by omega)]
        · rw [if_neg e3, if_neg (by omega)]
    · rw [if_neg h56]
      exact fin τ hF (fun f a1 a2 => by rw [hy f a1 a2, if_pos (by omega)])
theorem snows_m {w : Int → Int} {σ : Sg} (hW : Wf w) (hw : rd σ 85 = w) : wp (fX11_snows σ) (fun τ => rd τ 85 = snowsW w ∧ Fr [85] σ τ) := by
  have hr := weathW_r hW (w 0)
  have hd := hW.1.2.2.2.2.2.2.1
  unfold fX11_snows
  rw [wp_bind, hw, weather_m hW hw (by omega), wp_some]
  refine loopM (F := fun n s => fX11_snows_L13 (weathW w (w 0)) n s.1 s.2) (fun s : Int × Sg => (0 ≤ s.1 ∧ s.1 ≤ 64) ∧ Fr [85] σ s.2 ∧ ∀ j : Int, rd s.2 85 j = if j < 4 + s.1 then snowsW w j else w j) (fun s => (64 - s.1).toNat) ?_ FU (0, σ) (by unfold FU; simp only; omega) ⟨by simp only; omega, Fr.rf, fun j => by simp only; rw [hw]; split; exact (snowsW_o (by omega)).symm; rfl⟩
  rintro n ⟨i, τ⟩ ⟨hi, hF, hy⟩ ih
  show wp (fX11_snows_L13 (weathW w (w 0)) (n + 1) i τ) _
  simp only at hi hF hy
  rw [fX11_snows_L13]
  by_cases h64 : i < 64
  · have hon : fX11_isField i τ = if isF w i then 1 else 0 := by
      rw [← isField_m hW hw i]
      have hh : ∀ j : Int, 60 < j → rd τ 85 j = rd σ 85 j := by
        intro j hj
        rw [hy j, hw]
        split
        · exact snowsW_o (by omega)
        · rfl
      unfold fX11_isField fX11_isOn
      rw [hh 80 (by decide), hh 81 (by decide)]
    rw [if_pos h64, hon, bw_id (z := i + 1) (by omega) (by omega), bw_id (z := 4 + i) (by omega) (by omega)]
    by_cases hf : isF w i
    · have hwi := hW.2.1 i hf
      have ew : rd τ 85 (4 + i) = w (4 + i) := by rw [hy, if_neg (by omega)]
      rw [if_pos hf, if_neg (by decide), grd_pos (by omega), grd_pos (by omega), ew, les_eq, bw_id (z := w (4 + i) + weathW w (w 0)) (by omega) (by omega)]
      refine ih (i + 1, wr τ 85 (4 + i) (min 99 (w (4 + i) + weathW w (w 0)))) ⟨by simp only; omega, hF.wr (by decide), fun j => ?_⟩ (by simp only; omega)
      show rd (wr τ 85 (4 + i) (min 99 (w (4 + i) + weathW w (w 0)))) 85 j = if j < 4 + (i + 1) then _ else _
      rw [wr_row, bw_id (z := min 99 (w (4 + i) + weathW w (w 0))) (by omega) (by omega)]
      by_cases e : j = 4 + i
      · subst e
        rw [upz_s, if_pos (by omega), snowsW, if_pos (by rw [show 4 + i - 4 = i by omega]; exact hf)]
      · rw [upz_n e, hy]
        by_cases e3 : j < 4 + i
        · rw [if_pos e3, if_pos (by omega)]
        · rw [if_neg e3, if_neg (by omega)]
    · rw [if_neg hf, if_pos rfl]
      refine ih (i + 1, τ) ⟨by simp only; omega, hF, fun j => ?_⟩ (by simp only; omega)
      show rd τ 85 j = if j < 4 + (i + 1) then _ else _
      rw [hy j]
      by_cases e : j = 4 + i
      · subst e
        rw [if_neg (by omega), if_pos (by omega), snowsW, if_neg (by rw [show 4 + i - 4 = i by omega]; exact hf)]
      · by_cases e3 : j < 4 + i
        · rw [if_pos e3, if_pos (by omega)]
        · rw [if_neg e3, if_neg (by omega)]
  · rw [if_neg h64, wp_some]
    refine ⟨?_, hF⟩
    funext j
    rw [hy j]
    split
    · rfl
    · exact (snowsW_o (by omega)).symm
