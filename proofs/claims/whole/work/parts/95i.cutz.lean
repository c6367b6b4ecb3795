/-! cut: the class, all of it -/
def S0c (a : Int) : Cst := (upz (upz (fun _ => -1) (2 * a + 1) (2 * a + 1)) (2 * a) (2 * a + 1), upz (fun _ => 0) 0 (2 * a + 1), 1)
theorem S0c_I {w gs : Int → Int} {a : Int} (ha : isF w a) : CIs w gs a (S0c a) := by
  have ab := isF_b ha
  unfold S0c
  refine ⟨fun i i0 i1 => ?_, fun x => ?_, fun i i0 i1 => ?_, ⟨?_, ?_⟩, ?_, ?_⟩
  · simp only at i1 ⊢
    rw [show i = 0 by omega, upz_s, upz_n (by omega), upz_s]
    exact ⟨by rw [show (2 * a + 1) / 2 = a by omega]; exact ha, by omega, by omega⟩
  · simp only
    by_cases e1 : x = 2 * a
    · exact Or.inr (Or.inl e1)
    · by_cases e2 : x = 2 * a + 1
      · exact Or.inr (Or.inr ⟨0, by omega, by omega, by rw [upz_s, e2]⟩)
      · left
        rw [upz_n e1, upz_n e2]
  · simp only at i1; omega
  · simp only; rw [upz_s]
  · simp only; omega
  · show (1 : Int) ≤ cnF (upz (upz (fun _ => -1) (2 * a + 1) (2 * a + 1)) (2 * a) (2 * a + 1)) 112
    have h0 : 0 ≤ cnF (fun _ => -1) 112 := (cnS_r ((fun _ => -1), (fun _ => 0), 0) 112).1
    have h1 := cnF_up (f := fun _ => -1) (x := 2 * a + 1) (e := 2 * a + 1) (k := 112) (by omega) (by omega) rfl (by omega)
    have h2 := cnF_up (f := upz (fun _ => -1) (2 * a + 1) (2 * a + 1)) (x := 2 * a) (e := 2 * a + 1) (k := 112) (by omega) (by omega) (by rw [upz_n (by omega)]) (by omega)
    omega
  · simp only
    rw [upz_s]; omega
def srS (w : Int → Int) (a b : Int) (T : Tst) : Cst := bfD w T.1 T.2 (2 * b) 113 0 (S0c a)
theorem srS_I {w : Int → Int} {a b : Int} {T : Tst} (ha : isF w a) : CIs w T.2 a (srS w a b T) := CI_bf 113 0 _ (S0c_I ha) (Int.le_refl _)
theorem search_c {m : Int} {w : Int → Int} {T : Tst} {σ : Sg} {a b : Int} (hC : CW m w σ 1) (hT : THc σ T) (hg : ∀ k, T.2 k = 0 ∨ T.2 k = 1) (ha : isF w a) (hb : isF w b) : wp (fX8_search 1 a b σ) (fun q => Fr [74, 75, 77] σ q.2 ∧ q.1 = (if (srS w a b T).1 (2 * b) = -1 then 0 else 1) ∧ CRc q.2 (srS w a b T)) := by
  have ab := isF_b ha
  have bb := isF_b hb
  unfold fX8_search
  have go : ∀ (k24 : Sg → Option (Int × Sg)) (Q : Int × Sg → Prop), (∀ τ, Fr [77] σ τ → (∀ x, 0 ≤ x → x < 112 → rd τ 77 x = -1) → wp (k24 τ) Q) → ∀ (r n : Nat) (i : Int) (ρ : Sg), i + r = 112 → 0 ≤ i → r < n → Fr [77] σ ρ → (∀ j, 0 ≤ j → j < i → rd ρ 77 j = -1) → wp (fX8_search_L3 1 k24 a b n i ρ) Q := by
    intro k24 Q hk r
    induction r with
    | zero =>
      intro n i ρ hi i0 hn hG hz
      cases n with
      | zero => omega
      | succ n =>
        rw [fX8_search_L3, if_neg (by omega)]
        exact hk ρ hG (fun x x0 x1 => hz x x0 (by omega))
    | succ r ih =>
      intro n i ρ hi i0 hn hG hz
      cases n with
      | zero => omega
      | succ n =>
        rw [fX8_search_L3, if_pos (by omega), grd_pos (by omega), bw_id (z := i + 1) (by omega) (by omega)]
        refine ih n (i + 1) _ (by omega) (by omega) (by omega) (hG.wr (by decide)) (fun j j0 j1 => ?_)
        by_cases e : j = i
        · rw [e, rq_s]; rfl
        · rw [rq_i e]; exact hz j j0 (by omega)
  refine go _ _ (fun τ hτ hz => ?_) 112 FU 0 σ (by omega) (by omega) (by unfold FU; omega) Fr.rf (fun j j0 j1 => by omega)
  rw [bw_id (z := 2 * a) (by omega) (by omega), bw_id (z := 2 * a + 1) (by omega) (by omega), grd_pos (by omega), grd_pos (by omega)]
  have hF : Fr [74, 75, 77] σ (wr (wr (wr (wr τ 77 (2 * a + 1) (2 * a + 1)) 77 (2 * a) (2 * a + 1)) 75 0 (2 * a + 1)) 74 5 1) := ((((hτ.mo (by decide)).wr (by decide)).wr (by decide)).wr (by decide)).wr (by decide)
  refine bfsD_c hC hT hg hb 113 FU 0 _ (S0c a) (by omega) (by omega) (by unfold FU; omega) hF ⟨fun x x0 x1 => ?_, fun i i0 i1 => ?_, ?_⟩ (S0c_I ha) (fun ρ hρ hR => ?_)
  · rw [rq_c (by decide), rq_c (by decide), wr_row, wr_row, bw_id (z := 2 * a + 1) (by omega) (by omega)]
    unfold S0c
    show upz (upz _ _ _) _ _ x = upz (upz _ _ _) _ _ x
    unfold upz
    rw [hz x x0 x1]
  · unfold S0c at i1 ⊢
    simp only at i1
    rw [show i = 0 by omega, rq_c (by decide), rq_s, bw_id (by omega) (by omega)]
    show 2 * a + 1 = upz (fun _ => 0) 0 (2 * a + 1) 0
    rw [upz_s]
  · rw [rq_s]; rfl
  · show wp (grd _ _) _
    rw [bw_id (z := 2 * b) (by omega) (by omega), grd_pos (by omega), hR.1 _ (by omega) (by omega)]
    show wp (if (srS w a b T).1 (2 * b) = -1 then _ else _) _
    by_cases c : (srS w a b T).1 (2 * b) = -1
    · rw [if_pos c, wp_some, if_pos c]
      exact ⟨hρ, rfl, hR⟩
    · rw [if_neg c, wp_some, if_neg c]
      exact ⟨hρ, rfl, hR⟩
def nxT (w : Int → Int) (a b : Int) (T : Tst) : Tst := pthS (srS w a b T).1 (2 * a + 1) 111 (2 * b) T
def ctS (w : Int → Int) (a b : Int) : Nat → Tst → Int → Int
  | 0, _, c => c
  | r + 1, T, c => if (srS w a b T).1 (2 * b) = -1 then c else ctS w a b r (nxT w a b T) (c + 1)
theorem found_i {w : Int → Int} {a b : Int} {T : Tst} (ha : isF w a) (hab : a ≠ b) (h : (srS w a b T).1 (2 * b) ≠ -1) : ∃ i, 0 ≤ i ∧ i < (srS w a b T).2.2 ∧ (srS w a b T).2.1 i = 2 * b ∧ i ≤ 111 := by
  have hI := srS_I (b := b) (T := T) ha
  have hn := CI_n hI
  rcases hI.2.1 (2 * b) with z | z | ⟨i, z1, z2, z3⟩
  · exact absurd z h
  · omega
  · exact ⟨i, z1, z2, z3, by omega⟩
theorem nxT_P {w : Int → Int} {a b : Int} {T : Tst} (h80 : w 80 ≤ 8) (ha : isF w a) (hab : a ≠ b) (hP : PIs w a T) (h : (srS w a b T).1 (2 * b) ≠ -1) : PIs w a (nxT w a b T) ∧ g4S a (nxT w a b T).2 = g4S a T.2 + 1 := by
  obtain ⟨i, i0, i1, i2, i3⟩ := found_i ha hab h
  have p := path_g h80 ha (srS_I (b := b) (T := T) ha) 111 i T i0 i1 i3 hP
  rw [i2] at p
  exact ⟨p.1, p.2.2 (by omega) (fun _ _ _ => rfl)⟩
theorem cutL_c {m : Int} {w : Int → Int} {σ0 : Sg} {a b : Int} (hC : CW m w σ0 1) (ha : isF w a) (hb : isF w b) (hab : a ≠ b) : ∀ (r n : Nat) (c : Int) (ρ : Sg) (T : Tst), c + r = 4 → 0 ≤ c → r < n → Fr [74, 75, 77, 78, 79] σ0 ρ → THc ρ T → PIs w a T → wp (fX8_fewestToCut_L55 1 a b n c ρ) (fun q => q.1 = ctS w a b r T c ∧ Fr [74, 75, 77, 78, 79] σ0 q.2)
  | 0, n, c, ρ, T, hc, c0, hn, hF, hT, hP => by
    cases n with
    | zero => omega
    | succ n =>
      rw [fX8_fewestToCut_L55, if_neg (by omega), wp_some, ctS]
      exact ⟨by show (4 : Int) = c; omega, hF⟩
  | r + 1, n, c, ρ, T, hc, c0, hn, hF, hT, hP => by
    have h80 := hC.1.1.1.2
    have bb := isF_b hb
    cases n with
    | zero => omega
    | succ n =>
      rw [fX8_fewestToCut_L55, if_pos (by omega), wp_bind]
      refine wp_mono (search_c (hC.fr hF (by decide)) hT hP.2.1 ha hb) (fun q hq => ?_)
      obtain ⟨q1, q2, q3⟩ := hq
      have hT2 : THc q.2 T := ⟨fun f x y => (q1 78 f (by decide)).trans (hT.1 f x y), fun k x y => (q1 79 k (by decide)).trans (hT.2 k x y)⟩
      have hF2 : Fr [74, 75, 77, 78, 79] σ0 q.2 := hF.tr (q1.mo (by decide))
      rw [q2, ctS]
      by_cases z : (srS w a b T).1 (2 * b) = -1
      · rw [if_pos z, if_pos p00, wp_some, if_pos z]
        exact ⟨rfl, hF2⟩
      · obtain ⟨i, i0, i1, i2, i3⟩ := found_i ha hab z
        have wy := way_c ha (srS_I (b := b) (T := T) ha) q3.1 111 FU i 0 q.2 T i0 i1 i3 (by omega) (by omega) (by unfold FU; omega) Fr.rf hT2
        rw [i2] at wy
        rw [if_neg z, if_neg n10, wp_bind, if_neg z]
        unfold fX8_addWay
        rw [bw_id (z := 2 * b) (by omega) (by omega)]
        refine wp_mono wy (fun τ hτ => ?_)
        rw [bw_id (z := c + 1) (by omega) (by omega)]
        exact cutL_c hC ha hb hab r n (c + 1) τ _ (by omega) (by omega) (by omega) (hF2.tr (hτ.1.mo (by decide))) hτ.2 (nxT_P h80 ha hab hP z).1
def T0c : Tst := (fun _ => 0, fun _ => 0)
theorem T0c_P {w : Int → Int} {a : Int} : PIs w a T0c := ⟨fun _ _ _ _ _ _ => rfl, fun _ => Or.inl rfl, fun _ => Or.inl rfl⟩
theorem cut_c {m : Int} {w : Int → Int} {σ : Sg} {a b : Int} (hC : CW m w σ 1) (ha : isF w a) (hb : isF w b) (hab : a ≠ b) : wp (fX8_fewestToCut 1 a b σ) (fun q => q.1 = ctS w a b 4 T0c 0 ∧ Fr [74, 75, 77, 78, 79] σ q.2) := by
  have go4 : ∀ (f : Int) (k3 : Int → Sg → Option (Int × Sg)) (Q : Int × Sg → Prop) (σ1 : Sg), 0 ≤ f → f < 56 → (∀ τ, Fr [79] σ1 τ → (∀ d, 0 ≤ d → d < 4 → rd τ 79 (4 * f + d) = 0) → (∀ k, k < 4 * f → rd τ 79 k = rd σ1 79 k) → wp (k3 (f + 1) τ) Q) → ∀ (r n : Nat) (d : Int) (ρ : Sg), d + r = 4 → 0 ≤ d → r < n → Fr [79] σ1 ρ → (∀ j, 0 ≤ j → j < d → rd ρ 79 (4 * f + j) = 0) → (∀ k, k < 4 * f → rd ρ 79 k = rd σ1 79 k) → wp (fX8_fewestToCut_L21 1 k3 a b f n d ρ) Q := by
    intro f k3 Q σ1 f0 f1 hk r
    induction r with
    | zero =>
      intro n d ρ hd d0 hn hG hz hl
      cases n with
      | zero => omega
      | succ n =>
        rw [fX8_fewestToCut_L21, if_neg (by omega), bw_id (z := f + 1) (by omega) (by omega)]
        exact hk ρ hG (fun j j0 j1 => hz j j0 (by omega)) hl
    | succ r ih =>
      intro n d ρ hd d0 hn hG hz hl
      cases n with
      | zero => omega
      | succ n =>
        rw [fX8_fewestToCut_L21, if_pos (by omega), bw_id (z := 4 * f) (by omega) (by omega), bw_id (z := 4 * f + d) (by omega) (by omega), grd_pos (by omega), bw_id (z := d + 1) (by omega) (by omega), nz01.1]
        refine ih n (d + 1) _ (by omega) (by omega) (by omega) (hG.wr (by decide)) (fun j j0 j1 => ?_) (fun k hk2 => ?_)
        · by_cases e : j = d
          · rw [e, rq_s]; rfl
          · rw [rq_i (by omega)]; exact hz j j0 (by omega)
        · rw [rq_i (by omega)]; exact hl k hk2
  have go : ∀ (r n : Nat) (f : Int) (ρ : Sg), f + r = 56 → 0 ≤ f → r < n → Fr [78, 79] σ ρ → (∀ j, 0 ≤ j → j < f → rd ρ 78 j = 0) → (∀ k, 0 ≤ k → k < 4 * f → rd ρ 79 k = 0) → wp (fX8_fewestToCut_L3 1 (fun s3 => fX8_fewestToCut_L55 1 a b FU 0 s3) a b n f ρ) (fun q => q.1 = ctS w a b 4 T0c 0 ∧ Fr [74, 75, 77, 78, 79] σ q.2) := by
    intro r
    induction r with
    | zero =>
      intro n f ρ hf f0 hn hG hz hl
      cases n with
      | zero => omega
      | succ n =>
        rw [fX8_fewestToCut_L3, if_neg (by omega)]
        exact cutL_c hC ha hb hab 4 FU 0 ρ T0c (by omega) (by omega) (by unfold FU; omega) (hG.mo (by decide)) ⟨fun f x y => hz f x (by omega), fun k x y => hl k x (by omega)⟩ T0c_P
    | succ r ih =>
      intro n f ρ hf f0 hn hG hz hl
      cases n with
      | zero => omega
      | succ n =>
        rw [fX8_fewestToCut_L3, if_pos (by omega), grd_pos (by omega), nz01.1]
        have g1 : Fr [78, 79] σ (wr ρ 78 f 0) := hG.wr (by decide)
        refine go4 f _ _ (wr ρ 78 f 0) f0 (by omega) (fun τ hτ h4 hlo => ?_) 4 FU 0 _ (by omega) (by omega) (by unfold FU; omega) Fr.rf (fun j j0 j1 => by omega) (fun _ _ => rfl)
        refine ih n (f + 1) τ (by omega) (by omega) (by omega) (g1.tr (hτ.mo (by decide))) (fun j j0 j1 => ?_) (fun k k0 k1 => ?_)
        · rw [hτ 78 _ (by decide)]
          by_cases e : j = f
          · rw [e, rq_s]; rfl
          · rw [rq_i e]; exact hz j j0 (by omega)
        · by_cases e : k < 4 * f
          · rw [hlo k e, rq_c (by decide)]
            exact hl k k0 e
          · have := h4 (k - 4 * f) (by omega) (by omega)
            rw [show 4 * f + (k - 4 * f) = k by omega] at this
            exact this
  unfold fX8_fewestToCut
  exact go 56 FU 0 σ (by omega) (by omega) (by unfold FU; omega) Fr.rf (fun j j0 j1 => by omega) (fun k k0 k1 => by omega)
