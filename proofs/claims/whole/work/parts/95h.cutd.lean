/-! cut: the way of the class, and how many -/
theorem nz01 : nz 0 = 0 ∧ nz 1 = 1 := by decide
theorem Edge_odd {w gs : Int → Int} {e x : Int} (h : Edge w gs e x) (hne : e / 2 ≠ x / 2) : (e % 2 = 1 ∧ x % 2 = 0) ∨ (e % 2 = 0 ∧ x % 2 = 1) := by
  rcases h with h | h | h
  · exact absurd h.1.symm hne
  · exact Or.inl ⟨h.1, h.2.1⟩
  · exact Or.inr ⟨h.1, h.2.1⟩
theorem way_c {w gs : Int → Int} {a : Int} {S : Cst} {σ0 : Sg} (ha : isF w a) (hS : CIs w gs a S) (h77 : ∀ x, 0 ≤ x → x < 112 → rd σ0 77 x = S.1 x) : ∀ (r n : Nat) (i x4 : Int) (ρ : Sg) (T : Tst), 0 ≤ i → i < S.2.2 → i ≤ r → x4 + r ≤ 111 → 0 ≤ x4 → r < n → Fr [78, 79] σ0 ρ → THc ρ T → wp (fX8_addWay_L7 a n (S.2.1 i) x4 ρ) (fun τ => Fr [78, 79] σ0 τ ∧ THc τ (pthS S.1 (2 * a + 1) r (S.2.1 i) T))
  | 0, n, i, x4, ρ, T, i0, i1, ir, h4, h40, hn, hF, hT => by
    have ab := isF_b ha
    cases n with
    | zero => omega
    | succ n =>
      have e : S.2.1 i = 2 * a + 1 := by rw [show i = 0 by omega]; exact hS.2.2.2.1.1
      rw [fX8_addWay_L7, if_pos (by omega), bw_id (z := 2 * a) (by omega) (by omega), bw_id (z := 2 * a + 1) (by omega) (by omega), if_pos e, wp_some]
      exact ⟨hF, hT⟩
  | r + 1, n, i, x4, ρ, T, i0, i1, ir, h4, h40, hn, hF, hT => by
    have ab := isF_b ha
    have hnn := CI_n hS
    cases n with
    | zero => omega
    | succ n =>
      rw [fX8_addWay_L7, if_pos (by omega), bw_id (z := 2 * a) (by omega) (by omega), bw_id (z := 2 * a + 1) (by omega) (by omega), pthS]
      by_cases c : S.2.1 i = 2 * a + 1
      · rw [if_pos c, if_pos c, wp_some]
        exact ⟨hF, hT⟩
      · have hi : 0 < i := by
          by_cases z : i = 0
          · rw [z, hS.2.2.2.1.1] at c; exact absurd rfl c
          · omega
        obtain ⟨j, j0, j1, j2, j3⟩ := hS.2.2.1 i hi i1
        have hx := (hS.1 i i0 i1).1
        have he := (hS.1 j j0 (by omega)).1
        have xb := isF_b hx
        have eb := isF_b he
        have hr1 := dir_r (S.2.1 j / 2) (S.2.1 i / 2)
        have hr2 := dir_r (S.2.1 i / 2) (S.2.1 j / 2)
        have ih : ∀ τ T2, Fr [78, 79] σ0 τ → THc τ T2 → wp (fX8_addWay_L7 a n (S.2.1 j) (x4 + 1) τ) (fun τ => Fr [78, 79] σ0 τ ∧ THc τ (pthS S.1 (2 * a + 1) r (S.2.1 j) T2)) := fun τ T2 f t => way_c ha hS h77 r n j (x4 + 1) τ T2 j0 (by omega) (by omega) (by omega) (by omega) (by omega) f t
        have e77 : rd ρ 77 (S.2.1 i) = S.2.1 j := (hF 77 _ (by decide)).trans ((h77 _ (by omega) (by omega)).trans j2)
        rw [if_neg c, if_neg c, grd_pos (by omega), e77, if_neg (by omega), j2, band_1 (bw_id (by omega) (by omega)), bshr_1 (bw_id (by omega) (by omega)), bshr_1 (bw_id (by omega) (by omega))]
        have key : ∀ y0 : Int, y0 = 1 - S.2.1 i % 2 → wp (fX8_addWay_J59 (fX8_addWay_L7 a n) a x4 (S.2.1 j) (S.2.1 j / 2) (S.2.1 i / 2) y0 ρ) (fun τ => Fr [78, 79] σ0 τ ∧ THc τ (pthS S.1 (2 * a + 1) r (S.2.1 j) (tuS (S.2.1 j) (S.2.1 i) T))) := by
          intro y0 hy0
          unfold fX8_addWay_J59
          rw [bw_id (z := x4 + 1) (by omega) (by omega)]
          by_cases d : S.2.1 j / 2 = S.2.1 i / 2
          · have hne : S.2.1 i ≠ S.2.1 j := by
              rcases j3 with z | z | z
              · exact z.2
              · omega
              · omega
            have up : ∀ v : Int, v = 0 ∨ v = 1 → v = (if S.2.1 j % 2 = 0 then 1 else 0) → wp (fX8_addWay_L7 a n (S.2.1 j) (x4 + 1) (wr ρ 78 (S.2.1 j / 2) (nz v))) (fun τ => Fr [78, 79] σ0 τ ∧ THc τ (pthS S.1 (2 * a + 1) r (S.2.1 j) (tuS (S.2.1 j) (S.2.1 i) T))) := by
              intro v hv hv2
              have en : nz v = v := by rcases hv with z | z <;> rw [z]; exact nz01.1; exact nz01.2
              refine ih _ _ (hF.wr (by decide)) ⟨fun f f0 f1 => ?_, fun k k0 k1 => ?_⟩
              · unfold tuS
                rw [if_pos d, ← hv2, wr_row, en, bw_id (z := v) (by omega) (by omega)]
                show upz _ _ _ f = upz _ _ _ f
                by_cases e1 : f = S.2.1 j / 2
                · rw [e1, upz_s, upz_s]
                · rw [upz_n e1, upz_n e1]; exact hT.1 f f0 f1
              · unfold tuS
                rw [if_pos d, rq_c (by decide)]
                exact hT.2 k k0 k1
            rw [if_pos d]
            by_cases y : y0 = 0
            · rw [if_pos y, grd_pos (by omega)]
              exact up 1 (Or.inr rfl) (by rw [if_pos (by omega)])
            · rw [if_neg y, grd_pos (by omega)]
              exact up 0 (Or.inl rfl) (by rw [if_neg (by omega)])
          · have ho := Edge_odd j3 d
            rw [if_neg d]
            have up : ∀ k v : Int, 0 ≤ k → k < 224 → v = 0 ∨ v = 1 → tuS (S.2.1 j) (S.2.1 i) T = (T.1, upz T.2 k v) → wp (fX8_addWay_L7 a n (S.2.1 j) (x4 + 1) (wr ρ 79 k (nz v))) (fun τ => Fr [78, 79] σ0 τ ∧ THc τ (pthS S.1 (2 * a + 1) r (S.2.1 j) (tuS (S.2.1 j) (S.2.1 i) T))) := by
              intro k v k0 k1 hv ht
              have en : nz v = v := by rcases hv with z | z <;> rw [z]; exact nz01.1; exact nz01.2
              rw [ht]
              refine ih _ _ (hF.wr (by decide)) ⟨fun f f0 f1 => ?_, fun l l0 l1 => ?_⟩
              · rw [rq_c (by decide)]; exact hT.1 f f0 f1
              · rw [wr_row, en, bw_id (z := v) (by omega) (by omega)]
                show upz _ _ _ l = upz _ _ _ l
                by_cases e1 : l = k
                · rw [e1, upz_s, upz_s]
                · rw [upz_n e1, upz_n e1]; exact hT.2 l l0 l1
            by_cases y : y0 = 0
            · rw [if_pos y, bw_id (z := 4 * (S.2.1 i / 2)) (by omega) (by omega), bw_id (z := 4 * (S.2.1 i / 2) + fX8_direction (S.2.1 i / 2) (S.2.1 j / 2)) (by omega) (by omega), grd_pos (by omega)]
              refine up _ 0 (by omega) (by omega) (Or.inl rfl) ?_
              unfold tuS
              rw [if_neg d, if_neg (by omega)]
            · rw [if_neg y, bw_id (z := 4 * (S.2.1 j / 2)) (by omega) (by omega), bw_id (z := 4 * (S.2.1 j / 2) + fX8_direction (S.2.1 j / 2) (S.2.1 i / 2)) (by omega) (by omega), grd_pos (by omega)]
              refine up _ 1 (by omega) (by omega) (Or.inr rfl) ?_
              unfold tuS
              rw [if_neg d, if_pos (by omega)]
        by_cases o : S.2.1 i % 2 = 0
        · rw [if_pos o]
          exact key 1 (by omega)
        · rw [if_neg o]
          exact key 0 (by omega)
/-- what stays true of the ways -/
def PIs (w : Int → Int) (a : Int) (T : Tst) : Prop := (∀ f d, isF w f → 0 ≤ d → d < 4 → goW w f d = a → T.2 (4 * f + d) = 0) ∧ (∀ k, T.2 k = 0 ∨ T.2 k = 1) ∧ ∀ k, T.1 k = 0 ∨ T.1 k = 1
def g4S (a : Int) (gs : Int → Int) : Int := gs (4 * a) + gs (4 * a + 1) + gs (4 * a + 2) + gs (4 * a + 3)
theorem g4_congr {a : Int} {gs hs : Int → Int} (h : ∀ d, 0 ≤ d → d < 4 → hs (4 * a + d) = gs (4 * a + d)) : g4S a hs = g4S a gs := by
  unfold g4S
  have h0 := h 0 (by decide) (by decide)
  have h1 := h 1 (by decide) (by decide)
  have h2 := h 2 (by decide) (by decide)
  have h3 := h 3 (by decide) (by decide)
  rw [Int.add_zero] at h0
  rw [h0, h1, h2, h3]
theorem g4_up {a d : Int} {gs : Int → Int} (hd : 0 ≤ d ∧ d < 4) (h : gs (4 * a + d) = 0) : g4S a (upz gs (4 * a + d) 1) = g4S a gs + 1 := by
  unfold g4S
  have hd4 : d = 0 ∨ d = 1 ∨ d = 2 ∨ d = 3 := by omega
  rcases hd4 with e | e | e | e <;> subst e
  · rw [Int.add_zero] at h ⊢
    rw [upz_s, upz_n (by omega), upz_n (by omega), upz_n (by omega), h]; omega
  · rw [upz_s, upz_n (by omega), upz_n (by omega), upz_n (by omega), h]; omega
  · rw [upz_s, upz_n (by omega), upz_n (by omega), upz_n (by omega), h]; omega
  · rw [upz_s, upz_n (by omega), upz_n (by omega), upz_n (by omega), h]; omega
theorem path_g {w gs : Int → Int} {a : Int} {S : Cst} (h80 : w 80 ≤ 8) (ha : isF w a) (hS : CIs w gs a S) : ∀ (r : Nat) (i : Int) (T : Tst), 0 ≤ i → i < S.2.2 → i ≤ r → PIs w a T → PIs w a (pthS S.1 (2 * a + 1) r (S.2.1 i) T) ∧ (S.2.1 i = 2 * a + 1 → pthS S.1 (2 * a + 1) r (S.2.1 i) T = T) ∧ (S.2.1 i ≠ 2 * a + 1 → (∀ d, 0 ≤ d → d < 4 → T.2 (4 * a + d) = gs (4 * a + d)) → g4S a (pthS S.1 (2 * a + 1) r (S.2.1 i) T).2 = g4S a gs + 1)
  | 0, i, T, i0, i1, ir, hP => by
    have e : S.2.1 i = 2 * a + 1 := by rw [show i = 0 by omega]; exact hS.2.2.2.1.1
    exact ⟨hP, fun _ => rfl, fun z => absurd e z⟩
  | r + 1, i, T, i0, i1, ir, hP => by
    have ab := isF_b ha
    rw [pthS]
    by_cases c : S.2.1 i = 2 * a + 1
    · rw [if_pos c]
      exact ⟨hP, fun _ => rfl, fun z => absurd c z⟩
    · rw [if_neg c]
      have hi : 0 < i := by
        by_cases z : i = 0
        · rw [z, hS.2.2.2.1.1] at c; exact absurd rfl c
        · omega
      obtain ⟨j, j0, j1, j2, j3⟩ := hS.2.2.1 i hi i1
      obtain ⟨hx, -, hx2⟩ := hS.1 i i0 i1
      obtain ⟨he, -, he2⟩ := hS.1 j j0 (by omega)
      have xb := isF_b hx
      have eb := isF_b he
      rw [j2]
      have ih := fun T2 h => path_g h80 ha hS r j T2 j0 (by omega) (by omega) h
      obtain ⟨p1, p2, p3⟩ := hP
      rcases j3 with z | z | z
      · have et : tuS (S.2.1 j) (S.2.1 i) T = (upz T.1 (S.2.1 j / 2) (if S.2.1 j % 2 = 0 then 1 else 0), T.2) := by
          unfold tuS; rw [if_pos z.1.symm]
        rw [et]
        have h1 : PIs w a (upz T.1 (S.2.1 j / 2) (if S.2.1 j % 2 = 0 then 1 else 0), T.2) := ⟨p1, p2, fun k => by
          show upz _ _ _ k = 0 ∨ upz _ _ _ k = 1
          unfold upz
          split
          · split
            · exact Or.inr rfl
            · exact Or.inl rfl
          · exact p3 k⟩
        obtain ⟨q1, q2, q3⟩ := ih _ h1
        exact ⟨q1, fun y => absurd y c, fun _ y => q3 (by omega) y⟩
      · obtain ⟨z1, z2, d, d0, d1, d2, d3⟩ := z
        have hne : ¬ S.2.1 j / 2 = S.2.1 i / 2 := fun q => by
          have gv := go_val he ⟨d0, d1⟩ (by omega)
          have hd4 : dlW d ≠ 0 := by unfold dlW; repeat' split <;> omega
          omega
        have ed := dir_val he hx ⟨d0, d1⟩ d2
        have et : tuS (S.2.1 j) (S.2.1 i) T = (T.1, upz T.2 (4 * (S.2.1 j / 2) + d) 1) := by
          unfold tuS; rw [if_neg hne, if_pos z1, ed]
        rw [et]
        have hga : S.2.1 i / 2 ≠ a := by omega
        have h1 : PIs w a (T.1, upz T.2 (4 * (S.2.1 j / 2) + d) 1) := ⟨fun f d' hf x0 x1 hgo => by
          show upz _ _ _ _ = 0
          rw [upz_n (fun q => by
            have e1 : f = S.2.1 j / 2 := by omega
            have e2 : d' = d := by omega
            rw [e1, e2, d2] at hgo
            exact hga hgo)]
          exact p1 f d' hf x0 x1 hgo, fun k => by
          show upz _ _ _ k = 0 ∨ upz _ _ _ k = 1
          unfold upz
          split
          · exact Or.inr rfl
          · exact p2 k, p3⟩
        obtain ⟨q1, q2, q3⟩ := ih _ h1
        refine ⟨q1, fun y => absurd y c, fun _ y => ?_⟩
        by_cases e : S.2.1 j = 2 * a + 1
        · rw [q2 e]
          have ea : S.2.1 j / 2 = a := by omega
          rw [ea] at d3 ⊢
          show g4S a (upz T.2 (4 * a + d) 1) = _
          rw [g4_up ⟨d0, d1⟩ (by rw [y d d0 d1]; exact d3), g4_congr y]
        · refine q3 e (fun d' x0 x1 => ?_)
          show upz _ _ _ _ = _
          rw [upz_n (by omega)]
          exact y d' x0 x1
      · obtain ⟨z1, z2, d, d0, d1, d2⟩ := z
        have hne : ¬ S.2.1 j / 2 = S.2.1 i / 2 := fun q => by
          have gv := go_val he ⟨d0, d1⟩ (by omega)
          have hd4 : dlW d ≠ 0 := by unfold dlW; repeat' split <;> omega
          omega
        have hr := dir_r (S.2.1 i / 2) (S.2.1 j / 2)
        have et : tuS (S.2.1 j) (S.2.1 i) T = (T.1, upz T.2 (4 * (S.2.1 i / 2) + fX8_direction (S.2.1 i / 2) (S.2.1 j / 2)) 0) := by
          unfold tuS; rw [if_neg hne, if_neg (by omega)]
        rw [et]
        have h1 : PIs w a (T.1, upz T.2 (4 * (S.2.1 i / 2) + fX8_direction (S.2.1 i / 2) (S.2.1 j / 2)) 0) := ⟨fun f d' hf x0 x1 hgo => by
          show upz _ _ _ _ = 0
          unfold upz
          split
          · rfl
          · exact p1 f d' hf x0 x1 hgo, fun k => by
          show upz _ _ _ k = 0 ∨ upz _ _ _ k = 1
          unfold upz
          split
          · exact Or.inl rfl
          · exact p2 k, p3⟩
        obtain ⟨q1, q2, q3⟩ := ih _ h1
        refine ⟨q1, fun y => absurd y c, fun _ y => q3 (by omega) (fun d' x0 x1 => ?_)⟩
        show upz _ _ _ _ = _
        rw [upz_n (by omega)]
        exact y d' x0 x1
