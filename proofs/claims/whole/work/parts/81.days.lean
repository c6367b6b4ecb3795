/-! days, undo -/
abbrev DS : Type := (Int → Int) × Int × Int × Nat × (Nat → Int → Int)
def dstep (s : DS) : DS := (dayW 150 s.1 s.2.1, (vdD 150 s.1 s.2.1).2.2, s.2.2.1 + (vdD 150 s.1 s.2.1).2.1, pn s.2.2.2.1, pE s.2.2.2.1 s.2.2.2.2 s.1)
def dst : Nat → DS → DS
  | 0, s => s
  | k + 1, s => dst k (dstep s)
theorem day_3 {w : Int → Int} (h : OKw 150 w) (fv : Int) (hpot : pot w ≤ 700000000) : w 3 ≤ dayW 150 w fv 3 := by
  have note3 : ∀ (u : Int → Int) (x y z : Int), u 3 ≤ noteW 150 u x y z 3 := by
    intro u x y z
    by_cases c : (150 : Int) = 0 ∨ u 3 = 150
    · unfold noteW; rw [if_pos c]; exact Int.le_refl _
    · rw [noteW_at3 c]; omega
  have vd : ∀ (r : Nat) (i fv v : Int) (u : Int → Int), OKw 150 u → 0 ≤ i → i + r = u 87 → pot u ≤ 800000000 → u 3 ≤ (vdW 150 r i (u, v, fv)).1 3 := by
    intro r
    induction r with
    | zero => intro i fv v u _ _ _ _; exact Int.le_refl _
    | succ r ih =>
      intro i fv v u hu i0 i1 hp
      have hW := hu.wf
      have fr := frN_r u
      have hw1 : u 1 ≤ 900000000 := by unfold pot at hp; omega
      have h87 := hW.2.2.2.1.1
      have hb3 := hW.1.2.2.2.2.2.2.2.2
      obtain ⟨l1, l2, l3, l4, l5⟩ := hW.2.2.2.1.2 i i0 (by omega)
      rw [vdW]
      simp only
      by_cases hday : u (151 + 4 * i) = u 0
      · simp only [if_pos hday]
        by_cases z : u (68 + u (152 + 4 * i)) = -1 ∧ u (68 + u (153 + 4 * i)) = -1
        · simp only [if_pos z]
          have hp2 := vowW_pot (t := 150) (x := u (154 + 4 * i)) hW l2 l3 z.1
          have q1 := l2.1
          have q2 := l3.1
          have u3 := vow0W_lo hW (p := u (152 + 4 * i)) (q := u (153 + 4 * i)) (x := u (154 + 4 * i)) 3 (by omega) (by omega)
          have n3 := note3 (vow0W u (u (152 + 4 * i)) (u (153 + 4 * i)) (u (154 + 4 * i))) (whatW u (u (152 + 4 * i)) (u (153 + 4 * i))) (u (152 + 4 * i)) (muchW u (u (152 + 4 * i)) (u (153 + 4 * i)) (u (154 + 4 * i)))
          have e3 : vowW 150 u (u (152 + 4 * i)) (u (153 + 4 * i)) (u (154 + 4 * i)) 3 = noteW 150 (vow0W u (u (152 + 4 * i)) (u (153 + 4 * i)) (u (154 + 4 * i))) (whatW u (u (152 + 4 * i)) (u (153 + 4 * i))) (u (152 + 4 * i)) (muchW u (u (152 + 4 * i)) (u (153 + 4 * i)) (u (154 + 4 * i))) 3 := by
            unfold vowW
            rw [upz_n (by omega), upz_n (by omega)]
          have := ih (i + 1) fv (v + 1) _ (hu.vow l2 l3 l5 hw1) (by omega) (by rw [vowW_lo hW l2 l3 (by omega)]; omega) (by omega)
          omega
        · simp only [if_neg z]
          have hok : OKw 150 (noteW 150 u 3 i 0) := hu.note rfl (bw_id (by omega) (by omega)) rfl
          have n3 := note3 u 3 i 0
          have := ih (i + 1) (if fv = -1 then i else fv) v _ hok (by omega) (by rw [noteW_lo (by omega) (by omega) (by omega) (by omega)]; omega) (by rw [note_pot hb3]; omega)
          omega
      · simp only [if_neg hday]
        exact ih (i + 1) fv v u hu (by omega) (by omega) hp
  have sl : ∀ (u : Int → Int), OKw 150 u → ∀ k : Nat, k ≤ 64 → u 3 ≤ slN 150 u k 3 := by
    intro u hu k
    induction k with
    | zero => exact fun _ => Int.le_refl _
    | succ k ih =>
      intro hk
      have h1 := ih (by omega)
      have hW := (hu.sl (by decide) k (by omega)).wf
      rw [slN]
      generalize slN 150 u k = q at h1 hW
      unfold slS
      split
      · next hc =>
        have hcb := isF_b hc.1
        split
        · have n3 := note3 (slT q k) 4 k (q (4 + k) / 2)
          have : slT q k 3 = q 3 := by
            unfold slT
            split
            · unfold slU; rw [upz_n (by omega), upz_n (by omega)]
            · next hg =>
              have hgb := isF_b ((goW_F hW.1.1.2 hW.1.2.1.2 k 2).resolve_left hg)
              rw [upz_n (by omega)]
              unfold slU
              rw [upz_n (by omega), upz_n (by omega)]
          omega
        · rw [upz_n (by omega)]; exact h1
      · exact h1
  have h87 := h.wf.2.2.2.1.1
  have e87 : snowsW w 87 = w 87 := snowsW_o (by decide)
  by_cases hp : pot (snowsW w) ≤ 800000000
  · have a := vd (w 87).toNat 0 fv 0 (snowsW w) h.snows (by omega) (by rw [e87]; omega) hp
    have b := (vdW_ok (w 87).toNat 0 fv 0 (snowsW w) h.snows (by omega) (by rw [e87]; omega) hp).1.1
    have e3 : snowsW w 3 = w 3 := snowsW_o (by decide)
    have c : (vdD 150 w fv).1 3 ≤ slD 150 (vdD 150 w fv).1 3 := by
      unfold slD
      split
      · exact sl _ b 64 (by omega)
      · exact Int.le_refl _
    unfold dayW
    rw [upz_n (by decide), meltsW_o (by decide)]
    unfold vdD at c ⊢
    omega
  · exact absurd hpot (by rw [snows_pot] at hp; omega)
theorem dst_ok {nb : Int} {w0 : Int → Int} : ∀ (r : Nat) (w : Int → Int) (fv made : Int) (n : Nat) (E : Nat → Int → Int), OKw 150 w → pot w ≤ nb → nb ≤ 700000000 → w 0 + r ≤ 9999 → PX nb w n E → (∀ j : Int, (80 ≤ j ∧ j < 311) ∨ 911 ≤ j → w j = w0 j) → OKw 150 (dst r (w, fv, made, n, E)).1 ∧ pot (dst r (w, fv, made, n, E)).1 ≤ nb ∧ (dst r (w, fv, made, n, E)).1 0 = w 0 + r ∧ PX nb (dst r (w, fv, made, n, E)).1 (dst r (w, fv, made, n, E)).2.2.2.1 (dst r (w, fv, made, n, E)).2.2.2.2 ∧ ∀ j : Int, (80 ≤ j ∧ j < 311) ∨ 911 ≤ j → (dst r (w, fv, made, n, E)).1 j = w0 j
  | 0, w, fv, made, n, E, h, hp, hnb, h0, hX, hs => ⟨h, hp, by show w 0 = w 0 + ((0 : Nat) : Int); omega, hX, hs⟩
  | r + 1, w, fv, made, n, E, h, hp, hnb, h0, hX, hs => by
    obtain ⟨d1, d2, d3, d4, d5⟩ := dayW_lo h fv (by omega)
    have d0 := h.wf.1.2.2.2.2.2.2.1
    have f1 := frN_r w
    have hd := h.day fv (by omega) (by omega)
    have h3 := day_3 h fv (by omega)
    have hw1 : w 1 ≤ nb := by unfold pot at hp; omega
    have hX2 : PX nb (dayW 150 w fv) (pn n) (pE n E w) := PX_push h.wf hX (Int.le_refl _) (by omega) hw1 h3 (d3 80 (by omega)) (d3 81 (by omega)) (d3 85 (by omega))
    obtain ⟨b1, b2, b3, b4, b5⟩ := dst_ok r (dayW 150 w fv) (vdD 150 w fv).2.2 (made + (vdD 150 w fv).2.1) (pn n) (pE n E w) hd (by omega) hnb (by omega) hX2 (fun j hj => (d3 j hj).trans (hs j hj))
    refine ⟨b1, b2, ?_, b4, b5⟩
    show (dst r (dayW 150 w fv, (vdD 150 w fv).2.2, made + (vdD 150 w fv).2.1, pn n, pE n E w)).1 0 = _
    rw [b3, d2]; omega
theorem daysL_c {x : Int} {σ0 : Sg} : ∀ (r m : Nat) (i : Int) (w : Int → Int) (fv made : Int) (n : Nat) (E : Nat → Int → Int) (σ : Sg), i + r = x → 0 ≤ i → x ≤ 60 → r < m → CW 150 w σ 1 → PC n E w σ → pot w ≤ 700000000 → w 0 + r ≤ 9999 → 0 ≤ made → made + 16 * r ≤ 10000 → Fr (55 :: 56 :: 57 :: 58 :: nowC) σ0 σ → wp (fX10_days_L32 x m made i σ) (fun q => q.1 = (dst r (w, fv, made, n, E)).2.2.1 ∧ CW 150 (dst r (w, fv, made, n, E)).1 q.2 1 ∧ PC (dst r (w, fv, made, n, E)).2.2.2.1 (dst r (w, fv, made, n, E)).2.2.2.2 (dst r (w, fv, made, n, E)).1 q.2 ∧ Fr (55 :: 56 :: 57 :: 58 :: nowC) σ0 q.2)
  | 0, m, i, w, fv, made, n, E, σ, hi, i0, hx, hm, hC, hP, hpot, h0, m0, m1, hF => by
    cases m with
    | zero => omega
    | succ m =>
      rw [fX10_days_L32, if_neg (by omega), wp_some]
      exact ⟨rfl, hC, hP, hF⟩
  | r + 1, m, i, w, fv, made, n, E, σ, hi, i0, hx, hm, hC, hP, hpot, h0, m0, m1, hF => by
    have d0 := hC.1.1.2.2.2.2.2.2.1
    have hok : OKw 150 w := ⟨σ, 1, Or.inl ⟨rfl, rfl⟩, hC⟩
    obtain ⟨d1, d2, d3, d4, d5⟩ := dayW_lo hok fv (by omega)
    cases m with
    | zero => omega
    | succ m =>
      rw [fX10_days_L32, if_pos (by omega), wp_bind, bw_id (z := i + 1) (by omega) (by omega)]
      refine wp_mono (pkeep_c hC hP) (fun s hs => ?_)
      rw [wp_bind]
      refine wp_mono (passDay_c (Or.inl ⟨rfl, rfl⟩) (fr5 hs.2 hC) fv (by omega) (by omega)) (fun q hq => ?_)
      rw [hq.1, bw_id (z := made + (vdD 150 w fv).2.1) (by omega) (by omega)]
      have hk : ∀ c : Nat, 55 ≤ c → c ≤ 58 → rd q.2 c = rd s c := by
        intro c c1 c2
        funext j
        refine hq.2.2 c j ?_
        have : c = 55 ∨ c = 56 ∨ c = 57 ∨ c = 58 := by omega
        rcases this with rfl | rfl | rfl | rfl <;> decide
      exact daysL_c r m (i + 1) (dayW 150 w fv) (vdD 150 w fv).2.2 (made + (vdD 150 w fv).2.1) (pn n) (pE n E w) q.2 (by omega) (by omega) hx (by omega) hq.2.1 (PC_w hs.1 (d3 80 (by omega)) (d3 81 (by omega)) (d3 85 (by omega)) hk) (by omega) (by omega) (by omega) (by omega) ((hF.tr (hs.2.mo (by decide))).tr (hq.2.2.mo (by decide)))
theorem daysL_m {x : Int} {σ0 : Sg} : ∀ (r m : Nat) (i : Int) (w : Int → Int) (fv made : Int) (n : Nat) (E : Nat → Int → Int) (σ : Sg), i + r = x → 0 ≤ i → x ≤ 60 → r < m → OKw 150 w → rd σ 85 = w → rd σ 84 26 = 1 → rd σ 84 28 = fv → PM n E σ → pot w ≤ 700000000 → w 0 + r ≤ 9999 → 0 ≤ made → made + 16 * r ≤ 10000 → Fr [84, 85, 87, 93, 94, 95] σ0 σ → (∀ i : Int, i ≠ 4 → i ≠ 26 → i ≠ 28 → rd σ 84 i = rd σ0 84 i) → wp (fX11_days_L35 x m made i σ) (fun q => q.1 = (dst r (w, fv, made, n, E)).2.2.1 ∧ rd q.2 85 = (dst r (w, fv, made, n, E)).1 ∧ PM (dst r (w, fv, made, n, E)).2.2.2.1 (dst r (w, fv, made, n, E)).2.2.2.2 q.2 ∧ (∀ i : Int, i ≠ 4 → i ≠ 26 → i ≠ 28 → rd q.2 84 i = rd σ0 84 i) ∧ Fr [84, 85, 87, 93, 94, 95] σ0 q.2)
  | 0, m, i, w, fv, made, n, E, σ, hi, i0, hx, hm, hok, hw, ht, hfv, hP, hpot, h0, m0, m1, hF, hs => by
    cases m with
    | zero => omega
    | succ m =>
      rw [fX11_days_L35, if_neg (by omega), wp_some]
      exact ⟨rfl, hw, hP, hs, hF⟩
  | r + 1, m, i, w, fv, made, n, E, σ, hi, i0, hx, hm, hok, hw, ht, hfv, hP, hpot, h0, m0, m1, hF, hs => by
    have d0 := hok.wf.1.2.2.2.2.2.2.1
    obtain ⟨d1, d2, d3, d4, d5⟩ := dayW_lo hok fv (by omega)
    cases m with
    | zero => omega
    | succ m =>
      rw [fX11_days_L35, if_pos (by omega), wp_bind, bw_id (z := i + 1) (by omega) (by omega)]
      refine wp_mono (pkeep_m hw hP) (fun s hs2 => ?_)
      rw [wp_bind]
      have s85 : rd s 85 = w := (funext fun j => hs2.2.1 85 j (by decide)).trans hw
      refine wp_mono (aDay_m hok s85 (by rw [hs2.2.2 26 (by decide), ht]; decide) ((hs2.2.2 28 (by decide)).trans hfv) (by omega)) (fun q hq => ?_)
      rw [hq.1, bw_id (z := made + (vdD 150 w fv).2.1) (by omega) (by omega)]
      have hFq : Fr [84, 85, 87, 93, 94, 95] s q.2 := fun c j hc => hq.2.2.2 c j (fun z => hc ((by decide : ∀ c ∈ [85, 93, 94, 95], c ∈ [84, 85, 87, 93, 94, 95]) c z)) (fun z => hc (by rw [z.1]; decide))
      have h84 : ∀ j : Int, j ≠ 28 → rd q.2 84 j = rd s 84 j := fun j hj => hq.2.2.2 84 j (by decide) (fun z => hj z.2)
      exact daysL_m r m (i + 1) (dayW 150 w fv) (vdD 150 w fv).2.2 (made + (vdD 150 w fv).2.1) (pn n) (pE n E w) q.2 (by omega) (by omega) hx (by omega) (hok.day fv (by omega) (by omega)) hq.2.1 (by rw [h84 26 (by decide), hs2.2.2 26 (by decide)]; exact ht) hq.2.2.1 (PM_w hs2.1 (h84 4 (by decide)) (funext fun j => hq.2.2.2 87 j (by decide) (fun z => by have := z.1; omega))) (by omega) (by omega) (by omega) (by omega) ((hF.tr (hs2.2.1.mo (by decide))).tr hFq) (fun j i4 i26 i28 => by rw [h84 j i28, hs2.2.2 j i4]; exact hs j i4 i26 i28)
theorem op_days {has : Bool} {N : Nat} (hN : N ≤ 511) (x1 : Int) (h1 : bw x1 = x1) : OpE has N (fX10_days x1) (fX11_days x1) := by
  intro σ h
  have hC := h.1
  have hW := hC.1
  have h12 := hW.1.2.2.2.2.2.1
  have hd0 := hW.1.2.2.2.2.2.2.1
  obtain ⟨n, E, p1, p2, p3⟩ := PR_to h12.2 h.2.2.2.2.1
  have e6 : rd σ 1 6 = rd σ 85 0 := hC.2.1.2.2.2.2.2.2.1
  by_cases hc : (1 ≤ x1 ∧ x1 ≤ 60) ∧ rd σ 85 0 + x1 ≤ 9999
  · have hpb := pot_b hN h.2.2.1
    have f1 := frN_r (rd σ 85)
    have hpot : pot (rd σ 85) ≤ nbN (N + 1) := by have := h.2.2.1; unfold pot nbN at *; omega
    have hnb : nbN (N + 1) ≤ 700000000 := by unfold nbN; omega
    have hok : OKw 150 (rd σ 85) := ⟨σ, 1, Or.inl ⟨rfl, rfl⟩, hC⟩
    have hX : PX (nbN (N + 1)) (rd σ 85) n E := fun k hk => by
      obtain ⟨a, b, c, d, e⟩ := p3 k hk
      exact ⟨a, b, c, ⟨d.1, nb_ok d.2⟩, e⟩
    obtain ⟨b1, b2, b3, b4, b5⟩ := dst_ok (w0 := rd σ 85) x1.toNat (rd σ 85) (rd σ 84 28) 0 n E hok hpot hnb (by omega) hX (fun _ _ => rfl)
    have f2 := frN_r (dst x1.toNat (rd σ 85, rd σ 84 28, 0, n, E)).1
    refine opE_past (v := (dst x1.toNat (rd σ 85, rd σ 84 28, 0, n, E)).2.2.1) (w' := (dst x1.toNat (rd σ 85, rd σ 84 28, 0, n, E)).1) (n' := (dst x1.toNat (rd σ 85, rd σ 84 28, 0, n, E)).2.2.2.1) (E' := (dst x1.toNat (rd σ 85, rd σ 84 28, 0, n, E)).2.2.2.2) h (b5 80 (by omega)) (b5 81 (by omega)) (b5 85 (by omega)) (by rw [b3]; omega) (by unfold pot at b2; omega) (KS_dyn h.2.2.2.1 h12.2 (fun j j0 j1 => b5 j (by omega))) b4 ?_ (fun τ hτ => ?_)
    · unfold fX10_days
      rw [if_neg (by omega), if_neg (by omega), e6, bw_id (z := rd σ 85 0 + x1) (by omega) (by omega), if_neg (by omega)]
      refine wp_mono (daysL_c (σ0 := σ) x1.toNat FU 0 (rd σ 85) (rd σ 84 28) 0 n E σ (by omega) (by omega) (by omega) (by unfold FU; omega) hC p1 hpb (by omega) (by omega) (by omega) Fr.rf) (fun q hq => ⟨hq.1, hq.2.1, PC_w hq.2.2.1 (b5 80 (by omega)).symm (b5 81 (by omega)).symm (b5 85 (by omega)).symm (fun c _ _ => rfl), hq.2.2.2⟩)
    · have e85 := hτ 85 (by omega) (by omega)
      have e84 := hτ 84 (by omega) (by omega)
      unfold fX11_days
      rw [isIn_m, if_pos hc.1, if_neg n10, e85, bw_id (z := rd σ 85 0 + x1) (by omega) (by omega), if_neg (by omega)]
      exact daysL_m (σ0 := τ) x1.toNat FU 0 (rd σ 85) (rd σ 84 28) 0 n E (wr τ 84 26 1) (by omega) (by omega) (by omega) (by unfold FU; omega) hok ((wr_off _ _ (by decide)).trans e85) rq_s ((rq_i (by decide)).trans (congrFun e84 28)) (PM_w p2 ((rq_i (by decide)).trans (congrFun e84 4)) ((wr_off _ _ (by decide)).trans (hτ 87 (by omega) (by omega)))) hpb (by omega) (by omega) (by omega) (Fr.rf.wr (by decide)) (fun i i4 i26 i28 => rq_i i26)
  · refine opE_no (v := -1) h ?_ ?_
    · unfold fX10_days
      by_cases a : x1 < 1
      · rw [if_pos a]
      · by_cases b : 60 < x1
        · rw [if_neg a, if_pos b]
        · rw [if_neg a, if_neg b, e6, bw_id (z := rd σ 85 0 + x1) (by omega) (by omega), if_pos (by omega)]
    · unfold fX11_days
      rw [isIn_m]
      by_cases a : 1 ≤ x1 ∧ x1 ≤ 60
      · rw [if_pos a, if_neg n10, bw_id (z := rd σ 85 0 + x1) (by omega) (by omega), if_pos (by omega)]
      · rw [if_neg a, if_pos p00]
