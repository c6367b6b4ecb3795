/-! undo -/
def unW (w e : Int → Int) : Int → Int := fun j => if 0 ≤ j ∧ j < 80 then e j else w j
theorem pn1 {n : Nat} (h : 0 < n) : ((n - 1 : Nat) : Int) = (n : Int) - 1 := by omega
theorem gback_c {n : Nat} {E : Nat → Int → Int} {w : Int → Int} {nb : Int} {σ : Sg} (hC : CW 150 w σ 1) (hP : PC n E w σ) (hX : PX nb w n E) (hn : 0 < n) (hnb : nb ≤ 1000000000) : wp (fX3_giveBack 1 σ) (fun q => q.1 = 1 ∧ CW 150 (unW w (E (n - 1))) q.2 1 ∧ PC (n - 1) E w q.2 ∧ Fr (55 :: 56 :: 57 :: 58 :: nowC) σ q.2) := by
  obtain ⟨p1, ⟨p2, p3⟩, p4⟩ := hP
  have h12 := hC.1.1.2.2.2.2.2.1
  have hb3 := hC.1.1.2.2.2.2.2.2.2.2
  unfold fX3_giveBack
  generalize hs : rd σ 55 4 = s at p1 p4
  have ht : trm (bw (bw (s + 6) - 1)) 6 = (s + 5) % 6 := by
    rw [bw_id (z := s + 6) (by omega) (by omega), bw_id (z := s + 6 - 1) (by omega) (by omega), trm_pos (by omega) (by omega) (by omega) (by omega)]
    omega
  rw [ht]
  have hpos : (s + 5) % 6 = (s - n + ((n - 1 : Nat) : Int)) % 6 := by omega
  generalize hpo : (s + 5) % 6 = po at hpos
  have hpo6 : 0 ≤ po ∧ po < 6 := by omega
  rw [p2, if_pos (by omega)]
  simp (disch := first | decide | omega) only [rc_o, rq_i, rq_c, rq_s, p2, bw_id]
  rw [grd_pos (by omega), grd_pos (by omega), grd_pos (by omega), grd_pos (by omega), grd_pos (by omega), grd_pos (by omega), wp_some]
  obtain ⟨c1, c2, c3, c4, c5, c6, c7⟩ := p4 (n - 1) (by omega)
  rw [← hpos] at c1 c2 c3 c4 c5 c6 c7
  obtain ⟨x1, x2, x3, x4, x5, x6, x7⟩ := hX (n - 1) (by omega)
  generalize hτ : wr (wr (wr (wr _ 1 5 _) 1 6 _) 1 7 _) (1 + 25) 2 _ = τ
  have nE : ∀ k : Int, bw (rd σ 58 k) = rd σ 58 k := fun k => rd_bw _ _ _
  have c4' : rd σ 58 (po * 4) = E (n - 1) 1 := by rw [Int.mul_comm]; exact c4
  have c5' : rd σ 58 (po * 4 + 1) = E (n - 1) 0 := by rw [Int.mul_comm]; exact c5
  have c6' : rd σ 58 (po * 4 + 2) = E (n - 1) 2 := by rw [Int.mul_comm]; exact c6
  have c7' : rd σ 58 (po * 4 + 3) = E (n - 1) 3 := by rw [Int.mul_comm]; exact c7
  have q26 : ∀ i : Int, rd τ 26 i = if i = 2 then E (n - 1) 3 else rd σ 26 i := by
    intro i
    rw [← hτ]
    show rd (wr (wr (wr (wr _ 1 5 _) 1 6 _) 1 7 _) 26 2 (rd σ 58 (po * 4 + 3))) 26 i = _
    rw [wr_row, nE, c7', upz]
    split
    · rfl
    · rw [rq_c (by decide), rq_c (by decide), rq_c (by decide), rc_o (by decide), rc_o (by decide), rq_c (by decide), rq_c (by decide)]
  have q1 : ∀ i : Int, rd τ 1 i = if i = 7 then E (n - 1) 2 else if i = 6 then E (n - 1) 0 else if i = 5 then E (n - 1) 1 else rd σ 1 i := by
    intro i
    rw [← hτ, rq_c (by decide), wr_row, wr_row, wr_row, nE, nE, nE, c4', c5', c6']
    simp only [upz]
    repeat' split
    all_goals first | rfl | (rw [rc_o (by decide), rc_o (by decide), rq_c (by decide), rq_c (by decide)])
  have q2 : ∀ f : Int, 0 ≤ f → f < 56 → rd τ 2 f = rd σ 56 (56 * po + f) := by
    intro f f0 f1
    rw [← hτ, rq_c (by decide), rq_c (by decide), rq_c (by decide), rq_c (by decide), rc_o (by decide), rd_cpy, if_pos ⟨rfl, f0, by omega⟩, rq_c (by decide), rq_c (by decide)]
    congr 1
    omega
  have q9 : ∀ p : Int, 0 ≤ p → p < 12 → rd τ 9 p = rd σ 57 (12 * po + p) := by
    intro f f0 f1
    rw [← hτ, rq_c (by decide), rq_c (by decide), rq_c (by decide), rq_c (by decide), rd_cpy, if_pos ⟨rfl, f0, by omega⟩, rc_o (by decide), rq_c (by decide), rq_c (by decide)]
    congr 1
    omega
  have q554 : rd τ 55 4 = po := by
    rw [← hτ, rq_c (by decide), rq_c (by decide), rq_c (by decide), rq_c (by decide), rc_o (by decide), rc_o (by decide), rq_i (by decide), rq_s, bw_id (by omega) (by omega)]
  have q553 : rd τ 55 3 = ((n - 1 : Nat) : Int) := by
    rw [← hτ, rq_c (by decide), rq_c (by decide), rq_c (by decide), rq_c (by decide), rc_o (by decide), rc_o (by decide), rq_s, bw_id (by omega) (by omega)]
    omega
  have qo : ∀ (c : Nat) (i : Int), c ≠ 1 → c ≠ 2 → c ≠ 9 → c ≠ 26 → c ≠ 55 → rd τ c i = rd σ c i := by
    intro c i a1 a2 a9 a26 a55
    rw [← hτ, rq_c a26, rq_c a1, rq_c a1, rq_c a1, rc_o a9, rc_o a2, rq_c a55, rq_c a55]
  have lo : ∀ j : Int, j < 0 ∨ 80 ≤ j → unW w (E (n - 1)) j = w j := fun j hj => if_neg (by omega)
  have hi : ∀ j : Int, 0 ≤ j → j < 80 → unW w (E (n - 1)) j = E (n - 1) j := fun j j0 j1 => if_pos ⟨j0, j1⟩
  refine ⟨rfl, ?_, ?_, ?_⟩
  · refine CG_dyn hC (fun j hj => lo j (by omega)) (fun k k0 k1 k8 k25 k26 i => ?_) (fun i i0 i4 => ?_) ?_ ?_ ?_ (fun f hf => ?_) (fun p hp => ?_) ?_ ?_ ?_ (fun f hf => ?_) (fun f f0 f1 => ?_) (fun p hp => ?_) ?_
    · unfold vw
      split
      · rfl
      · exact qo _ _ (by omega) (by omega) (by omega) (by omega) (by omega)
    · show rd τ 1 i = rd σ 1 i
      rw [q1, if_neg (by omega), if_neg (by omega), if_neg (by omega)]
    · rw [hi 0 (by omega) (by omega)]; omega
    · rw [hi 1 (by omega) (by omega)]; omega
    · rw [hi 3 (by omega) (by omega)]; omega
    · have := isF_b hf
      rw [hi _ (by omega) (by omega)]; exact x1 f hf
    · have := hp.1
      have := hp.2
      rw [hi _ (by omega) (by omega)]; exact x2 p hp
    · show rd τ 1 5 = _
      rw [q1, if_neg (by decide), if_neg (by decide), if_pos rfl, hi 1 (by omega) (by omega)]
    · show rd τ 1 6 = _
      rw [q1, if_neg (by decide), if_pos rfl, hi 0 (by omega) (by omega)]
    · show rd τ 1 7 = _
      rw [q1, if_pos rfl, hi 2 (by omega) (by omega)]
    · have := isF_b hf
      show rd τ 2 f = _
      rw [q2 f (by omega) (by omega), hi _ (by omega) (by omega)]; exact c1 f hf
    · show 0 ≤ rd τ 2 f ∧ rd τ 2 f ≤ 99
      rw [q2 f f0 f1]; exact c2 f f0 f1
    · have := hp.1
      have := hp.2
      show rd τ 9 p = _
      rw [q9 p (by omega) (by omega), hi _ (by omega) (by omega)]; exact c3 p hp
    · obtain ⟨r1, r2⟩ := hC.2.2.2.2.2.1
      refine ⟨?_, ?_⟩
      · show rd τ 26 1 = 150
        rw [q26, if_neg (by decide)]; exact r1
      · rcases r2 with ⟨z, -⟩ | ⟨hm, r2, r3⟩
        · omega
        · refine Or.inr ⟨rfl, ?_, fun i i0 i1 => ?_⟩
          · show rd τ 26 2 = _
            rw [q26, if_pos rfl, hi 3 (by omega) (by omega)]
          · rw [hi 3 (by omega) (by omega)] at i1
            rw [lo _ (by omega), lo _ (by omega), lo _ (by omega), lo _ (by omega)]
            have v27 : ∀ k : Int, vw τ 1 26 k = vw σ 1 26 k := fun k => qo 27 k (by decide) (by decide) (by decide) (by decide) (by decide)
            rw [v27, v27, v27, v27]
            exact r3 i i0 (by omega)
  · refine ⟨by show 0 ≤ rd τ 55 4 ∧ rd τ 55 4 < 6; rw [q554]; exact hpo6, ⟨q553, by omega⟩, fun k hk => ?_⟩
    show _ ∧ _ ∧ _ ∧ _
    have o56 : ∀ i, rd τ 56 i = rd σ 56 i := fun i => qo 56 i (by decide) (by decide) (by decide) (by decide) (by decide)
    have o57 : ∀ i, rd τ 57 i = rd σ 57 i := fun i => qo 57 i (by decide) (by decide) (by decide) (by decide) (by decide)
    have o58 : ∀ i, rd τ 58 i = rd σ 58 i := fun i => qo 58 i (by decide) (by decide) (by decide) (by decide) (by decide)
    obtain ⟨d1, d2, d3, d4⟩ := p4 k (by omega)
    have hp : (rd τ 55 4 - ((n - 1 : Nat) : Int) + (k : Int)) % 6 = (s - n + k) % 6 := by rw [q554]; omega
    simp only [hp, o56, o57, o58]
    exact ⟨d1, d2, d3, d4⟩
  · intro c i hc
    refine qo c i ?_ ?_ ?_ ?_ ?_ <;> (rintro rfl; exact hc (by decide))
theorem op_undo {has : Bool} {N : Nat} (hN : N ≤ 511) : OpE has N (fX10_undo ) (fX11_undo ) := by
  intro σ h
  have hC := h.1
  have hW := hC.1
  have h12 := hW.1.2.2.2.2.2.1
  obtain ⟨n, E, p1, p2, p3⟩ := PR_to h12.2 h.2.2.2.2.1
  have hnb : nbN N ≤ 1000000000 := by unfold nbN; omega
  by_cases hn : 0 < n
  · obtain ⟨x1, x2, x3, x4, x5, x6, x7⟩ := p3 (n - 1) (by omega)
    have lo : ∀ j : Int, j < 0 ∨ 80 ≤ j → unW (rd σ 85) (E (n - 1)) j = rd σ 85 j := fun j hj => if_neg (by omega)
    have hi : ∀ j : Int, 0 ≤ j → j < 80 → unW (rd σ 85) (E (n - 1)) j = E (n - 1) j := fun j j0 j1 => if_pos ⟨j0, j1⟩
    have eF : ∀ c, isF (unW (rd σ 85) (E (n - 1))) c ↔ isF (rd σ 85) c := fun c => by unfold isF; rw [lo 80 (by omega), lo 81 (by omega)]
    have eP : ∀ c, isP (unW (rd σ 85) (E (n - 1))) c ↔ isP (rd σ 85) c := fun c => by unfold isP; rw [lo 85 (by omega)]
    refine opE_past (v := 1) (w' := unW (rd σ 85) (E (n - 1))) (n' := n - 1) (E' := E) h (lo 80 (by omega)) (lo 81 (by omega)) (lo 85 (by omega)) (by rw [hi 0 (by omega) (by omega)]; exact x3.2) (by rw [hi 1 (by omega) (by omega)]; exact nb_ok x4.2) (KS_dyn h.2.2.2.1 h12.2 (fun j j0 j1 => lo j (by omega))) (fun k hk => ?_) ?_ (fun τ hτ => ?_)
    · obtain ⟨y1, y2, y3, y4, y5, y6, y7⟩ := p3 k (by omega)
      refine ⟨fun f hf => y1 f ((eF f).mp hf), fun p hp => (y2 p ((eP p).mp hp)).imp id (fun z => (eP _).mpr z), y3, ⟨y4.1, nb_ok y4.2⟩, y5, ?_, fun k2 a b => y7 k2 a (by omega)⟩
      rw [hi 3 (by omega) (by omega)]
      exact y7 (n - 1) (by omega) (by omega)
    · unfold fX10_undo
      rw [wp_bind]
      exact wp_mono (gback_c hC p1 p3 hn hnb) (fun q hq => wp_some.mpr hq)
    · have e84 := hτ 84 (by omega) (by omega)
      have e85 := hτ 85 (by omega) (by omega)
      have e87 := hτ 87 (by omega) (by omega)
      obtain ⟨⟨m1, m2⟩, m3⟩ := p2
      have h4 : rd τ 84 4 = n := (congrFun e84 4).trans m1
      unfold fX11_undo
      rw [h4, if_neg (by omega), bw_id (z := (n : Int) - 1) (by omega) (by omega)]
      refine loopM (F := fun m s => fX11_undo_L21 m s.1 s.2) (fun s : Int × Sg => (0 ≤ s.1 ∧ s.1 ≤ 80) ∧ Fr [85] (wr τ 84 4 ((n : Int) - 1)) s.2 ∧ ∀ j : Int, rd s.2 85 j = if 0 ≤ j ∧ j < s.1 then E (n - 1) j else rd σ 85 j) (fun s => (80 - s.1).toNat) ?_ FU (0, wr τ 84 4 ((n : Int) - 1)) (by unfold FU; simp only; omega) ⟨by simp only; omega, Fr.rf, fun j => by simp only; rw [if_neg (by omega), rq_c (by decide), e85]⟩
      rintro m ⟨i, ρ⟩ ⟨hii, hG, hy⟩ ih
      show wp (fX11_undo_L21 (m + 1) i ρ) _
      simp only at hii hG hy
      have g4 : rd ρ 84 4 = (n : Int) - 1 := (hG 84 4 (by decide)).trans (rq_s.trans (bw_id (by omega) (by omega)))
      have g87 : rd ρ 87 = rd σ 87 := (funext fun j => hG 87 j (by decide)).trans ((wr_off _ _ (by decide)).trans e87)
      rw [fX11_undo_L21]
      by_cases h80 : i < 80
      · have mm := m3 (n - 1) (by omega) i hii.1 h80
        rw [if_pos h80, g4, g87, bw_id (z := 80 * ((n : Int) - 1)) (by omega) (by omega), bw_id (z := 80 * ((n : Int) - 1) + i) (by omega) (by omega), grd_pos (by omega), grd_pos (by omega), bw_id (z := i + 1) (by omega) (by omega), show 80 * ((n : Int) - 1) + i = 80 * ((n - 1 : Nat) : Int) + i by omega, mm]
        refine ih (i + 1, wr ρ 85 i (E (n - 1) i)) ⟨by simp only; omega, hG.wr (by decide), fun j => ?_⟩ (by simp only; omega)
        show rd (wr ρ 85 i (E (n - 1) i)) 85 j = if 0 ≤ j ∧ j < i + 1 then _ else _
        have nb : bw (E (n - 1) i) = E (n - 1) i := by rw [← mm, rd_bw]
        rw [wr_row, nb]
        by_cases e : j = i
        · rw [e, upz_s, if_pos (by omega)]
        · rw [upz_n e, hy]
          by_cases e3 : 0 ≤ j ∧ j < i
          · rw [if_pos e3, if_pos (by omega)]
          · rw [if_neg e3, if_neg (by omega)]
      · rw [if_neg h80, wp_some]
        refine ⟨rfl, ?_, ⟨⟨by rw [g4]; omega, by omega⟩, fun k hk j j0 j1 => by rw [g87]; exact m3 k (by omega) j j0 j1⟩, fun j j4 _ _ => (hG 84 j (by decide)).trans (rq_i j4), (Fr.rf.wr (by decide)).tr (hG.mo (by decide))⟩
        funext j
        rw [hy j]
        unfold unW
        rw [show i = 80 by omega]
  · have n0 : n = 0 := by omega
    refine opE_no (v := 0) h ?_ ?_
    · unfold fX10_undo fX3_giveBack
      rw [p1.2.1.1, if_neg (by omega)]
      rfl
    · unfold fX11_undo
      rw [p2.1.1, if_pos (by omega)]
