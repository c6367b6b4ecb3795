/-! the whole world copied -/
theorem CS_congr {g g' : Int → Int} {to lo : Int} (hg : ∀ j : Int, lo ≤ j → j < to → g' j = g j) : ∀ (ls : List (Int × Int)) (i : Int), lo ≤ i → CS g to ls i → CS g' to ls i
  | [], _, _, h => h
  | s :: t, i, hl, h => by
    rw [CS] at h ⊢
    by_cases e : s.1 = 26
    · rw [if_pos e] at h ⊢
      have l := CS_le t (i + 2) h.2.2
      exact ⟨by rw [hg i hl (by omega)]; exact h.1, by rw [hg (i + 1) (by omega) (by omega)]; exact h.2.1, CS_congr hg t (i + 2) (by omega) h.2.2⟩
    · rw [if_neg e] at h ⊢
      have l := CS_le t (i + 1) h.2
      exact ⟨by rw [hg i hl (by omega)]; exact h.1, CS_congr hg t (i + 1) (by omega) h.2⟩
theorem LR_cp {w : Int → Int} {g g' : Nat → Int → Int} (e6 : g' 10 6 = g 10 6) (e7 : g' 10 7 = g 10 7) (e11 : ∀ j : Int, 0 ≤ j → j < g 10 7 → g' 11 j = g 11 j) (e12 : ∀ j : Int, 0 ≤ j → j < 16 → g' 12 j = g 12 j) (e13 : ∀ j : Int, 0 ≤ j → j < 17 → g' 13 j = g 13 j) (e14 : ∀ j : Int, 0 ≤ j → j < 16 → g' 14 j = g 14 j) (k : LR w g) : LR w g' := by
  obtain ⟨h1, h2, h3, h4⟩ := k
  refine ⟨h1, by rw [e6]; exact h2, by rw [e7]; exact h3, fun i i0 i1 => ?_⟩
  obtain ⟨k1, k2, k3, k4, k5, k6, k7, k8⟩ := h4 i i0 i1
  have l1 := CS_le _ _ k5
  have l2 := CS_le _ _ k7
  unfold LL
  rw [e12 i i0 (by omega), e13 i i0 (by omega), e13 (i + 1) (by omega) (by omega), e14 i i0 (by omega), e7]
  exact ⟨k1, k2, k3, k4, CS_congr (lo := g 13 i) (fun j j0 j1 => e11 j (by omega) (by omega)) _ _ (Int.le_refl _) k5, k6, CS_congr (lo := g 14 i) (fun j j0 j1 => e11 j (by omega) (by omega)) _ _ (Int.le_refl _) k7, k8⟩
theorem scal_cp {d s : Nat} {σ : Sg} (hds : d + 27 ≤ s ∨ s + 27 ≤ d) : ∃ s0, (fX9_copy d s σ = (fX1_copy (d + 3) (s + 3) s0).bind fun s1 => (fX2_copy (d + 10) (s + 10) s1).bind fun s2 => (fX6_copy (d + 17) 64 (s + 17) 64 s2).bind fun s3 => (fX6_copy (d + 19) 48 (s + 19) 48 s3).bind fun s4 => (fX6_copy (d + 21) 48 (s + 21) 48 s4).bind fun s5 => (fX6_copy (d + 23) 48 (s + 23) 48 s5).bind fun s6 => (fX6_copy (d + 25) (bkN d) (s + 25) (bkN s) s6).bind fun s7 => some s7) ∧ Fr [d, d + 1] σ s0 ∧ (rd s0 d 0 = rd σ s 0 ∧ rd s0 d 1 = rd σ s 1 ∧ rd s0 d 2 = rd σ s 2 ∧ rd s0 d 3 = rd σ s 3 ∧ rd s0 d 4 = rd σ s 4 ∧ rd s0 d 5 = rd σ s 5 ∧ rd s0 d 6 = rd σ s 6 ∧ rd s0 d 7 = rd σ s 7) ∧ ∀ f : Int, 0 ≤ f → f < 56 → rd s0 (d + 1) f = rd σ (s + 1) f := by
  refine ⟨cpy (wr (wr (wr (wr (wr (wr (wr (wr σ d 0 (rd σ s 0)) d 1 (rd σ s 1)) d 2 (rd σ s 2)) d 3 (rd σ s 3)) d 4 (rd σ s 4)) d 5 (rd σ s 5)) d 6 (rd σ s 6)) d 7 (rd σ s 7)) (s + 1) 0 (d + 1) 0 56, ?_, ?_, ?_, ?_⟩
  · unfold fX9_copy
    rw [grd_pos (by decide)]
    simp (disch := omega) only [rq_c]
  · exact ((((((((Fr.rf.wr (by simp)).wr (by simp)).wr (by simp)).wr (by simp)).wr (by simp)).wr (by simp)).wr (by simp)).wr (by simp)).cp (by simp)
  · refine ⟨?_, ?_, ?_, ?_, ?_, ?_, ?_, ?_⟩ <;> rw [rc_o (by omega)] <;> simp (disch := decide) only [rq_i, rq_s, rd_bw]
  · intro f f0 f1
    rw [rd_cpy, if_pos ⟨rfl, f0, by omega⟩]
    simp (disch := omega) only [rq_c]
    congr 1
    omega
theorem copy_c {d s : Nat} {m : Int} {w : Int → Int} {σ : Sg} (hds : d + 27 ≤ s ∨ s + 27 ≤ d) (h : CW 150 w σ s) (hm : (d = 28 ∧ m = 0) ∨ (d ≠ 28 ∧ m = 150)) (hs : s ≠ 28) (k1 : rd σ (d + 17) 1 = 16) (k2 : rd σ (d + 19) 1 = 12) (k3 : rd σ (d + 21) 1 = 12) (k4 : rd σ (d + 23) 1 = 12) (k5 : rd σ (d + 25) 1 = m) : wp (fX9_copy d s σ) (fun τ => (∀ (c : Nat) (i : Int), c < d ∨ d + 27 ≤ c → rd τ c i = rd σ c i) ∧ rd τ d 4 = w 84 ∧ ∀ τ', (∀ (c : Nat) (i : Int), c ≠ d ∨ i ≠ 4 → rd τ' c i = rd τ c i) → (rd τ' d 4 = if m = 0 then 0 else w 84) → CW m w τ' d) := by
  obtain ⟨hW, hS, hRF, hRP, ⟨⟨t1, t2, t3⟩, ⟨t4, t5, t6⟩, ⟨t7, t8, t9⟩, ⟨u1, u2, u3⟩⟩, hB, hL⟩ := h
  obtain ⟨⟨a1, a2, a3, a4, a5, a6, a7, a8, a9⟩, hF, hP, ⟨hV, -⟩, ⟨hY, -⟩, ⟨hN, -⟩, ⟨hZ, -⟩⟩ := id hW
  obtain ⟨S0, S1, S2, S3, S4, S5, S6, S7⟩ := hS
  have t2 : rd σ (s + 17) 2 = w 87 := t2
  have t5 : rd σ (s + 19) 2 = w 88 := t5
  have t8 : rd σ (s + 21) 2 = w 89 := t8
  have u2 : rd σ (s + 23) 2 = w 90 := u2
  have hB2 : rd σ (s + 25) 2 = w 3 ∧ ∀ i : Int, 0 ≤ i → i < w 3 → rd σ (s + 26) (4 * i) = w (311 + 4 * i) ∧ rd σ (s + 26) (4 * i + 1) = w (312 + 4 * i) ∧ rd σ (s + 26) (4 * i + 2) = w (313 + 4 * i) ∧ rd σ (s + 26) (4 * i + 3) = w (314 + 4 * i) := by
    rcases hB.2 with ⟨z, -⟩ | ⟨-, z⟩
    · exact absurd z (by decide)
    · exact z
  have hL7 : 0 ≤ rd σ (s + 10) 7 ∧ rd σ (s + 10) 7 ≤ 400 := hL.2.2.1
  obtain ⟨s0, e0, f0, c0, n0⟩ := scal_cp (σ := σ) hds
  rw [e0, wp_bind]
  refine wp_mono (folk_cp (by omega)) (fun s1 h1 => ?_)
  obtain ⟨f1, g1, p1⟩ := h1
  have o1 : ∀ (c : Nat) (i : Int), c ≠ d → c ≠ d + 1 → (c < d + 3 ∨ d + 9 < c) → rd s1 c i = rd σ c i := fun c i z1 z2 z3 => (f1 c i (by simp <;> omega)).trans (f0 c i (by simp <;> omega))
  rw [wp_bind]
  refine wp_mono (law_cp (by omega) (by rw [o1 _ _ (by omega) (by omega) (by omega)]; exact hL7)) (fun s2 h2 => ?_)
  obtain ⟨f2, l6, l7, l11, l12, l13, l14⟩ := h2
  have o2 : ∀ (c : Nat) (i : Int), c ≠ d → c ≠ d + 1 → (c < d + 3 ∨ d + 14 < c) → rd s2 c i = rd σ c i := fun c i z1 z2 z3 => (f2 c i (by simp <;> omega)).trans (o1 c i z1 z2 (by omega))
  rw [wp_bind]
  have q1 : rd s2 (s + 17) 2 = w 87 ∧ rd s2 (d + 17) 1 = 16 := ⟨(o2 _ _ (by omega) (by omega) (by omega)).trans t2, (o2 _ _ (by omega) (by omega) (by omega)).trans k1⟩
  refine wp_mono (rows_cp (by omega) (by omega) (by omega) (by omega) (by omega)) (fun s3 h3 => ?_)
  rw [q1.1, q1.2, show min (w 87) 16 = w 87 by omega] at h3
  obtain ⟨f3, v2, v1, v3⟩ := h3
  have o3 : ∀ (c : Nat) (i : Int), c ≠ d → c ≠ d + 1 → (c < d + 3 ∨ d + 18 < c) → rd s3 c i = rd σ c i := fun c i z1 z2 z3 => (f3 c i (by simp <;> omega)).trans (o2 c i z1 z2 (by omega))
  rw [wp_bind]
  have q2 : rd s3 (s + 19) 2 = w 88 ∧ rd s3 (d + 19) 1 = 12 := ⟨(o3 _ _ (by omega) (by omega) (by omega)).trans t5, (o3 _ _ (by omega) (by omega) (by omega)).trans k2⟩
  refine wp_mono (rows_cp (by omega) (by omega) (by omega) (by omega) (by omega)) (fun s4 h4 => ?_)
  rw [q2.1, q2.2, show min (w 88) 12 = w 88 by omega] at h4
  obtain ⟨f4, y2, y1, y3⟩ := h4
  have o4 : ∀ (c : Nat) (i : Int), c ≠ d → c ≠ d + 1 → (c < d + 3 ∨ d + 20 < c) → rd s4 c i = rd σ c i := fun c i z1 z2 z3 => (f4 c i (by simp <;> omega)).trans (o3 c i z1 z2 (by omega))
  rw [wp_bind]
  have q3 : rd s4 (s + 21) 2 = w 89 ∧ rd s4 (d + 21) 1 = 12 := ⟨(o4 _ _ (by omega) (by omega) (by omega)).trans t8, (o4 _ _ (by omega) (by omega) (by omega)).trans k3⟩
  refine wp_mono (rows_cp (by omega) (by omega) (by omega) (by omega) (by omega)) (fun s5 h5 => ?_)
  rw [q3.1, q3.2, show min (w 89) 12 = w 89 by omega] at h5
  obtain ⟨f5, x2, x1, x3⟩ := h5
  have o5 : ∀ (c : Nat) (i : Int), c ≠ d → c ≠ d + 1 → (c < d + 3 ∨ d + 22 < c) → rd s5 c i = rd σ c i := fun c i z1 z2 z3 => (f5 c i (by simp <;> omega)).trans (o4 c i z1 z2 (by omega))
  rw [wp_bind]
  have q4 : rd s5 (s + 23) 2 = w 90 ∧ rd s5 (d + 23) 1 = 12 := ⟨(o5 _ _ (by omega) (by omega) (by omega)).trans u2, (o5 _ _ (by omega) (by omega) (by omega)).trans k4⟩
  refine wp_mono (rows_cp (by omega) (by omega) (by omega) (by omega) (by omega)) (fun s6 h6 => ?_)
  rw [q4.1, q4.2, show min (w 90) 12 = w 90 by omega] at h6
  obtain ⟨f6, z2, z1, z3⟩ := h6
  have o6 : ∀ (c : Nat) (i : Int), c ≠ d → c ≠ d + 1 → (c < d + 3 ∨ d + 24 < c) → rd s6 c i = rd σ c i := fun c i z1 z2 z3 => (f6 c i (by simp <;> omega)).trans (o5 c i z1 z2 (by omega))
  rw [wp_bind]
  have q5 : rd s6 (s + 25) 2 = w 3 ∧ rd s6 (d + 25) 1 = m := ⟨(o6 _ _ (by omega) (by omega) (by omega)).trans hB2.1, (o6 _ _ (by omega) (by omega) (by omega)).trans k5⟩
  have hN5 : 4 * min (w 3) m ≤ (bkN d : Int) ∧ 4 * min (w 3) m ≤ (bkN s : Int) := by
    unfold bkN
    rw [if_neg hs]
    rcases hm with ⟨e, e2⟩ | ⟨e, e2⟩
    · rw [if_pos e]; omega
    · rw [if_neg e]; omega
  refine wp_mono (rows_cp (by omega) (by omega) (by omega) (by omega) (by rw [q5.1, q5.2]; exact hN5)) (fun s7 h7 => ?_)
  rw [q5.1, q5.2] at h7
  obtain ⟨f7, b2, b1, b3⟩ := h7
  rw [wp_some]
  have o7 : ∀ (c : Nat) (i : Int), c ≠ d → c ≠ d + 1 → (c < d + 3 ∨ d + 26 < c) → rd s7 c i = rd σ c i := fun c i z1 z2 z3 => (f7 c i (by simp <;> omega)).trans (o6 c i z1 z2 (by omega))
  -- what each room says at the end
  have r6 : ∀ (c : Nat) (i : Int), c < d + 25 → rd s7 c i = rd s6 c i := fun c i z => f7 c i (by simp <;> omega)
  have r5 : ∀ (c : Nat) (i : Int), c < d + 23 → rd s7 c i = rd s5 c i := fun c i z => (r6 c i (by omega)).trans (f6 c i (by simp <;> omega))
  have r4 : ∀ (c : Nat) (i : Int), c < d + 21 → rd s7 c i = rd s4 c i := fun c i z => (r5 c i (by omega)).trans (f5 c i (by simp <;> omega))
  have r3 : ∀ (c : Nat) (i : Int), c < d + 19 → rd s7 c i = rd s3 c i := fun c i z => (r4 c i (by omega)).trans (f4 c i (by simp <;> omega))
  have r2 : ∀ (c : Nat) (i : Int), c < d + 17 → rd s7 c i = rd s2 c i := fun c i z => (r3 c i (by omega)).trans (f3 c i (by simp <;> omega))
  have r1 : ∀ (c : Nat) (i : Int), c < d + 10 → rd s7 c i = rd s1 c i := fun c i z => (r2 c i (by omega)).trans (f2 c i (by simp <;> omega))
  have r0 : ∀ (c : Nat) (i : Int), c < d + 3 → rd s7 c i = rd s0 c i := fun c i z => (r1 c i (by omega)).trans (f1 c i (by simp <;> omega))
  obtain ⟨c00, c01, c02, c03, c04, c05, c06, c07⟩ := c0
  have S4' : rd σ s 4 = w 84 := S4
  refine ⟨fun c i hc => o7 c i (by omega) (by omega) (by omega), ?_, fun τ' ht h4 => ?_⟩
  · rw [r0 _ _ (by omega), c04]; exact S4'
  have hp : ∀ k : Nat, 4 ≤ k → k ≤ 9 → ∀ p : Int, 0 ≤ p → p < 12 → rd τ' (d + k) p = rd σ (s + k) p := by
    intro k k0 k9 p p0 p12
    have := p1 (k - 3) (by omega) (by omega) p p0 p12
    rw [show d + 3 + (k - 3) = d + k by omega, show s + 3 + (k - 3) = s + k by omega] at this
    rw [ht _ _ (by omega), r1 _ _ (by omega), this]
    exact f0 _ _ (by simp <;> omega)
  have sn : ∀ f : Int, 0 ≤ f → f < 56 → rd τ' (d + 1) f = rd σ (s + 1) f := fun f g0 g1 => by rw [ht _ _ (by omega), r0 _ _ (by omega)]; exact n0 f g0 g1
  have l1o : ∀ (k : Nat) (i : Int), 10 ≤ k → k ≤ 14 → rd s1 (s + k) i = rd σ (s + k) i := fun k i z1 z2 => o1 _ _ (by omega) (by omega) (by omega)
  have lt : ∀ (k : Nat) (i : Int), 10 ≤ k → k ≤ 14 → rd τ' (d + k) i = rd s2 (d + k) i := fun k i z1 z2 => (ht _ _ (by omega)).trans (r2 _ _ (by omega))
  have e7 : rd s1 (s + 10) 7 = rd σ (s + 10) 7 := l1o 10 7 (by decide) (by decide)
  rw [e7] at l11
  refine ⟨hW, ⟨?_, ?_, ?_, ?_, h4, ?_, ?_, ?_⟩, ⟨fun f hf => ?_, fun f g0 g1 => ?_⟩, ⟨?_, fun p hp' => ?_⟩, ⟨⟨?_, ?_, fun i i0 i1 => ?_⟩, ⟨?_, ?_, fun i i0 i1 => ?_⟩, ⟨?_, ?_, fun i i0 i1 => ?_⟩, ⟨?_, ?_, fun i i0 i1 => ?_⟩⟩, ⟨?_, ?_⟩, LR_cp (g := vw σ s) ?_ ?_ (fun j j0 j1 => ?_) (fun j j0 j1 => ?_) (fun j j0 j1 => ?_) (fun j j0 j1 => ?_) hL⟩
  · show rd τ' d 0 = _
    rw [ht _ _ (by omega), r0 _ _ (by omega), c00]; exact S0
  · show rd τ' d 1 = _
    rw [ht _ _ (by omega), r0 _ _ (by omega), c01]; exact S1
  · show rd τ' d 2 = _
    rw [ht _ _ (by omega), r0 _ _ (by omega), c02]; exact S2
  · show rd τ' d 3 = _
    rw [ht _ _ (by omega), r0 _ _ (by omega), c03]; exact S3
  · show rd τ' d 5 = _
    rw [ht _ _ (by omega), r0 _ _ (by omega), c05]; exact S5
  · show rd τ' d 6 = _
    rw [ht _ _ (by omega), r0 _ _ (by omega), c06]; exact S6
  · show rd τ' d 7 = _
    rw [ht _ _ (by omega), r0 _ _ (by omega), c07]; exact S7
  · have := isF_b hf
    show rd τ' (d + 1) f = _
    rw [sn f this.1 this.2]; exact hRF.1 f hf
  · show 0 ≤ rd τ' (d + 1) f ∧ rd τ' (d + 1) f ≤ 99
    rw [sn f g0 g1]; exact hRF.2 f g0 g1
  · show rd τ' (d + 3) 6 = _
    rw [ht _ _ (by omega), r1 _ _ (by omega), g1, f0 _ _ (by simp <;> omega)]
    exact hRP.1
  · have p0 := hp'.1
    have p12 := hp'.2
    have q := hRP.2 p hp'
    show rd τ' (d + 4) p = _ ∧ rd τ' (d + 5) p = _ ∧ rd τ' (d + 6) p = _ ∧ rd τ' (d + 7) p = _ ∧ rd τ' (d + 8) p = _ ∧ rd τ' (d + 9) p = _
    rw [hp 4 (by decide) (by decide) p p0 (by omega), hp 5 (by decide) (by decide) p p0 (by omega), hp 6 (by decide) (by decide) p p0 (by omega), hp 7 (by decide) (by decide) p p0 (by omega), hp 8 (by decide) (by decide) p p0 (by omega), hp 9 (by decide) (by decide) p p0 (by omega)]
    exact q
  · show rd τ' (d + 17) 1 = _
    rw [ht _ _ (by omega), r3 _ _ (by omega), v1]
  · show rd τ' (d + 17) 2 = _
    rw [ht _ _ (by omega), r3 _ _ (by omega), v2]
  · show rd τ' (d + 17 + 1) _ = _ ∧ rd τ' (d + 17 + 1) _ = _ ∧ rd τ' (d + 17 + 1) _ = _ ∧ rd τ' (d + 17 + 1) _ = _
    simp only [ht (d + 17 + 1) _ (Or.inl (show d + 17 + 1 ≠ d by omega)), r3 (d + 17 + 1) _ (show d + 17 + 1 < d + 19 by omega)]
    rw [v3 (4 * i) (by omega) (by omega), v3 (4 * i + 1) (by omega) (by omega), v3 (4 * i + 2) (by omega) (by omega), v3 (4 * i + 3) (by omega) (by omega)]
    simp only [o2 (s + 17 + 1) _ (show s + 17 + 1 ≠ d by omega) (show s + 17 + 1 ≠ d + 1 by omega) (show s + 17 + 1 < d + 3 ∨ d + 14 < s + 17 + 1 by omega)]
    exact t3 i i0 i1
  · show rd τ' (d + 19) 1 = _
    rw [ht _ _ (by omega), r4 _ _ (by omega), y1]
  · show rd τ' (d + 19) 2 = _
    rw [ht _ _ (by omega), r4 _ _ (by omega), y2]
  · show rd τ' (d + 19 + 1) _ = _ ∧ rd τ' (d + 19 + 1) _ = _
    simp only [ht (d + 19 + 1) _ (Or.inl (show d + 19 + 1 ≠ d by omega)), r4 (d + 19 + 1) _ (show d + 19 + 1 < d + 21 by omega)]
    rw [y3 (4 * i) (by omega) (by omega), y3 (4 * i + 1) (by omega) (by omega)]
    simp only [o3 (s + 19 + 1) _ (show s + 19 + 1 ≠ d by omega) (show s + 19 + 1 ≠ d + 1 by omega) (show s + 19 + 1 < d + 3 ∨ d + 18 < s + 19 + 1 by omega)]
    exact t6 i i0 i1
  · show rd τ' (d + 21) 1 = _
    rw [ht _ _ (by omega), r5 _ _ (by omega), x1]
  · show rd τ' (d + 21) 2 = _
    rw [ht _ _ (by omega), r5 _ _ (by omega), x2]
  · show rd τ' (d + 21 + 1) _ = _ ∧ rd τ' (d + 21 + 1) _ = _ ∧ rd τ' (d + 21 + 1) _ = _
    simp only [ht (d + 21 + 1) _ (Or.inl (show d + 21 + 1 ≠ d by omega)), r5 (d + 21 + 1) _ (show d + 21 + 1 < d + 23 by omega)]
    rw [x3 (4 * i) (by omega) (by omega), x3 (4 * i + 1) (by omega) (by omega), x3 (4 * i + 2) (by omega) (by omega)]
    simp only [o4 (s + 21 + 1) _ (show s + 21 + 1 ≠ d by omega) (show s + 21 + 1 ≠ d + 1 by omega) (show s + 21 + 1 < d + 3 ∨ d + 20 < s + 21 + 1 by omega)]
    exact t9 i i0 i1
  · show rd τ' (d + 23) 1 = _
    rw [ht _ _ (by omega), r6 _ _ (by omega), z1]
  · show rd τ' (d + 23) 2 = _
    rw [ht _ _ (by omega), r6 _ _ (by omega), z2]
  · show rd τ' (d + 23 + 1) _ = _ ∧ rd τ' (d + 23 + 1) _ = _ ∧ rd τ' (d + 23 + 1) _ = _
    simp only [ht (d + 23 + 1) _ (Or.inl (show d + 23 + 1 ≠ d by omega)), r6 (d + 23 + 1) _ (show d + 23 + 1 < d + 25 by omega)]
    rw [z3 (4 * i) (by omega) (by omega), z3 (4 * i + 1) (by omega) (by omega), z3 (4 * i + 2) (by omega) (by omega)]
    simp only [o5 (s + 23 + 1) _ (show s + 23 + 1 ≠ d by omega) (show s + 23 + 1 ≠ d + 1 by omega) (show s + 23 + 1 < d + 3 ∨ d + 22 < s + 23 + 1 by omega)]
    exact u3 i i0 i1
  · show rd τ' (d + 25) 1 = _
    rw [ht _ _ (by omega), b1]
  · rcases hm with ⟨-, e2⟩ | ⟨-, e2⟩
    · refine Or.inl ⟨e2, ?_⟩
      show rd τ' (d + 25) 2 = _
      rw [ht _ _ (by omega), b2]; omega
    · refine Or.inr ⟨e2, ?_, fun i i0 i1 => ?_⟩
      · show rd τ' (d + 25) 2 = _
        rw [ht _ _ (by omega), b2]; omega
      · show rd τ' (d + 25 + 1) _ = _ ∧ rd τ' (d + 25 + 1) _ = _ ∧ rd τ' (d + 25 + 1) _ = _ ∧ rd τ' (d + 25 + 1) _ = _
        simp only [ht (d + 25 + 1) _ (Or.inl (show d + 25 + 1 ≠ d by omega))]
        rw [b3 (4 * i) (by omega) (by omega), b3 (4 * i + 1) (by omega) (by omega), b3 (4 * i + 2) (by omega) (by omega), b3 (4 * i + 3) (by omega) (by omega)]
        simp only [o6 (s + 25 + 1) _ (show s + 25 + 1 ≠ d by omega) (show s + 25 + 1 ≠ d + 1 by omega) (show s + 25 + 1 < d + 3 ∨ d + 24 < s + 25 + 1 by omega)]
        exact hB2.2 i i0 i1
  · show rd τ' (d + 10) 6 = rd σ (s + 10) 6
    rw [lt 10 6 (by decide) (by decide), l6]; exact l1o 10 6 (by decide) (by decide)
  · show rd τ' (d + 10) 7 = rd σ (s + 10) 7
    rw [lt 10 7 (by decide) (by decide), l7]; exact e7
  · show rd τ' (d + 11) j = rd σ (s + 11) j
    rw [lt 11 j (by decide) (by decide)]
    exact (l11 j j0 j1).trans (l1o 11 j (by decide) (by decide))
  · show rd τ' (d + 12) j = rd σ (s + 12) j
    rw [lt 12 j (by decide) (by decide)]
    exact (l12 j j0 j1).trans (l1o 12 j (by decide) (by decide))
  · show rd τ' (d + 13) j = rd σ (s + 13) j
    rw [lt 13 j (by decide) (by decide)]
    exact (l13 j j0 j1).trans (l1o 13 j (by decide) (by decide))
  · show rd τ' (d + 14) j = rd σ (s + 14) j
    rw [lt 14 j (by decide) (by decide)]
    exact (l14 j j0 j1).trans (l1o 14 j (by decide) (by decide))
