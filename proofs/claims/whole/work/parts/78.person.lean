/-! a new person -/
theorem CG_per {w w' : Int → Int} {g g' : Nat → Int → Int} {n : Int} (h : CG 150 w g) (hn : n = w 85) (hn12 : n < 12) (hw : ∀ j : Int, j ≠ 85 → j ≠ 91 + n → j ≠ 103 + n → j ≠ 115 + n → j ≠ 127 + n → j ≠ 139 + n → j ≠ 68 + n → w' j = w j) (h85 : w' 85 = n + 1) (v1 : w' (91 + n) = 0 ∨ w' (91 + n) = 1) (v2 : 0 ≤ w' (103 + n) ∧ w' (103 + n) ≤ 9) (v3 : 0 ≤ w' (115 + n) ∧ w' (115 + n) ≤ 9) (v4 : isF w (w' (127 + n))) (v5 : w' (68 + n) = -1) (v6 : w' (139 + n) = 0) (hg : ∀ (k : Nat) (i : Int), ¬ (k = 3 ∧ i = 6) → ¬ (4 ≤ k ∧ k ≤ 9 ∧ i = n) → g' k i = g k i) (g3 : g' 3 6 = n + 1) (g4 : g' 4 n = w' (91 + n)) (g5 : g' 5 n = w' (103 + n)) (g6 : g' 6 n = w' (115 + n)) (g7 : g' 7 n = w' (127 + n)) (g8 : g' 8 n = w' (68 + n)) (g9 : g' 9 n = w' (139 + n)) : CG 150 w' g' := by
  obtain ⟨⟨⟨a1, a2, a3, a4, a5, a6, a7, a8, a9⟩, hF, hP, hV, hY, hN, hZ⟩, hS, hRF, hRP, hT, hB, hL⟩ := h
  have hw' : ∀ j : Int, j < 68 ∨ (80 ≤ j ∧ j < 85) ∨ (86 ≤ j ∧ j < 91) ∨ 151 ≤ j → w' j = w j := fun j hj => hw j (by omega) (by omega) (by omega) (by omega) (by omega) (by omega) (by omega)
  have old : ∀ p : Int, isP w p → w' (91 + p) = w (91 + p) ∧ w' (103 + p) = w (103 + p) ∧ w' (115 + p) = w (115 + p) ∧ w' (127 + p) = w (127 + p) ∧ w' (68 + p) = w (68 + p) ∧ w' (139 + p) = w (139 + p) := by
    intro p hp
    have p0 := hp.1
    have p1 := hp.2
    exact ⟨hw _ (by omega) (by omega) (by omega) (by omega) (by omega) (by omega) (by omega), hw _ (by omega) (by omega) (by omega) (by omega) (by omega) (by omega) (by omega), hw _ (by omega) (by omega) (by omega) (by omega) (by omega) (by omega) (by omega), hw _ (by omega) (by omega) (by omega) (by omega) (by omega) (by omega) (by omega), hw _ (by omega) (by omega) (by omega) (by omega) (by omega) (by omega) (by omega), hw _ (by omega) (by omega) (by omega) (by omega) (by omega) (by omega) (by omega)⟩
  have e80 := hw' 80 (by omega)
  have e81 := hw' 81 (by omega)
  have e87 := hw' 87 (by omega)
  have e88 := hw' 88 (by omega)
  have e89 := hw' 89 (by omega)
  have e90 := hw' 90 (by omega)
  have e3 := hw' 3 (by omega)
  have eF : ∀ c, isF w' c ↔ isF w c := fun c => by unfold isF; rw [e80, e81]
  have eP : ∀ c, isP w c → isP w' c := fun c hc => ⟨hc.1, by have := hc.2; omega⟩
  have cP : ∀ c, isP w' c → isP w c ∨ c = n := fun c hc => by
    have c0 := hc.1
    have c1 := hc.2
    by_cases e : c = n
    · exact Or.inr e
    · exact Or.inl ⟨c0, by omega⟩
  have gg : ∀ k : Nat, k < 3 ∨ 10 ≤ k → ∀ i, g' k i = g k i := fun k hk i => hg k i (by omega) (by omega)
  refine ⟨⟨⟨by rw [e80]; exact a1, by rw [e81]; exact a2, by rw [hw' 82 (by omega)]; exact a3, by rw [hw' 83 (by omega)]; exact a4, by rw [hw' 84 (by omega)]; exact a5, by omega, by rw [hw' 0 (by omega)]; exact a7, by rw [hw' 1 (by omega)]; exact a8, by rw [e3]; exact a9⟩, fun f hf => ?_, fun p hp => ?_, ⟨by rw [e87]; exact hV.1, fun i i0 i1 => ?_⟩, ⟨by rw [e88]; exact hY.1, fun i i0 i1 => ?_⟩, ⟨by rw [e89]; exact hN.1, fun i i0 i1 => ?_⟩, ⟨by rw [e90]; exact hZ.1, fun i i0 i1 => ?_⟩⟩, ?_, ⟨fun f hf => ?_, fun f f0 f1 => by rw [gg 1 (by omega)]; exact hRF.2 f f0 f1⟩, ⟨by rw [g3, h85], fun p hp => ?_⟩, ?_, RB_congr hB e3 a9.2 (fun j j0 j1 => hw' j (by omega)) (gg 25 (by omega)) (gg 26 (by omega)), LR_congr (hw' 86 (by omega)) (fun j hj => hw' j (by omega)) (fun k k1 k2 => gg k (by omega)) hL⟩
  · have hf' := (eF f).mp hf
    have := isF_b hf'
    rw [hw' (4 + f) (by omega)]
    exact hF f hf'
  · rcases cP p hp with hp' | rfl
    · obtain ⟨q1, q2, q3, q4, q5, q6⟩ := old p hp'
      obtain ⟨p1, p2, p3, p4, p5, p6⟩ := hP p hp'
      rw [q1, q2, q3, q4, q5, q6]
      exact ⟨p1, p2, p3, (eF _).mpr p4, p5.imp id (eP _), p6⟩
    · exact ⟨v1, v2, v3, (eF _).mpr v4, Or.inl v5, by rw [v6]; decide⟩
  · rw [e87] at i1
    obtain ⟨u1, u2, u3, u4, u5⟩ := hV.2 i i0 i1
    rw [hw' (151 + 4 * i) (by omega), hw' (152 + 4 * i) (by omega), hw' (153 + 4 * i) (by omega), hw' (154 + 4 * i) (by omega), (old _ u2).1, (old _ u3).1]
    exact ⟨u1, eP _ u2, eP _ u3, u4, (eF _).mpr u5⟩
  · rw [e88] at i1
    rw [hw' (215 + 2 * i) (by omega), hw' (216 + 2 * i) (by omega)]
    exact hY.2 i i0 i1
  · rw [e89] at i1
    obtain ⟨u1, u2, u3⟩ := hN.2 i i0 i1
    rw [hw' (239 + 3 * i) (by omega), hw' (240 + 3 * i) (by omega), hw' (241 + 3 * i) (by omega)]
    exact ⟨(eF _).mpr u1, u2, u3⟩
  · rw [e90] at i1
    obtain ⟨u1, u2, u3⟩ := hZ.2 i i0 i1
    rw [hw' (275 + 3 * i) (by omega), hw' (276 + 3 * i) (by omega), hw' (277 + 3 * i) (by omega)]
    exact ⟨eP _ u1, u2, u3⟩
  · obtain ⟨s0, s1, s2, s3, s4, s5, s6, s7⟩ := hS
    unfold RS
    rw [gg 0 (by omega), gg 0 (by omega), gg 0 (by omega), gg 0 (by omega), gg 0 (by omega), gg 0 (by omega), gg 0 (by omega), gg 0 (by omega), e80, e81, hw' 82 (by omega), hw' 83 (by omega), hw' 84 (by omega), hw' 1 (by omega), hw' 0 (by omega), hw' 2 (by omega)]
    exact ⟨s0, s1, s2, s3, s4, s5, s6, s7⟩
  · have hf' := (eF f).mp hf
    have := isF_b hf'
    rw [hw' (4 + f) (by omega), gg 1 (by omega)]
    exact hRF.1 f hf'
  · rcases cP p hp with hp' | rfl
    · obtain ⟨q1, q2, q3, q4, q5, q6⟩ := old p hp'
      have p1 := hp'.2
      rw [q1, q2, q3, q4, q5, q6, hg 4 p (by omega) (by omega), hg 5 p (by omega) (by omega), hg 6 p (by omega) (by omega), hg 7 p (by omega) (by omega), hg 8 p (by omega) (by omega), hg 9 p (by omega) (by omega)]
      exact hRP.2 p hp'
    · exact ⟨g4, g5, g6, g7, g8, g9⟩
  · obtain ⟨⟨t1, t2, t3⟩, ⟨t4, t5, t6⟩, ⟨t7, t8, t9⟩, ⟨u1, u2, u3⟩⟩ := hT
    refine ⟨⟨by rw [gg 17 (by omega)]; exact t1, by rw [gg 17 (by omega), e87]; exact t2, fun i i0 i1 => ?_⟩, ⟨by rw [gg 19 (by omega)]; exact t4, by rw [gg 19 (by omega), e88]; exact t5, fun i i0 i1 => ?_⟩, ⟨by rw [gg 21 (by omega)]; exact t7, by rw [gg 21 (by omega), e89]; exact t8, fun i i0 i1 => ?_⟩, ⟨by rw [gg 23 (by omega)]; exact u1, by rw [gg 23 (by omega), e90]; exact u2, fun i i0 i1 => ?_⟩⟩
    · rw [e87] at i1
      rw [gg 18 (by omega), gg 18 (by omega), gg 18 (by omega), gg 18 (by omega), hw' (151 + 4 * i) (by omega), hw' (152 + 4 * i) (by omega), hw' (153 + 4 * i) (by omega), hw' (154 + 4 * i) (by omega)]
      exact t3 i i0 i1
    · rw [e88] at i1
      rw [gg 20 (by omega), gg 20 (by omega), hw' (215 + 2 * i) (by omega), hw' (216 + 2 * i) (by omega)]
      exact t6 i i0 i1
    · rw [e89] at i1
      rw [gg 22 (by omega), gg 22 (by omega), gg 22 (by omega), hw' (239 + 3 * i) (by omega), hw' (240 + 3 * i) (by omega), hw' (241 + 3 * i) (by omega)]
      exact t9 i i0 i1
    · rw [e90] at i1
      rw [gg 24 (by omega), gg 24 (by omega), gg 24 (by omega), hw' (275 + 3 * i) (by omega), hw' (276 + 3 * i) (by omega), hw' (277 + 3 * i) (by omega)]
      exact u3 i i0 i1
def addS (σ : Sg) (n s t hp hm : Int) : Sg := wr (wr (wr (wr (wr (wr (wr σ 5 n s) 6 n t) 7 n hp) 8 n hm) 9 n (-1)) 10 n 0) 4 6 (n + 1)
def addM (σ : Sg) (n s t hp hm : Int) : Sg := wr (wr (wr (wr (wr (wr (wr σ 85 (91 + n) s) 85 (103 + n) t) 85 (115 + n) hp) 85 (127 + n) hm) 85 (139 + n) 0) 85 (68 + n) (-1)) 85 85 (n + 1)
theorem add_c {σ : Sg} {n s t hp hm : Int} (hn : rd σ 4 6 = n) (h0 : 0 ≤ n) (h12 : n < 12) : fX1_add 4 s t hp hm σ = some (n, addS σ n s t hp hm) := by
  unfold fX1_add addS
  simp (disch := omega) only [rq_c, hn, rq_s]
  rw [if_pos h12]
  simp only [grd_pos (show (0 : Int) ≤ n ∧ n < 12 from ⟨h0, h12⟩), bw_id (z := n + 1) (by omega) (by omega), bw_id (z := n + 1 - 1) (by omega) (by omega), show n + 1 - 1 = n by omega]
  rw [bw_id (z := n) (by omega) (by omega)]
theorem op_person {has : Bool} {N : Nat} (hN : N ≤ 511) (x1 x2 x3 x4 : Int) (h1 : bw x1 = x1) (h2 : bw x2 = x2) (h3 : bw x3 = x3) (h4 : bw x4 = x4) : OpE has N (fX10_person x1 x2 x3 x4) (fX11_person x1 x2 x3 x4) := by
  intro σ h
  have hC := h.1
  have hW := hC.1
  have h12 := hW.1.2.2.2.2.2.1
  have e46 : rd σ 4 6 = rd σ 85 85 := hC.2.2.2.1.1
  by_cases hc : ((0 ≤ x1 ∧ x1 ≤ 1) ∧ (0 ≤ x2 ∧ x2 ≤ 9) ∧ (0 ≤ x3 ∧ x3 ≤ 9) ∧ isF (rd σ 85) x4) ∧ rd σ 85 85 < 12
  · obtain ⟨⟨c1, c2, c3, c4⟩, c5⟩ := hc
    have fb := isF_b c4
    generalize hn : rd σ 85 85 = n at e46 c5 h12
    have mrow : ∀ τ, rd τ 85 = rd σ 85 → rd (addM τ n x1 x2 x3 x4) 85 = upz (upz (upz (upz (upz (upz (upz (rd σ 85) (91 + n) x1) (103 + n) x2) (115 + n) x3) (127 + n) x4) (139 + n) 0) (68 + n) (-1)) 85 (n + 1) := by
      intro τ e
      unfold addM
      rw [wr_row, wr_row, wr_row, wr_row, wr_row, wr_row, wr_row, e, h1, h2, h3, h4, show bw 0 = 0 from rfl, show bw (-1) = -1 from rfl, bw_id (z := n + 1) (by omega) (by omega)]
    refine opE_wr (v := n) (w' := upz (upz (upz (upz (upz (upz (upz (rd σ 85) (91 + n) x1) (103 + n) x2) (115 + n) x3) (127 + n) x4) (139 + n) 0) (68 + n) (-1)) 85 (n + 1)) h ?_ ?_ ?_ ?_ (fun τ e85 => ?_)
    · rw [upz_n (by omega), upz_n (by omega), upz_n (by omega), upz_n (by omega), upz_n (by omega), upz_n (by omega), upz_n (by omega)]; exact h.2.1
    · rw [upz_n (by omega), upz_n (by omega), upz_n (by omega), upz_n (by omega), upz_n (by omega), upz_n (by omega), upz_n (by omega)]; exact nb_ok h.2.2.1
    · generalize hw' : upz (upz (upz (upz (upz (upz (upz (rd σ 85) (91 + n) x1) (103 + n) x2) (115 + n) x3) (127 + n) x4) (139 + n) 0) (68 + n) (-1)) 85 (n + 1) = w'
      have o139 : ∀ a : Int, 0 ≤ a → a < n → w' (139 + a) = rd σ 85 (139 + a) := fun a a0 a1 => by rw [← hw', upz_n (by omega), upz_n (by omega), upz_n (by omega), upz_n (by omega), upz_n (by omega), upz_n (by omega), upz_n (by omega)]
      have n139 : w' (139 + n) = 0 := by rw [← hw', upz_n (by omega), upz_n (by omega), upz_s]
      have w85 : w' 85 = n + 1 := by rw [← hw', upz_s]
      have kz : ∀ b : Int, 0 ≤ b → b < 31 → kinW w' n b = 0 := by
        intro b b0 b1
        unfold kinW
        rw [n139, kb_bit (by decide) (by decide) b0 b1]
        simp
      intro a ha
      have a0 := ha.1
      have a1 := ha.2
      rw [w85] at a1
      have hpow : 2 ^ (n + 1).toNat = 2 ^ n.toNat * 2 := by rw [show (n + 1).toNat = n.toNat + 1 by omega, Nat.pow_succ]
      rw [w85, hpow]
      by_cases e : a = n
      · subst e
        rw [n139]
        refine ⟨by have := Nat.pow_pos (n := a.toNat) (show 0 < 2 by decide); show 0 < 2 ^ a.toNat * 2; omega, kz a a0 (by omega), fun b hb => ?_⟩
        have b0 := hb.1
        have b1 := hb.2
        rw [w85] at b1
        rw [kz b b0 (by omega)]
        by_cases e2 : b = a
        · rw [e2, kz a a0 (by omega)]
        · have hbP : isP (rd σ 85) b := ⟨b0, by omega⟩
          have kb := (hW.2.2.1 b hbP).2.2.2.2.2
          have kl := (h.2.2.2.1 b hbP).1
          unfold kinW
          rw [o139 b b0 (by omega), kb_bit kb.1 (by omega) a0 (by omega), if_neg]
          rw [Nat.testBit_lt_two_pow (by rw [hn] at kl; exact kl)]
          decide
      · have haP : isP (rd σ 85) a := ⟨a0, by omega⟩
        obtain ⟨k1, k2, k3⟩ := h.2.2.2.1 a haP
        rw [hn] at k1
        rw [o139 a a0 (by omega)]
        refine ⟨by omega, by unfold kinW; rw [o139 a a0 (by omega)]; exact k2, fun b hb => ?_⟩
        have b0 := hb.1
        have b1 := hb.2
        rw [w85] at b1
        by_cases e2 : b = n
        · rw [e2, kz a a0 (by omega)]
          have ka := (hW.2.2.1 a haP).2.2.2.2.2
          unfold kinW
          rw [o139 a a0 (by omega), kb_bit ka.1 (by omega) (by omega) (by omega), if_neg]
          rw [Nat.testBit_lt_two_pow (show (rd σ 85 (139 + a)).toNat < 2 ^ n.toNat from k1)]
          decide
        · have hbP : isP (rd σ 85) b := ⟨b0, by omega⟩
          unfold kinW
          rw [o139 a a0 (by omega), o139 b b0 (by omega)]
          exact k3 b hbP
    · have e1 : fX10_person x1 x2 x3 x4 σ = some (n, wr (addS σ n x1 x2 x3 x4) 55 3 0) := by
        unfold fX10_person
        rw [within_m, within_m, within_m, hasField_c hC, if_pos c1, if_neg n10, if_pos c2, if_neg n10, if_pos c3, if_neg n10, if_pos c4, if_neg n10, add_c e46 h12.1 c5]
        show (if n = -1 then some (n, addS σ n x1 x2 x3 x4) else some (n, wr (addS σ n x1 x2 x3 x4) 55 3 0)) = _
        rw [if_neg (by omega)]
      rw [e1, wp_some]
      have hFr : Fr nowC σ (addS σ n x1 x2 x3 x4) := ((((((Fr.rf.wr (by decide)).wr (by decide)).wr (by decide)).wr (by decide)).wr (by decide)).wr (by decide)).wr (by decide)
      refine ⟨rfl, ?_, rq_s, (rq_i (by decide)).trans (hFr 55 4 (by decide)), (hFr.mo (by decide)).wr (by decide)⟩
      refine CW.fr ?_ (Fr.wr (l := [55]) Fr.rf (by decide)) (by decide)
      have u : ∀ (k : Nat) (i : Int), rd (addS σ n x1 x2 x3 x4) (1 + k) i = if k = 3 ∧ i = 6 then n + 1 else if k = 9 ∧ i = n then 0 else if k = 8 ∧ i = n then -1 else if k = 7 ∧ i = n then x4 else if k = 6 ∧ i = n then x3 else if k = 5 ∧ i = n then x2 else if k = 4 ∧ i = n then x1 else rd σ (1 + k) i := by
        intro k i
        unfold addS
        simp only [rd_wr]
        rw [h1, h2, h3, h4, show bw 0 = 0 from rfl, show bw (-1) = -1 from rfl, bw_id (z := n + 1) (by omega) (by omega)]
        have q : ∀ a c : Nat, 1 + a = c → (1 + k = c ↔ k = a) := fun a c e => by omega
        simp only [q 3 4 rfl, q 9 10 rfl, q 8 9 rfl, q 7 8 rfl, q 6 7 rfl, q 5 6 rfl, q 4 5 rfl]
      have vv : ∀ (k : Nat) (i : Int), ¬ (k = 2 ∨ k = 15 ∨ k = 16 ∨ 27 ≤ k) → vw (addS σ n x1 x2 x3 x4) 1 k i = rd (addS σ n x1 x2 x3 x4) (1 + k) i := fun k i hk => by unfold vw; rw [if_neg hk]
      refine CG_per hC (n := n) hn.symm c5 (fun j j1 j2 j3 j4 j5 j6 j7 => by rw [upz_n j1, upz_n j7, upz_n j6, upz_n j5, upz_n j4, upz_n j3, upz_n j2]) upz_s ?_ ?_ ?_ ?_ ?_ ?_ (fun k i k1 k2 => ?_) ?_ ?_ ?_ ?_ ?_ ?_ ?_
      · rw [upz_n (by omega), upz_n (by omega), upz_n (by omega), upz_n (by omega), upz_n (by omega), upz_n (by omega), upz_s]; omega
      · rw [upz_n (by omega), upz_n (by omega), upz_n (by omega), upz_n (by omega), upz_n (by omega), upz_s]; exact c2
      · rw [upz_n (by omega), upz_n (by omega), upz_n (by omega), upz_n (by omega), upz_s]; exact c3
      · rw [upz_n (by omega), upz_n (by omega), upz_n (by omega), upz_s]; exact c4
      · rw [upz_n (by omega), upz_s]
      · rw [upz_n (by omega), upz_n (by omega), upz_s]
      · unfold vw
        split
        · rfl
        · rw [u, if_neg k1, if_neg (by omega), if_neg (by omega), if_neg (by omega), if_neg (by omega), if_neg (by omega), if_neg (by omega)]
      · rw [vv 3 6 (by decide), u, if_pos ⟨rfl, rfl⟩]
      · rw [vv 4 n (by decide), u, if_neg (by omega), if_neg (by omega), if_neg (by omega), if_neg (by omega), if_neg (by omega), if_neg (by omega), if_pos ⟨rfl, rfl⟩, upz_n (by omega), upz_n (by omega), upz_n (by omega), upz_n (by omega), upz_n (by omega), upz_n (by omega), upz_s]
      · rw [vv 5 n (by decide), u, if_neg (by omega), if_neg (by omega), if_neg (by omega), if_neg (by omega), if_neg (by omega), if_pos ⟨rfl, rfl⟩, upz_n (by omega), upz_n (by omega), upz_n (by omega), upz_n (by omega), upz_n (by omega), upz_s]
      · rw [vv 6 n (by decide), u, if_neg (by omega), if_neg (by omega), if_neg (by omega), if_neg (by omega), if_pos ⟨rfl, rfl⟩, upz_n (by omega), upz_n (by omega), upz_n (by omega), upz_n (by omega), upz_s]
      · rw [vv 7 n (by decide), u, if_neg (by omega), if_neg (by omega), if_neg (by omega), if_pos ⟨rfl, rfl⟩, upz_n (by omega), upz_n (by omega), upz_n (by omega), upz_s]
      · rw [vv 8 n (by decide), u, if_neg (by omega), if_neg (by omega), if_pos ⟨rfl, rfl⟩, upz_n (by omega), upz_s]
      · rw [vv 9 n (by decide), u, if_neg (by omega), if_pos ⟨rfl, rfl⟩, upz_n (by omega), upz_n (by omega), upz_s]
    · have hn' : rd τ 85 85 = n := by rw [e85]; exact hn
      have e2 : fX11_person x1 x2 x3 x4 τ = some (n, wr (addM τ n x1 x2 x3 x4) 84 4 0) := by
        unfold fX11_person
        rw [isIn_m, isIn_m, isIn_m, isField_m hW e85, if_pos c1, if_neg n10, if_pos c2, if_neg n10, if_pos c3, if_neg n10, if_pos c4, if_neg n10, hn', if_neg (by omega), bw_id (z := 91 + n) (by omega) (by omega), bw_id (z := 103 + n) (by omega) (by omega), bw_id (z := 115 + n) (by omega) (by omega), bw_id (z := 127 + n) (by omega) (by omega), bw_id (z := 139 + n) (by omega) (by omega), bw_id (z := 68 + n) (by omega) (by omega), grd_pos (by omega), grd_pos (by omega), grd_pos (by omega), grd_pos (by omega), grd_pos (by omega), grd_pos (by omega), rq_i (i2 := 85) (by omega), rq_i (i2 := 85) (by omega), rq_i (i2 := 85) (by omega), rq_i (i2 := 85) (by omega), rq_i (i2 := 85) (by omega), rq_i (i2 := 85) (by omega), hn', bw_id (z := n + 1) (by omega) (by omega)]
        rfl
      rw [e2, wp_some]
      have hFm : Fr [85] τ (addM τ n x1 x2 x3 x4) := ((((((Fr.rf.wr (by decide)).wr (by decide)).wr (by decide)).wr (by decide)).wr (by decide)).wr (by decide)).wr (by decide)
      exact ⟨rfl, (wr_off _ _ (by decide)).trans (mrow τ e85), rq_s, fun i i4 i26 i28 => (rq_i i4).trans (hFm 84 i (by decide)), (hFm.mo (by decide)).wr (by decide)⟩
  · have e1 : fX10_person x1 x2 x3 x4 σ = some (-1, σ) := by
      unfold fX10_person
      rw [within_m, within_m, within_m, hasField_c hC]
      by_cases c1 : 0 ≤ x1 ∧ x1 ≤ 1
      · by_cases c2 : 0 ≤ x2 ∧ x2 ≤ 9
        · by_cases c3 : 0 ≤ x3 ∧ x3 ≤ 9
          · by_cases c4 : isF (rd σ 85) x4
            · rw [if_pos c1, if_neg n10, if_pos c2, if_neg n10, if_pos c3, if_neg n10, if_pos c4, if_neg n10]
              unfold fX1_add
              rw [e46, if_neg (fun z => hc ⟨⟨c1, c2, c3, c4⟩, z⟩)]
              rfl
            · rw [if_pos c1, if_neg n10, if_pos c2, if_neg n10, if_pos c3, if_neg n10, if_neg c4, if_pos p00]
          · rw [if_pos c1, if_neg n10, if_pos c2, if_neg n10, if_neg c3, if_pos p00]
        · rw [if_pos c1, if_neg n10, if_neg c2, if_pos p00]
      · rw [if_neg c1, if_pos p00]
    have e2 : fX11_person x1 x2 x3 x4 σ = some (-1, σ) := by
      unfold fX11_person
      rw [isIn_m, isIn_m, isIn_m, isField_m hW rfl]
      by_cases c1 : 0 ≤ x1 ∧ x1 ≤ 1
      · by_cases c2 : 0 ≤ x2 ∧ x2 ≤ 9
        · by_cases c3 : 0 ≤ x3 ∧ x3 ≤ 9
          · by_cases c4 : isF (rd σ 85) x4
            · have : rd σ 85 85 = 12 := by
                have : ¬ rd σ 85 85 < 12 := fun z => hc ⟨⟨c1, c2, c3, c4⟩, z⟩
                omega
              rw [if_pos c1, if_neg n10, if_pos c2, if_neg n10, if_pos c3, if_neg n10, if_pos c4, if_neg n10, if_pos this]
            · rw [if_pos c1, if_neg n10, if_pos c2, if_neg n10, if_pos c3, if_neg n10, if_neg c4, if_pos p00]
          · rw [if_pos c1, if_neg n10, if_pos c2, if_neg n10, if_neg c3, if_pos p00]
        · rw [if_pos c1, if_neg n10, if_neg c2, if_pos p00]
      · rw [if_neg c1, if_pos p00]
    rw [e1, wp_some]
    show wp (fX11_person x1 x2 x3 x4 σ) _
    rw [e2, wp_some]
    exact ⟨rfl, h.keep Keep.rf⟩
