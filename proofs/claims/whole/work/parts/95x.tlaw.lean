/-! text(0): both sides -/
theorem text_law {has : Bool} {N0 : Nat} : OpE has N0 (fX10_text 0) (fX11_text 0) := by
  intro σ h
  have hTR : TR σ := h.2.2.2.2.2.2.1
  obtain ⟨hO, hTP⟩ := tape_of hTR
  generalize ht : rd σ 92 = t at hO hTP
  generalize hz : rd σ 59 4 = z at hO hTP
  have h16 : rd σ 84 16 = z := hTR.2.1.trans hz
  obtain ⟨s3, p1, f3, N, H, T, hP⟩ := spl_c hO hTP
  have f4 : Fr [61, 62, 63, 59] σ (wr s3 59 4 0) := (f3.mo (by decide)).wr (by decide)
  have eR : fX10_text 0 σ = (fX4_reads_L52 kF 0 FU 0 (rdB 0 (wr s3 59 4 0))).bind fun q4 => if q4.1 = 0 then some ((-1), q4.2) else fX10_text_J81 0 q4.2 := by
    unfold fX10_text
    rw [if_neg (show ¬ (0 : Int) < 0 by decide), if_neg (show ¬ (3 : Int) < 0 by decide), p1, Option.bind_some, reads_eq]
    rfl
  obtain ⟨b1, ⟨b2, b3, b4, b5⟩, ⟨b6, b7, b8⟩, b9, b10, b11, b12⟩ := rdB_ok 0 (wr s3 59 4 0)
  generalize hb : rdB 0 (wr s3 59 4 0) = b at eR b1 b2 b3 b4 b5 b6 b7 b8 b9 b10 b11 b12
  have fb : Fr [61, 62, 63, 59, 64, 38, 41, 45, 47, 49] σ b := (f4.mo (by decide)).tr (b1.mo (by decide))
  have Tb : TKs (kT t z) (vT t z) N b := TKs_fr (TKs_fr T (Fr.rf.wr (l := [59]) (by decide)) (by decide) (by decide)) b1 (by decide) (by decide)
  have hPb : ∀ j : Nat, j ≤ N → rd b 63 j = pT t z j := fun j hj => by
    rw [b1 63 _ (by decide), rq_c (by decide)]; exact hP j hj
  have k0 : rd b 64 6 = kT t z 0 := by
    rw [b3, rq_c (by decide)]; exact (T 0 (Nat.zero_le _)).1
  have hA : AtC (kT t z) N b 0 (encL []) b := ⟨Fr.rf, ⟨rfl, rfl, b4⟩, ⟨b2, Nat.zero_le _, k0⟩, b7, fun i hi => absurd hi (Nat.not_lt_zero _)⟩
  have r := lawS_c (P := pT t z) H FU 0 0 [] [] b Tb hPb (by have := H.1; unfold FU; omega) hA (Nat.zero_le _) ⟨b6, b8, fun i hi => absurd hi (Nat.not_lt_zero _)⟩ (Nat.zero_le _) (Int.le_refl _) (Int.le_refl _)
  have ok := lisA_ok H FU 0 [] [] (by have := H.1; unfold FU; omega) (Nat.zero_le _) (Nat.zero_le _) ⟨Nat.zero_le _, fun i hi => absurd hi (Nat.not_lt_zero _)⟩
  rw [eR]
  have md : ∀ τ, rd τ 92 = rd σ 92 → rd τ 84 16 = rd σ 84 16 → _ := fun τ q1 q2 => textM_law (σ := τ) hO H (q2.trans h16) (fun i _ _ => by rw [q1, ht])
  have g6 := h.2.2.2.2.2.1
  cases e : lisA (kT t z) (vT t z) FU 0 [] [] with
  | error x =>
    rw [e] at r ok
    simp only [e] at md
    obtain ⟨⟨q1, q2⟩, w1, w2, w3, w4, w5⟩ := r
    have w2 : q1 = 0 := w2
    have w3 : Fr [64, 38, 39, 40, 41, 42] b q2 := w3
    have w4 : rd q2 64 0 = x.1 := w4
    have w5 : rd q2 64 1 = pT t z x.2 := w5
    rw [w1, Option.bind_some, w2]
    show wp (some ((-1 : Int), q2)) _
    rw [wp_some]
    have fq : Fr [61, 62, 63, 59, 64, 38, 39, 40, 41, 42, 45, 47, 49] σ q2 := (fb.mo (by decide)).tr (w3.mo (by decide))
    refine wp_mono (md q2 (funext fun i => fq 92 i (by decide)) (fq 84 16 (by decide))) (fun r hr => ?_)
    obtain ⟨r1, r2, r3, r4, r5⟩ := hr
    refine ⟨r1.symm, inv_bad h (fun c hc h59 => funext fun i => ?_) (fun q hq => ?_) ?_ r3 ⟨?_, ?_⟩⟩
    · have m : ∀ c ∈ kcells, c ≠ 59 → c ∉ [61, 62, 63, 59, 64, 38, 39, 40, 41, 42, 45, 47, 49] ∧ c ≠ 84 ∧ c ≠ 89 ∧ c ≠ 90 ∧ c ≠ 91 := by decide
      obtain ⟨m1, m2, m3, m4, m5⟩ := m c hc h59
      rw [r2 c i m3 m4 m5 (fun q => m2 q.1)]
      exact fq c i m1
    · have kk : ∀ q ∈ [((84 : Nat), (4 : Int)), (84, 5), (51, 1), (53, 1)], rd r.2 q.1 q.2 = rd σ q.1 q.2 := fun q hq => by
        have m : ∀ q ∈ [((84 : Nat), (4 : Int)), (84, 5), (51, 1), (53, 1)], q.1 ∉ [61, 62, 63, 59, 64, 38, 39, 40, 41, 42, 45, 47, 49] ∧ q.1 ≠ 89 ∧ q.1 ≠ 90 ∧ q.1 ≠ 91 ∧ ¬ (q.1 = 84 ∧ 12 ≤ q.2 ∧ q.2 ≤ 25) := by decide
        obtain ⟨m1, m2, m3, m4, m5⟩ := m q hq
        rw [r2 _ _ m2 m3 m4 m5]
        exact fq _ _ m1
      have c4 : ∀ c : Nat, c = 45 ∨ c = 47 ∨ c = 49 → rd r.2 c 1 = rd b c 1 := fun c hc => by
        rw [r2 c 1 (by omega) (by omega) (by omega) (by omega)]
        refine w3 c 1 ?_
        rcases hc with rfl | rfl | rfl <;> decide
      have d4 : ∀ c : Nat, c = 45 ∨ c = 47 ∨ c = 49 → rd (wr s3 59 4 0) c 1 = rd σ c 1 := fun c hc => by
        refine f4 c 1 ?_
        rcases hc with rfl | rfl | rfl <;> decide
      simp only [List.mem_cons, List.not_mem_nil, or_false] at hq
      rcases hq with rfl | rfl | rfl | rfl | rfl | rfl | rfl
      · exact kk (84, 4) (by decide)
      · exact kk (84, 5) (by decide)
      · exact (c4 45 (by decide)).trans (b10.trans (d4 45 (by decide)))
      · exact (c4 47 (by decide)).trans (b11.trans (d4 47 (by decide)))
      · exact (c4 49 (by decide)).trans (b12.trans (d4 49 (by decide)))
      · exact kk (51, 1) (by decide)
      · exact kk (53, 1) (by decide)
    · rw [r2 59 4 (by decide) (by decide) (by decide) (by decide), w3 59 4 (by decide), b1 59 4 (by decide), rq_s]; rfl
    · rw [r4, r2 64 0 (by decide) (by decide) (by decide) (by decide)]; exact w4
    · rw [r5, r2 64 1 (by decide) (by decide) (by decide) (by decide)]; exact w5
  | ok a =>
    rw [e] at r ok
    simp only [e] at md
    obtain ⟨⟨q1, q2⟩, w1, w2, w3, w4, w5, w6, w7⟩ := r
    have w2 : q1 = 1 := w2
    have w3 : Fr [64, 38, 39, 40, 41, 42] b q2 := w3
    have w4 : rd q2 64 0 = 0 := w4
    have w5 : rd q2 64 1 = rd b 64 1 := w5
    have w6 : LCc (encL a.1) q2 := w6
    have w7 : LnC a.2 a.1 q2 := w7
    have hN := H.1
    have ha := ok.1
    rw [w1, Option.bind_some, w2]
    show wp (fX10_text_J81 0 q2) _
    unfold fX10_text_J81 fX9_take
    rw [if_pos p00, show (1 : Nat) + 10 = 11 from rfl, show (28 : Nat) + 10 = 38 from rfl]
    have fq : Fr [61, 62, 63, 59, 64, 38, 39, 40, 41, 42, 45, 47, 49] σ q2 := (fb.mo (by decide)).tr (w3.mo (by decide))
    obtain ⟨s6, c1, c2, c3, c4, c5, c6, c7, c8⟩ := law_cp (c0 := 11) (c1 := 38) (σ := q2) (by decide) (by rw [w6.1]; omega)
    have c2 : Fr [11, 12, 13, 14, 15] q2 s6 := c2
    rw [c1, Option.bind_some, Option.bind_some, wp_some]
    have f6 : Fr [61, 62, 63, 59, 64, 38, 39, 40, 41, 42, 45, 47, 49, 11, 12, 13, 14, 15] σ s6 := (fq.mo (by decide)).tr (c2.mo (by decide))
    refine wp_mono (md s6 (funext fun i => f6 92 i (by decide)) (f6 84 16 (by decide))) (fun r hr => ?_)
    obtain ⟨r1, ⟨s, r2, r2b⟩, r3, r4, r5, r6⟩ := hr
    -- cells behind all
    have fR : ∀ (c : Nat) (i : Int), c ≠ 85 → c ≠ 84 → c ≠ 89 → c ≠ 90 → c ≠ 91 → rd r.2 c i = rd s6 c i := fun c i a1 a2 a3 a4 a5 => by
      rw [r2b c i (by simp; exact a1), r2 c i a3 a4 a5 (fun q => a2 q.1)]
    have f84 : ∀ i : Int, ¬ (12 ≤ i ∧ i ≤ 25) → rd r.2 84 i = rd σ 84 i := fun i hi => by
      rw [r2b 84 i (by decide), r2 84 i (by decide) (by decide) (by decide) (fun q => hi q.2)]
      exact f6 84 i (by decide)
    have e85 : rd s6 85 = rd σ 85 := funext fun i => f6 85 i (by decide)
    rw [e85] at r6
    have g1 := h.1
    have same : ∀ c : Nat, c ≠ 85 → c ≠ 84 → c ≠ 89 → c ≠ 90 → c ≠ 91 → c ∉ [61, 62, 63, 59, 64, 38, 39, 40, 41, 42, 45, 47, 49, 11, 12, 13, 14, 15] → rd r.2 c = rd σ c := fun c a1 a2 a3 a4 a5 a6 => funext fun i => (fR c i a1 a2 a3 a4 a5).trans (f6 c i a6)
    have vg : ∀ k : Nat, k < 10 ∨ 14 < k → ∀ i, vw r.2 1 k i = vw σ 1 k i := fun k hk i => by
      unfold vw
      split
      · rfl
      · next hk2 =>
        refine congrFun (same (1 + k) (by omega) (by omega) (by omega) (by omega) (by omega) ?_) i
        simp only [List.mem_cons, List.not_mem_nil, or_false]
        omega
    have vl : ∀ (k : Nat) (i : Int), 10 ≤ k → k ≤ 14 → vw r.2 1 k i = rd s6 (1 + k) i := fun k i k0 k1 => by
      unfold vw
      rw [if_neg (by omega)]
      exact fR (1 + k) i (by omega) (by omega) (by omega) (by omega) (by omega)
    have rw911 := r6.1
    have hLR : LR (rd r.2 85) (vw r.2 1) := by
      refine LR_text (ls := a.1) (lns := a.2) (by omega) ok.2 r6 ?_ ?_ (fun k hk => ?_) (fun i hi => ?_)
      · rw [vl 10 6 (by decide) (by decide)]
        exact c3.trans w7.1
      · rw [vl 10 7 (by decide) (by decide)]
        exact c4.trans w6.1
      · rw [vl 11 k (by decide) (by decide)]
        have q := c5 k (by omega) (by rw [w6.1]; omega)
        exact q.trans (w6.2 k hk)
      · have h16 := ok.2.1
        obtain ⟨l1, l2, l3, l4⟩ := w7.2.2 i hi
        rw [vl 12 _ (by decide) (by decide), vl 13 _ (by decide) (by decide), vl 14 _ (by decide) (by decide), vl 13 _ (by decide) (by decide)]
        have q12 := c6 i (by omega) (by omega)
        have q13 := c7 i (by omega) (by omega)
        have q14 := c8 i (by omega) (by omega)
        have q15 := c7 ((i : Int) + 1) (by omega) (by omega)
        exact ⟨q12.trans l1, q13.trans l2, q14.trans l3, q15.trans l4⟩
    have hC : CW 150 (rd r.2 85) r.2 1 := by
      refine CG_txt g1 (fun j hj => rw911 j (by omega) (by omega)) (fun k hk i => vg k (by omega) i) (oldV g1 (rw911 87 (by decide) (by decide)) (fun j j0 j1 => rw911 j (by omega) (by omega))) (oldY g1 (rw911 88 (by decide) (by decide)) (fun j j0 j1 => rw911 j (by omega) (by omega))) (oldN g1 (rw911 89 (by decide) (by decide)) (fun j j0 j1 => rw911 j (by omega) (by omega))) (oldVg g1 (rw911 87 (by decide) (by decide)) (fun j j0 j1 => rw911 j (by omega) (by omega)) (vg 17 (by decide)) (vg 18 (by decide))) (oldYg g1 (rw911 88 (by decide) (by decide)) (fun j j0 j1 => rw911 j (by omega) (by omega)) (vg 19 (by decide)) (vg 20 (by decide))) (oldNg g1 (rw911 89 (by decide) (by decide)) (fun j j0 j1 => rw911 j (by omega) (by omega)) (vg 21 (by decide)) (vg 22 (by decide))) hLR
    refine ⟨?_, inv_txt (w' := rd r.2 85) h rfl (fun j hj => rw911 j (by omega) (by omega)) hC ?_ ?_ ?_ ?_ ?_ ?_ ?_⟩
    · show rd s6 11 6 = r.1
      rw [r1]
      exact c3.trans w7.1
    · refine PR_w ?_ (rw911 80 (by decide) (by decide)) (rw911 81 (by decide) (by decide)) (rw911 85 (by decide) (by decide)) (rw911 3 (by decide) (by decide))
      exact PR_k (same 55 (by decide) (by decide) (by decide) (by decide) (by decide) (by decide)) (same 56 (by decide) (by decide) (by decide) (by decide) (by decide) (by decide)) (same 57 (by decide) (by decide) (by decide) (by decide) (by decide) (by decide)) (same 58 (by decide) (by decide) (by decide) (by decide) (by decide) (by decide)) (same 87 (by decide) (by decide) (by decide) (by decide) (by decide) (by decide)) (f84 4 (by decide)) nbN_le h.2.2.2.2.1
    · exact same 86 (by decide) (by decide) (by decide) (by decide) (by decide) (by decide)
    · refine vw_keep (fun j a b c d => same (106 + j) (by omega) (by omega) (by omega) (by omega) (by omega) ?_)
      simp only [List.mem_cons, List.not_mem_nil, or_false]
      omega
    · exact f84 5 (by decide)
    · have cc : ∀ c : Nat, c = 45 ∨ c = 47 ∨ c = 49 → rd r.2 c 1 = rd b c 1 := fun c hc => by
        rw [fR c 1 (by omega) (by omega) (by omega) (by omega) (by omega)]
        have m1 : c ∉ [11, 12, 13, 14, 15] := by rcases hc with rfl | rfl | rfl <;> decide
        have m2 : c ∉ [64, 38, 39, 40, 41, 42] := by rcases hc with rfl | rfl | rfl <;> decide
        exact (c2 c 1 m1).trans (w3 c 1 m2)
      have dd : ∀ c : Nat, c = 45 ∨ c = 47 ∨ c = 49 → rd (wr s3 59 4 0) c 1 = rd σ c 1 := fun c hc => by
        refine f4 c 1 ?_
        rcases hc with rfl | rfl | rfl <;> decide
      have x51 := congrFun (same 51 (by decide) (by decide) (by decide) (by decide) (by decide) (by decide)) 1
      have x53 := congrFun (same 53 (by decide) (by decide) (by decide) (by decide) (by decide) (by decide)) 1
      unfold TC at g6 ⊢
      rw [x51, x53, (cc 45 (by decide)).trans (b10.trans (dd 45 (by decide))), (cc 47 (by decide)).trans (b11.trans (dd 47 (by decide))), (cc 49 (by decide)).trans (b12.trans (dd 49 (by decide)))]
      exact g6
    · have e59 : rd r.2 59 4 = 0 := by
        rw [fR 59 4 (by decide) (by decide) (by decide) (by decide) (by decide), c2 59 4 (by decide), w3 59 4 (by decide), b1 59 4 (by decide), rq_s]; rfl
      unfold TR
      rw [e59, r3]
      exact ⟨by decide, rfl, fun i a b => by omega⟩
    · refine ⟨?_, ?_⟩
      · rw [r4, fR 64 0 (by decide) (by decide) (by decide) (by decide) (by decide), c2 64 0 (by decide)]; exact w4
      · rw [r5, fR 64 1 (by decide) (by decide) (by decide) (by decide) (by decide), c2 64 1 (by decide), w5]; exact b5
