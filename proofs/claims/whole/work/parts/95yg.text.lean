/-! text(1), text(2), text(3): both sides -/
theorem cR_rows (k : Int) : fX9_rowsOf 28 k = cR k := rfl
theorem text_bad {has : Bool} {N0 : Nat} {σ s6 τ : Sg} (h : Inv has N0 σ) (f6 : Fr [61, 62, 63, 59, 64, 38, 39, 40, 41, 42, 45, 46, 47, 48, 49, 50] σ s6) (t4 : ∀ c : Nat, c = 45 ∨ c = 47 ∨ c = 49 → rd s6 c 1 = rd σ c 1) (h59 : rd s6 59 4 = 0) (r2 : FrT s6 τ) (r3 : rd τ 84 16 = 0) (hF : FR0 τ) : Inv has (N0 + 1) τ := by
  refine inv_bad h (fun c hc h59 => funext fun i => ?_) (fun q hq => ?_) ?_ r3 hF
  · have m : ∀ c ∈ kcells, c ≠ 59 → c ∉ [61, 62, 63, 59, 64, 38, 39, 40, 41, 42, 45, 46, 47, 48, 49, 50] ∧ c ≠ 84 ∧ c ≠ 89 ∧ c ≠ 90 ∧ c ≠ 91 := by decide
    obtain ⟨m1, m2, m3, m4, m5⟩ := m c hc h59
    rw [r2 c i m3 m4 m5 (fun q => m2 q.1)]
    exact f6 c i m1
  · have kk : ∀ q ∈ [((84 : Nat), (4 : Int)), (84, 5), (51, 1), (53, 1)], rd τ q.1 q.2 = rd σ q.1 q.2 := fun q hq => by
      have m : ∀ q ∈ [((84 : Nat), (4 : Int)), (84, 5), (51, 1), (53, 1)], q.1 ∉ [61, 62, 63, 59, 64, 38, 39, 40, 41, 42, 45, 46, 47, 48, 49, 50] ∧ q.1 ≠ 89 ∧ q.1 ≠ 90 ∧ q.1 ≠ 91 ∧ ¬ (q.1 = 84 ∧ 12 ≤ q.2 ∧ q.2 ≤ 25) := by decide
      obtain ⟨m1, m2, m3, m4, m5⟩ := m q hq
      rw [r2 _ _ m2 m3 m4 m5]
      exact f6 _ _ m1
    have c4 : ∀ c : Nat, c = 45 ∨ c = 47 ∨ c = 49 → rd τ c 1 = rd σ c 1 := fun c hc => by
      rw [r2 c 1 (by omega) (by omega) (by omega) (by omega)]
      exact t4 c hc
    simp only [List.mem_cons, List.not_mem_nil, or_false] at hq
    rcases hq with rfl | rfl | rfl | rfl | rfl | rfl | rfl
    · exact kk (84, 4) (by decide)
    · exact kk (84, 5) (by decide)
    · exact c4 45 (by decide)
    · exact c4 47 (by decide)
    · exact c4 49 (by decide)
    · exact kk (51, 1) (by decide)
    · exact kk (53, 1) (by decide)
  · rw [r2 59 4 (by decide) (by decide) (by decide) (by decide)]; exact h59
/-- what the class has read -/
theorem textC_rows {has : Bool} {N0 : Nat} {k : Int} (hk : k = 1 ∨ k = 2 ∨ k = 3) {σ : Sg} (h : Inv has N0 σ) : ∃ (t : Int → Int) (z : Int) (N : Nat), TO t z ∧ HK (kT t z) (vT t z) N ∧ rd σ 92 = t ∧ rd σ 84 16 = z ∧ match rowsA (kT t z) (vT t z) (rd σ 85) k FU 0 [] with
    | .error x => wp (fX10_text k σ) (fun q => q.1 = -1 ∧ Fr [61, 62, 63, 59, 64, 38, 39, 40, 41, 42, 45, 46, 47, 48, 49, 50] σ q.2 ∧ (∀ c : Nat, c = 45 ∨ c = 47 ∨ c = 49 → rd q.2 c 1 = rd σ c 1) ∧ rd q.2 59 4 = 0 ∧ rd q.2 64 0 = x.1 ∧ rd q.2 64 1 = pT t z x.2)
    | .ok rs => ∃ s : Sg, fX10_text k σ = (if k = 1 then fX10_text_J73 (fX10_text_J81 k) k s else if k = 2 then fX10_text_J73 (fX10_text_J81 k) k s else fX10_text_J81 k s) ∧ Fr [61, 62, 63, 59, 64, 38, 39, 40, 41, 42, 45, 46, 47, 48, 49, 50] σ s ∧ (∀ c : Nat, c = 45 ∨ c = 47 ∨ c = 49 → rd s c 1 = rd σ c 1) ∧ rd s 59 4 = 0 ∧ rd s 64 0 = 0 ∧ rd s 64 1 = -1 ∧ RoC (cR k) rs s := by
  have hTR : TR σ := h.2.2.2.2.2.2.1
  obtain ⟨hO, hTP⟩ := tape_of hTR
  generalize ht : rd σ 92 = t at hO hTP
  generalize hz : rd σ 59 4 = z at hO hTP
  have h16 : rd σ 84 16 = z := hTR.2.1.trans hz
  obtain ⟨s3, p1, f3, N, H, T, hP⟩ := spl_c hO hTP
  refine ⟨t, z, N, hO, H, rfl, h16, ?_⟩
  have f4 : Fr [61, 62, 63, 59] σ (wr s3 59 4 0) := (f3.mo (by decide)).wr (by decide)
  have eR : fX10_text k σ = (fX4_reads_L52 kF k FU 0 (rdB k (wr s3 59 4 0))).bind fun q4 => if q4.1 = 0 then some ((-1), q4.2) else if k = 1 then fX10_text_J73 (fX10_text_J81 k) k q4.2 else if k = 2 then fX10_text_J73 (fX10_text_J81 k) k q4.2 else fX10_text_J81 k q4.2 := by
    unfold fX10_text
    rw [if_neg (show ¬ k < 0 by omega), if_neg (show ¬ 3 < k by omega), p1, Option.bind_some, reads_eq]
  obtain ⟨b1, ⟨b2, b3, b4, b5⟩, ⟨b6, b7, b8⟩, b9, b10, b11, b12⟩ := rdB_ok k (wr s3 59 4 0)
  rw [cR_rows] at b9
  generalize hb : rdB k (wr s3 59 4 0) = b at eR b1 b2 b3 b4 b5 b6 b7 b8 b9 b10 b11 b12
  have fb : Fr [61, 62, 63, 59, 64, 38, 41, 45, 47, 49] σ b := (f4.mo (by decide)).tr (b1.mo (by decide))
  have Tb : TKs (kT t z) (vT t z) N b := TKs_fr (TKs_fr T (Fr.rf.wr (l := [59]) (by decide)) (by decide) (by decide)) b1 (by decide) (by decide)
  have hPb : ∀ j : Nat, j ≤ N → rd b 63 j = pT t z j := fun j hj => by
    rw [b1 63 _ (by decide), rq_c (by decide)]; exact hP j hj
  have k0 : rd b 64 6 = kT t z 0 := by
    rw [b3, rq_c (by decide)]; exact (T 0 (Nat.zero_le _)).1
  have hA : AtC (kT t z) N b 0 [] b := ⟨Fr.rf, ⟨rfl, rfl, b4⟩, ⟨b2, Nat.zero_le _, k0⟩, b7, fun i hi => absurd hi (Nat.not_lt_zero _)⟩
  have d4 : ∀ c : Nat, c = 45 ∨ c = 47 ∨ c = 49 → rd b c 1 = rd σ c 1 := fun c hc => by
    have e : rd (wr s3 59 4 0) c 1 = rd σ c 1 := f4 c 1 (by rcases hc with rfl | rfl | rfl <;> decide)
    rcases hc with rfl | rfl | rfl
    · exact b10.trans e
    · exact b11.trans e
    · exact b12.trans e
  have g6 := h.2.2.2.2.2.1
  have hcap : rd b (cR k) 1 = capR k := by
    rcases hk with rfl | rfl | rfl
    · exact (d4 45 (by decide)).trans g6.1
    · exact (d4 47 (by decide)).trans g6.2.1
    · exact (d4 49 (by decide)).trans g6.2.2.1
  have hCb : CW 150 (rd σ 85) b 1 := h.1.fr fb (fun c hc => by
    simp only [List.mem_cons, List.not_mem_nil, or_false] at hc
    omega)
  have b59 : rd b 59 4 = 0 := by rw [b1 59 4 (by decide), rq_s]; rfl
  have c3 := cR_3 k
  have fbb : Fr [61, 62, 63, 59, 64, 38, 39, 40, 41, 42, 45, 46, 47, 48, 49, 50] σ b := fb.mo (by decide)
  have mo : ∀ {q : Sg}, Fr [64, 38, 39, cR k, cR k + 1] b q → rd q (cR k) 1 = rd b (cR k) 1 → Fr [61, 62, 63, 59, 64, 38, 39, 40, 41, 42, 45, 46, 47, 48, 49, 50] σ q ∧ (∀ c : Nat, c = 45 ∨ c = 47 ∨ c = 49 → rd q c 1 = rd σ c 1) ∧ rd q 59 4 = 0 := fun {q} f e => by
    refine ⟨fbb.tr (f.mo (fun c hc => ?_)), fun c hc => ?_, ?_⟩
    · simp only [List.mem_cons, List.not_mem_nil, or_false] at hc ⊢
      omega
    · rw [← d4 c hc]
      by_cases e2 : c = cR k
      · rw [e2]; exact e
      · exact f c 1 (by simp only [List.mem_cons, List.not_mem_nil, or_false]; omega)
    · rw [f 59 4 (by simp only [List.mem_cons, List.not_mem_nil, or_false]; omega)]; exact b59
  have r := rowsL_c (P := pT t z) (k := k) (by omega) H FU 0 0 [] b Tb hPb hCb (by have := H.1; unfold FU; omega) hA hcap ⟨b9, fun i hi => absurd hi (Nat.not_lt_zero _)⟩ (Int.le_refl _) (Int.le_refl _)
  cases e : rowsA (kT t z) (vT t z) (rd σ 85) k FU 0 [] with
  | error x =>
    rw [e] at r
    obtain ⟨⟨q1, q2⟩, w1, w2, w3, w4, w5, w6⟩ := r
    have w2 : q1 = 0 := w2
    obtain ⟨m1, m2, m3⟩ := mo w3 w4
    show wp (fX10_text k σ) _
    rw [eR, w1, Option.bind_some, w2]
    exact ⟨_, rfl, rfl, m1, m2, m3, w5, w6⟩
  | ok rs =>
    rw [e] at r
    obtain ⟨⟨q1, q2⟩, w1, w2, w3, w4, w5, w6, w7⟩ := r
    have w2 : q1 = 1 := w2
    obtain ⟨m1, m2, m3⟩ := mo w3 w4
    refine ⟨q2, ?_, m1, m2, m3, w5, w6.trans b5, w7⟩
    rw [eR, w1, Option.bind_some, w2]
    rfl
theorem text_vows {has : Bool} {N0 : Nat} : OpE has N0 (fX10_text 1) (fX11_text 1) := by
  intro σ h
  obtain ⟨t, z, N, hO, H, ht, h16, r⟩ := textC_rows (k := 1) (by decide) h
  have hW := h.1.1
  have md : ∀ τ, rd τ 92 = rd σ 92 → rd τ 84 16 = rd σ 84 16 → rd τ 85 = rd σ 85 → _ := fun τ q1 q2 q3 => textM_rows (k := 1) (σ := τ) (by decide) hO H hW q3 (q2.trans h16) (fun i _ _ => by rw [q1, ht])
  cases e : rowsA (kT t z) (vT t z) (rd σ 85) 1 FU 0 [] with
  | error x =>
    rw [e] at r
    simp only [e] at md
    refine wp_mono r (fun q hq => ?_)
    obtain ⟨w1, w2, w3, w4, w5, w6⟩ := hq
    refine wp_mono (md q.2 (funext fun i => w2 92 i (by decide)) (w2 84 16 (by decide)) (funext fun i => w2 85 i (by decide))) (fun r hr => ?_)
    obtain ⟨r1, r2, r3, r4, r5⟩ := hr
    refine ⟨w1.trans r1.symm, text_bad h w2 w3 w4 r2 r3 ⟨?_, ?_⟩⟩
    · rw [r4, r2 64 0 (by decide) (by decide) (by decide) (by decide)]; exact w5
    · rw [r5, r2 64 1 (by decide) (by decide) (by decide) (by decide)]; exact w6
  | ok rs =>
    have ro := rowsA_ok FU 0 [] (fun i hi => absurd hi (Nat.not_lt_zero _)) (show (0 : Int) ≤ capR 1 by decide) rs e
    rw [e] at r
    simp only [e] at md
    obtain ⟨s, eT, w1, w2, w3, w4, w5, w6⟩ := r
    have hcap : (rs.length : Int) ≤ 16 := ro.2
    have w6 : RoC 45 rs s := w6
    have g1 := h.1
    have most : rd s 18 1 = 16 := (w1 18 1 (by decide)).trans g1.2.2.2.2.1.1.1
    show wp (fX10_text 1 σ) _
    rw [eT]
    rw [if_pos rfl]
    unfold fX10_text_J73 fX10_text_J81 fX9_take
    rw [if_neg (by decide)]
    show wp (((fX6_copy 18 64 45 64 (wr s 55 3 0)).bind _).bind _) _
    obtain ⟨s6, c1, c2, c3, c4, c5⟩ := rows_cp (c0 := 18) (N0 := 64) (c1 := 45) (N1 := 64) (σ := wr s 55 3 0) (by decide) (by decide) (by rw [rq_c (by decide), w6.1]; omega) (by rw [rq_c (by decide), most]; decide) (by rw [rq_c (by decide), rq_c (by decide), w6.1, most]; omega)
    have c2 : Fr [18, 19] (wr s 55 3 0) s6 := c2
    have e2 : rd (wr s 55 3 0) 45 2 = rs.length := (rq_c (by decide)).trans w6.1
    have e1 : rd (wr s 55 3 0) 18 1 = 16 := (rq_c (by decide)).trans most
    rw [e2, e1, show min (rs.length : Int) 16 = rs.length by omega] at c3
    rw [e2, e1, show min (rs.length : Int) 16 = rs.length by omega] at c5
    rw [e1] at c4
    have f6 : Fr [61, 62, 63, 59, 64, 38, 39, 40, 41, 42, 45, 46, 47, 48, 49, 50, 18, 19, 55] σ s6 := (((w1.mo (by decide) : Fr [61, 62, 63, 59, 64, 38, 39, 40, 41, 42, 45, 46, 47, 48, 49, 50, 18, 19, 55] σ s)).wr (by decide)).tr (c2.mo (by decide))
    have y46 : ∀ j : Int, rd (wr s 55 3 0) 46 j = rd s 46 j := fun j => rq_c (by decide)
    have z64 : ∀ c : Nat, c ≠ 55 → c ≠ 18 → c ≠ 19 → ∀ i, rd s6 c i = rd s c i := fun c a1 a2 a3 i => by
      rw [c2 c i (by simp; omega), rq_c a1]
    rw [c1, Option.bind_some, Option.bind_some, wp_some]
    refine wp_mono (md s6 (funext fun i => f6 92 i (by decide)) (f6 84 16 (by decide)) (funext fun i => f6 85 i (by decide))) (fun r hr => ?_)
    obtain ⟨r1, ⟨s7, r2, r2b⟩, ⟨r7, r8⟩, r3, r4, r5, r6, r9, r10⟩ := hr
    have r6 : rd r.2 85 87 = rs.length := r6
    have r9 : ∀ j : Int, j ≠ 87 → (j < 151 ∨ 215 ≤ j) → rd r.2 85 j = rd σ 85 j := r9
    have r10 : RoM 1 rs (fun q => rd r.2 85 (151 + q)) := r10
    have fR : ∀ (c : Nat) (i : Int), c ≠ 85 → c ≠ 84 → c ≠ 89 → c ≠ 90 → c ≠ 91 → rd r.2 c i = rd s6 c i := fun c i a1 a2 a3 a4 a5 => by
      rw [r2b c i a1 (fun q => a2 q.1), r2 c i a3 a4 a5 (fun q => a2 q.1)]
    have f84 : ∀ i : Int, ¬ (12 ≤ i ∧ i ≤ 25) → i ≠ 4 → rd r.2 84 i = rd σ 84 i := fun i hi i4 => by
      rw [r2b 84 i (by decide) (fun q => i4 q.2), r2 84 i (by decide) (by decide) (by decide) (fun q => hi q.2)]
      exact f6 84 i (by decide)
    have same : ∀ c : Nat, c ≠ 85 → c ≠ 84 → c ≠ 89 → c ≠ 90 → c ≠ 91 → c ∉ [61, 62, 63, 59, 64, 38, 39, 40, 41, 42, 45, 46, 47, 48, 49, 50, 18, 19, 55] → rd r.2 c = rd σ c := fun c a1 a2 a3 a4 a5 a6 => funext fun i => (fR c i a1 a2 a3 a4 a5).trans (f6 c i a6)
    have vg : ∀ k : Nat, k ≠ 17 → k ≠ 18 → ∀ i, vw r.2 1 k i = vw σ 1 k i := fun k k1 k2 i => by
      unfold vw
      split
      · rfl
      · next hk2 =>
        refine congrFun (same (1 + k) (by omega) (by omega) (by omega) (by omega) (by omega) ?_) i
        simp only [List.mem_cons, List.not_mem_nil, or_false]
        omega
    have v17 : ∀ i : Int, vw r.2 1 17 i = rd s6 18 i := fun i => by
      unfold vw
      rw [if_neg (by decide)]
      exact fR 18 i (by decide) (by decide) (by decide) (by decide) (by decide)
    have v18 : ∀ i : Int, vw r.2 1 18 i = rd s6 19 i := fun i => by
      unfold vw
      rw [if_neg (by decide)]
      exact fR 19 i (by decide) (by decide) (by decide) (by decide) (by decide)
    have row : ∀ i : Int, 0 ≤ i → i < rs.length → ∃ q : Nat, (q : Int) = i ∧ q < rs.length := fun i i0 i1 => ⟨i.toNat, by omega, by omega⟩
    have hC : CW 150 (rd r.2 85) r.2 1 := by
      refine CG_txt g1 (fun j hj => r9 j (by omega) (by omega)) (fun k hk i => vg k (by omega) (by omega) i) ?_ (oldY g1 (r9 88 (by decide) (by decide)) (fun j j0 j1 => r9 j (by omega) (by omega))) (oldN g1 (r9 89 (by decide) (by decide)) (fun j j0 j1 => r9 j (by omega) (by omega))) ?_ (oldYg g1 (r9 88 (by decide) (by decide)) (fun j j0 j1 => r9 j (by omega) (by omega)) (vg 19 (by decide) (by decide)) (vg 20 (by decide) (by decide))) (oldNg g1 (r9 89 (by decide) (by decide)) (fun j j0 j1 => r9 j (by omega) (by omega)) (vg 21 (by decide) (by decide)) (vg 22 (by decide) (by decide))) ?_
      · unfold VoW
        rw [r6]
        refine ⟨by omega, fun i i0 i1 => ?_⟩
        obtain ⟨q, q1, q2⟩ := row i i0 i1
        have a := r10 q q2
        have b := ro.1 q q2
        unfold RwOK at b
        rw [if_pos rfl] at a b
        simp only at a
        obtain ⟨a0, a1, a2, a3⟩ := a
        rw [show (151 : Int) + 4 * i = 151 + (4 * (q : Int)) by omega, show (152 : Int) + 4 * i = 151 + (4 * (q : Int) + 1) by omega, show (153 : Int) + 4 * i = 151 + (4 * (q : Int) + 2) by omega, show (154 : Int) + 4 * i = 151 + (4 * (q : Int) + 3) by omega, a0, a1, a2, a3]
        exact b
      · unfold VoG
        rw [r6, v17, v17]
        refine ⟨c4, c3, fun i i0 i1 => ?_⟩
        obtain ⟨q, q1, q2⟩ := row i i0 i1
        have a := r10 q q2
        rw [if_pos rfl] at a
        simp only at a
        obtain ⟨a0, a1, a2, a3⟩ := a
        have b := w6.2 q q2
        obtain ⟨b0, b1, b2, b3⟩ := b
        rw [v18, v18, v18, v18, show (151 : Int) + 4 * i = 151 + (4 * (q : Int)) by omega, show (152 : Int) + 4 * i = 151 + (4 * (q : Int) + 1) by omega, show (153 : Int) + 4 * i = 151 + (4 * (q : Int) + 2) by omega, show (154 : Int) + 4 * i = 151 + (4 * (q : Int) + 3) by omega, a0, a1, a2, a3, ← q1, c5 _ (by omega) (by omega), c5 _ (by omega) (by omega), c5 _ (by omega) (by omega), c5 _ (by omega) (by omega), y46, y46, y46, y46]
        exact ⟨b0, b1, b2, b3⟩
      · exact LR_congr (r9 86 (by decide) (by decide)) (fun j hj => r9 j (by omega) (by omega)) (fun k k1 k2 i => vg k (by omega) (by omega) i) g1.2.2.2.2.2.2
    have g6 := h.2.2.2.2.2.1
    refine ⟨?_, inv_txt (w' := rd r.2 85) h rfl (fun j hj => r9 j (by omega) (by omega)) hC ?_ ?_ ?_ ?_ ?_ ?_ ?_⟩
    · show rd s6 18 2 = r.1
      rw [r1]
      exact c3
    · have p4 : rd r.2 55 4 = rd σ 55 4 := by
        rw [fR 55 4 (by decide) (by decide) (by decide) (by decide) (by decide), c2 55 4 (by decide), rq_i (by decide)]; exact w1 55 4 (by decide)
      have p3 : rd r.2 55 3 = 0 := by
        rw [fR 55 3 (by decide) (by decide) (by decide) (by decide) (by decide), c2 55 3 (by decide), rq_s]; rfl
      have p5 := h.2.2.2.2.1.1
      unfold PR
      rw [p4, p3, r8 (by decide)]
      exact ⟨p5, by decide, rfl, fun k k0 k1 => by omega⟩
    · exact same 86 (by decide) (by decide) (by decide) (by decide) (by decide) (by decide)
    · refine vw_keep (fun j a b c d => same (106 + j) (by omega) (by omega) (by omega) (by omega) (by omega) ?_)
      simp only [List.mem_cons, List.not_mem_nil, or_false]
      omega
    · exact f84 5 (by decide) (by decide)
    · have cc : ∀ c : Nat, c = 45 ∨ c = 47 ∨ c = 49 → rd r.2 c 1 = rd σ c 1 := fun c hc => by
        rw [fR c 1 (by omega) (by omega) (by omega) (by omega) (by omega), z64 c (by omega) (by omega) (by omega)]
        exact w2 c hc
      have x51 := congrFun (same 51 (by decide) (by decide) (by decide) (by decide) (by decide) (by decide)) 1
      have x53 := congrFun (same 53 (by decide) (by decide) (by decide) (by decide) (by decide) (by decide)) 1
      unfold TC at g6 ⊢
      rw [x51, x53, cc 45 (by decide), cc 47 (by decide), cc 49 (by decide)]
      exact g6
    · have e59 : rd r.2 59 4 = 0 := by
        rw [fR 59 4 (by decide) (by decide) (by decide) (by decide) (by decide), z64 59 (by decide) (by decide) (by decide)]; exact w3
      unfold TR
      rw [e59, r3]
      exact ⟨by decide, rfl, fun i a b => by omega⟩
    · refine ⟨?_, ?_⟩
      · rw [r4, fR 64 0 (by decide) (by decide) (by decide) (by decide) (by decide), z64 64 (by decide) (by decide) (by decide)]; exact w4
      · rw [r5, fR 64 1 (by decide) (by decide) (by decide) (by decide) (by decide), z64 64 (by decide) (by decide) (by decide)]; exact w5
theorem text_weather {has : Bool} {N0 : Nat} : OpE has N0 (fX10_text 2) (fX11_text 2) := by
  intro σ h
  obtain ⟨t, z, N, hO, H, ht, h16, r⟩ := textC_rows (k := 2) (by decide) h
  have hW := h.1.1
  have md : ∀ τ, rd τ 92 = rd σ 92 → rd τ 84 16 = rd σ 84 16 → rd τ 85 = rd σ 85 → _ := fun τ q1 q2 q3 => textM_rows (k := 2) (σ := τ) (by decide) hO H hW q3 (q2.trans h16) (fun i _ _ => by rw [q1, ht])
  cases e : rowsA (kT t z) (vT t z) (rd σ 85) 2 FU 0 [] with
  | error x =>
    rw [e] at r
    simp only [e] at md
    refine wp_mono r (fun q hq => ?_)
    obtain ⟨w1, w2, w3, w4, w5, w6⟩ := hq
    refine wp_mono (md q.2 (funext fun i => w2 92 i (by decide)) (w2 84 16 (by decide)) (funext fun i => w2 85 i (by decide))) (fun r hr => ?_)
    obtain ⟨r1, r2, r3, r4, r5⟩ := hr
    refine ⟨w1.trans r1.symm, text_bad h w2 w3 w4 r2 r3 ⟨?_, ?_⟩⟩
    · rw [r4, r2 64 0 (by decide) (by decide) (by decide) (by decide)]; exact w5
    · rw [r5, r2 64 1 (by decide) (by decide) (by decide) (by decide)]; exact w6
  | ok rs =>
    have ro := rowsA_ok FU 0 [] (fun i hi => absurd hi (Nat.not_lt_zero _)) (show (0 : Int) ≤ capR 2 by decide) rs e
    rw [e] at r
    simp only [e] at md
    obtain ⟨s, eT, w1, w2, w3, w4, w5, w6⟩ := r
    have hcap : (rs.length : Int) ≤ 12 := ro.2
    have w6 : RoC 47 rs s := w6
    have g1 := h.1
    have most : rd s 20 1 = 12 := (w1 20 1 (by decide)).trans g1.2.2.2.2.1.2.1.1
    show wp (fX10_text 2 σ) _
    rw [eT]
    rw [if_neg (by decide), if_pos rfl]
    unfold fX10_text_J73 fX10_text_J81 fX9_take
    rw [if_neg (by decide)]
    show wp (((fX6_copy 20 48 47 48 (wr s 55 3 0)).bind _).bind _) _
    obtain ⟨s6, c1, c2, c3, c4, c5⟩ := rows_cp (c0 := 20) (N0 := 48) (c1 := 47) (N1 := 48) (σ := wr s 55 3 0) (by decide) (by decide) (by rw [rq_c (by decide), w6.1]; omega) (by rw [rq_c (by decide), most]; decide) (by rw [rq_c (by decide), rq_c (by decide), w6.1, most]; omega)
    have c2 : Fr [20, 21] (wr s 55 3 0) s6 := c2
    have e2 : rd (wr s 55 3 0) 47 2 = rs.length := (rq_c (by decide)).trans w6.1
    have e1 : rd (wr s 55 3 0) 20 1 = 12 := (rq_c (by decide)).trans most
    rw [e2, e1, show min (rs.length : Int) 12 = rs.length by omega] at c3
    rw [e2, e1, show min (rs.length : Int) 12 = rs.length by omega] at c5
    rw [e1] at c4
    have f6 : Fr [61, 62, 63, 59, 64, 38, 39, 40, 41, 42, 45, 46, 47, 48, 49, 50, 20, 21, 55] σ s6 := (((w1.mo (by decide) : Fr [61, 62, 63, 59, 64, 38, 39, 40, 41, 42, 45, 46, 47, 48, 49, 50, 20, 21, 55] σ s)).wr (by decide)).tr (c2.mo (by decide))
    have y46 : ∀ j : Int, rd (wr s 55 3 0) 48 j = rd s 48 j := fun j => rq_c (by decide)
    have z64 : ∀ c : Nat, c ≠ 55 → c ≠ 20 → c ≠ 21 → ∀ i, rd s6 c i = rd s c i := fun c a1 a2 a3 i => by
      rw [c2 c i (by simp; omega), rq_c a1]
    rw [c1, Option.bind_some, Option.bind_some, wp_some]
    refine wp_mono (md s6 (funext fun i => f6 92 i (by decide)) (f6 84 16 (by decide)) (funext fun i => f6 85 i (by decide))) (fun r hr => ?_)
    obtain ⟨r1, ⟨s7, r2, r2b⟩, ⟨r7, r8⟩, r3, r4, r5, r6, r9, r10⟩ := hr
    have r6 : rd r.2 85 88 = rs.length := r6
    have r9 : ∀ j : Int, j ≠ 88 → (j < 215 ∨ 239 ≤ j) → rd r.2 85 j = rd σ 85 j := r9
    have r10 : RoM 2 rs (fun q => rd r.2 85 (215 + q)) := r10
    have fR : ∀ (c : Nat) (i : Int), c ≠ 85 → c ≠ 84 → c ≠ 89 → c ≠ 90 → c ≠ 91 → rd r.2 c i = rd s6 c i := fun c i a1 a2 a3 a4 a5 => by
      rw [r2b c i a1 (fun q => a2 q.1), r2 c i a3 a4 a5 (fun q => a2 q.1)]
    have f84 : ∀ i : Int, ¬ (12 ≤ i ∧ i ≤ 25) → i ≠ 4 → rd r.2 84 i = rd σ 84 i := fun i hi i4 => by
      rw [r2b 84 i (by decide) (fun q => i4 q.2), r2 84 i (by decide) (by decide) (by decide) (fun q => hi q.2)]
      exact f6 84 i (by decide)
    have same : ∀ c : Nat, c ≠ 85 → c ≠ 84 → c ≠ 89 → c ≠ 90 → c ≠ 91 → c ∉ [61, 62, 63, 59, 64, 38, 39, 40, 41, 42, 45, 46, 47, 48, 49, 50, 20, 21, 55] → rd r.2 c = rd σ c := fun c a1 a2 a3 a4 a5 a6 => funext fun i => (fR c i a1 a2 a3 a4 a5).trans (f6 c i a6)
    have vg : ∀ k : Nat, k ≠ 19 → k ≠ 20 → ∀ i, vw r.2 1 k i = vw σ 1 k i := fun k k1 k2 i => by
      unfold vw
      split
      · rfl
      · next hk2 =>
        refine congrFun (same (1 + k) (by omega) (by omega) (by omega) (by omega) (by omega) ?_) i
        simp only [List.mem_cons, List.not_mem_nil, or_false]
        omega
    have v17 : ∀ i : Int, vw r.2 1 19 i = rd s6 20 i := fun i => by
      unfold vw
      rw [if_neg (by decide)]
      exact fR 20 i (by decide) (by decide) (by decide) (by decide) (by decide)
    have v18 : ∀ i : Int, vw r.2 1 20 i = rd s6 21 i := fun i => by
      unfold vw
      rw [if_neg (by decide)]
      exact fR 21 i (by decide) (by decide) (by decide) (by decide) (by decide)
    have row : ∀ i : Int, 0 ≤ i → i < rs.length → ∃ q : Nat, (q : Int) = i ∧ q < rs.length := fun i i0 i1 => ⟨i.toNat, by omega, by omega⟩
    have hC : CW 150 (rd r.2 85) r.2 1 := by
      refine CG_txt g1 (fun j hj => r9 j (by omega) (by omega)) (fun k hk i => vg k (by omega) (by omega) i) (oldV g1 (r9 87 (by decide) (by decide)) (fun j j0 j1 => r9 j (by omega) (by omega))) ?_ (oldN g1 (r9 89 (by decide) (by decide)) (fun j j0 j1 => r9 j (by omega) (by omega))) (oldVg g1 (r9 87 (by decide) (by decide)) (fun j j0 j1 => r9 j (by omega) (by omega)) (vg 17 (by decide) (by decide)) (vg 18 (by decide) (by decide))) ?_ (oldNg g1 (r9 89 (by decide) (by decide)) (fun j j0 j1 => r9 j (by omega) (by omega)) (vg 21 (by decide) (by decide)) (vg 22 (by decide) (by decide))) ?_
      · unfold WeW
        rw [r6]
        refine ⟨by omega, fun i i0 i1 => ?_⟩
        obtain ⟨q, q1, q2⟩ := row i i0 i1
        have a := r10 q q2
        have b := ro.1 q q2
        unfold RwOK at b
        rw [if_neg (by decide), if_pos rfl] at a b
        simp only at a
        obtain ⟨a0, a1⟩ := a
        rw [show (215 : Int) + 2 * i = 215 + (2 * (q : Int)) by omega, show (216 : Int) + 2 * i = 215 + (2 * (q : Int) + 1) by omega, a0, a1]
        exact b
      · unfold WeG
        rw [r6, v17, v17]
        refine ⟨c4, c3, fun i i0 i1 => ?_⟩
        obtain ⟨q, q1, q2⟩ := row i i0 i1
        have a := r10 q q2
        rw [if_neg (by decide), if_pos rfl] at a
        simp only at a
        obtain ⟨a0, a1⟩ := a
        have b := w6.2 q q2
        obtain ⟨b0, b1, b2, b3⟩ := b
        rw [v18, v18, show (215 : Int) + 2 * i = 215 + (2 * (q : Int)) by omega, show (216 : Int) + 2 * i = 215 + (2 * (q : Int) + 1) by omega, a0, a1, ← q1, c5 _ (by omega) (by omega), c5 _ (by omega) (by omega), y46, y46]
        exact ⟨b0, b1⟩
      · exact LR_congr (r9 86 (by decide) (by decide)) (fun j hj => r9 j (by omega) (by omega)) (fun k k1 k2 i => vg k (by omega) (by omega) i) g1.2.2.2.2.2.2
    have g6 := h.2.2.2.2.2.1
    refine ⟨?_, inv_txt (w' := rd r.2 85) h rfl (fun j hj => r9 j (by omega) (by omega)) hC ?_ ?_ ?_ ?_ ?_ ?_ ?_⟩
    · show rd s6 20 2 = r.1
      rw [r1]
      exact c3
    · have p4 : rd r.2 55 4 = rd σ 55 4 := by
        rw [fR 55 4 (by decide) (by decide) (by decide) (by decide) (by decide), c2 55 4 (by decide), rq_i (by decide)]; exact w1 55 4 (by decide)
      have p3 : rd r.2 55 3 = 0 := by
        rw [fR 55 3 (by decide) (by decide) (by decide) (by decide) (by decide), c2 55 3 (by decide), rq_s]; rfl
      have p5 := h.2.2.2.2.1.1
      unfold PR
      rw [p4, p3, r8 (by decide)]
      exact ⟨p5, by decide, rfl, fun k k0 k1 => by omega⟩
    · exact same 86 (by decide) (by decide) (by decide) (by decide) (by decide) (by decide)
    · refine vw_keep (fun j a b c d => same (106 + j) (by omega) (by omega) (by omega) (by omega) (by omega) ?_)
      simp only [List.mem_cons, List.not_mem_nil, or_false]
      omega
    · exact f84 5 (by decide) (by decide)
    · have cc : ∀ c : Nat, c = 45 ∨ c = 47 ∨ c = 49 → rd r.2 c 1 = rd σ c 1 := fun c hc => by
        rw [fR c 1 (by omega) (by omega) (by omega) (by omega) (by omega), z64 c (by omega) (by omega) (by omega)]
        exact w2 c hc
      have x51 := congrFun (same 51 (by decide) (by decide) (by decide) (by decide) (by decide) (by decide)) 1
      have x53 := congrFun (same 53 (by decide) (by decide) (by decide) (by decide) (by decide) (by decide)) 1
      unfold TC at g6 ⊢
      rw [x51, x53, cc 45 (by decide), cc 47 (by decide), cc 49 (by decide)]
      exact g6
    · have e59 : rd r.2 59 4 = 0 := by
        rw [fR 59 4 (by decide) (by decide) (by decide) (by decide) (by decide), z64 59 (by decide) (by decide) (by decide)]; exact w3
      unfold TR
      rw [e59, r3]
      exact ⟨by decide, rfl, fun i a b => by omega⟩
    · refine ⟨?_, ?_⟩
      · rw [r4, fR 64 0 (by decide) (by decide) (by decide) (by decide) (by decide), z64 64 (by decide) (by decide) (by decide)]; exact w4
      · rw [r5, fR 64 1 (by decide) (by decide) (by decide) (by decide) (by decide), z64 64 (by decide) (by decide) (by decide)]; exact w5
theorem text_wants {has : Bool} {N0 : Nat} : OpE has N0 (fX10_text 3) (fX11_text 3) := by
  intro σ h
  obtain ⟨t, z, N, hO, H, ht, h16, r⟩ := textC_rows (k := 3) (by decide) h
  have hW := h.1.1
  have md : ∀ τ, rd τ 92 = rd σ 92 → rd τ 84 16 = rd σ 84 16 → rd τ 85 = rd σ 85 → _ := fun τ q1 q2 q3 => textM_rows (k := 3) (σ := τ) (by decide) hO H hW q3 (q2.trans h16) (fun i _ _ => by rw [q1, ht])
  cases e : rowsA (kT t z) (vT t z) (rd σ 85) 3 FU 0 [] with
  | error x =>
    rw [e] at r
    simp only [e] at md
    refine wp_mono r (fun q hq => ?_)
    obtain ⟨w1, w2, w3, w4, w5, w6⟩ := hq
    refine wp_mono (md q.2 (funext fun i => w2 92 i (by decide)) (w2 84 16 (by decide)) (funext fun i => w2 85 i (by decide))) (fun r hr => ?_)
    obtain ⟨r1, r2, r3, r4, r5⟩ := hr
    refine ⟨w1.trans r1.symm, text_bad h w2 w3 w4 r2 r3 ⟨?_, ?_⟩⟩
    · rw [r4, r2 64 0 (by decide) (by decide) (by decide) (by decide)]; exact w5
    · rw [r5, r2 64 1 (by decide) (by decide) (by decide) (by decide)]; exact w6
  | ok rs =>
    have ro := rowsA_ok FU 0 [] (fun i hi => absurd hi (Nat.not_lt_zero _)) (show (0 : Int) ≤ capR 3 by decide) rs e
    rw [e] at r
    simp only [e] at md
    obtain ⟨s, eT, w1, w2, w3, w4, w5, w6⟩ := r
    have hcap : (rs.length : Int) ≤ 12 := ro.2
    have w6 : RoC 49 rs s := w6
    have g1 := h.1
    have most : rd s 22 1 = 12 := (w1 22 1 (by decide)).trans g1.2.2.2.2.1.2.2.1.1
    show wp (fX10_text 3 σ) _
    rw [eT]
    rw [if_neg (by decide), if_neg (by decide)]
    unfold fX10_text_J81 fX9_take
    rw [if_neg (by decide)]
    show wp (((fX6_copy 22 48 49 48 s).bind _).bind _) _
    obtain ⟨s6, c1, c2, c3, c4, c5⟩ := rows_cp (c0 := 22) (N0 := 48) (c1 := 49) (N1 := 48) (σ := s) (by decide) (by decide) (by rw [w6.1]; omega) (by rw [most]; decide) (by rw [w6.1, most]; omega)
    have c2 : Fr [22, 23] s s6 := c2
    rw [w6.1, most, show min (rs.length : Int) 12 = rs.length by omega] at c3
    rw [w6.1, most, show min (rs.length : Int) 12 = rs.length by omega] at c5
    rw [most] at c4
    have f6 : Fr [61, 62, 63, 59, 64, 38, 39, 40, 41, 42, 45, 46, 47, 48, 49, 50, 22, 23] σ s6 := (w1.mo (by decide)).tr (c2.mo (by decide))
    have y46 : ∀ j : Int, rd s 50 j = rd s 50 j := fun j => rfl
    have z64 : ∀ c : Nat, c ≠ 55 → c ≠ 22 → c ≠ 23 → ∀ i, rd s6 c i = rd s c i := fun c a1 a2 a3 i => by
      rw [c2 c i (by simp; omega)]
    rw [c1, Option.bind_some, Option.bind_some, wp_some]
    refine wp_mono (md s6 (funext fun i => f6 92 i (by decide)) (f6 84 16 (by decide)) (funext fun i => f6 85 i (by decide))) (fun r hr => ?_)
    obtain ⟨r1, ⟨s7, r2, r2b⟩, ⟨r7, r8⟩, r3, r4, r5, r6, r9, r10⟩ := hr
    have r6 : rd r.2 85 89 = rs.length := r6
    have r9 : ∀ j : Int, j ≠ 89 → (j < 239 ∨ 275 ≤ j) → rd r.2 85 j = rd σ 85 j := r9
    have r10 : RoM 3 rs (fun q => rd r.2 85 (239 + q)) := r10
    have fR : ∀ (c : Nat) (i : Int), c ≠ 85 → c ≠ 84 → c ≠ 89 → c ≠ 90 → c ≠ 91 → rd r.2 c i = rd s6 c i := fun c i a1 a2 a3 a4 a5 => by
      rw [r2b c i a1 (fun q => a2 q.1), r2 c i a3 a4 a5 (fun q => a2 q.1)]
    have f84 : ∀ i : Int, ¬ (12 ≤ i ∧ i ≤ 25) → i ≠ 4 → rd r.2 84 i = rd σ 84 i := fun i hi i4 => by
      rw [r2b 84 i (by decide) (fun q => i4 q.2), r2 84 i (by decide) (by decide) (by decide) (fun q => hi q.2)]
      exact f6 84 i (by decide)
    have same : ∀ c : Nat, c ≠ 85 → c ≠ 84 → c ≠ 89 → c ≠ 90 → c ≠ 91 → c ∉ [61, 62, 63, 59, 64, 38, 39, 40, 41, 42, 45, 46, 47, 48, 49, 50, 22, 23] → rd r.2 c = rd σ c := fun c a1 a2 a3 a4 a5 a6 => funext fun i => (fR c i a1 a2 a3 a4 a5).trans (f6 c i a6)
    have vg : ∀ k : Nat, k ≠ 21 → k ≠ 22 → ∀ i, vw r.2 1 k i = vw σ 1 k i := fun k k1 k2 i => by
      unfold vw
      split
      · rfl
      · next hk2 =>
        refine congrFun (same (1 + k) (by omega) (by omega) (by omega) (by omega) (by omega) ?_) i
        simp only [List.mem_cons, List.not_mem_nil, or_false]
        omega
    have v17 : ∀ i : Int, vw r.2 1 21 i = rd s6 22 i := fun i => by
      unfold vw
      rw [if_neg (by decide)]
      exact fR 22 i (by decide) (by decide) (by decide) (by decide) (by decide)
    have v18 : ∀ i : Int, vw r.2 1 22 i = rd s6 23 i := fun i => by
      unfold vw
      rw [if_neg (by decide)]
      exact fR 23 i (by decide) (by decide) (by decide) (by decide) (by decide)
    have row : ∀ i : Int, 0 ≤ i → i < rs.length → ∃ q : Nat, (q : Int) = i ∧ q < rs.length := fun i i0 i1 => ⟨i.toNat, by omega, by omega⟩
    have hC : CW 150 (rd r.2 85) r.2 1 := by
      refine CG_txt g1 (fun j hj => r9 j (by omega) (by omega)) (fun k hk i => vg k (by omega) (by omega) i) (oldV g1 (r9 87 (by decide) (by decide)) (fun j j0 j1 => r9 j (by omega) (by omega))) (oldY g1 (r9 88 (by decide) (by decide)) (fun j j0 j1 => r9 j (by omega) (by omega))) ?_ (oldVg g1 (r9 87 (by decide) (by decide)) (fun j j0 j1 => r9 j (by omega) (by omega)) (vg 17 (by decide) (by decide)) (vg 18 (by decide) (by decide))) (oldYg g1 (r9 88 (by decide) (by decide)) (fun j j0 j1 => r9 j (by omega) (by omega)) (vg 19 (by decide) (by decide)) (vg 20 (by decide) (by decide))) ?_ ?_
      · unfold WaW
        rw [r6]
        refine ⟨by omega, fun i i0 i1 => ?_⟩
        obtain ⟨q, q1, q2⟩ := row i i0 i1
        have a := r10 q q2
        have b := ro.1 q q2
        unfold RwOK at b
        rw [if_neg (by decide), if_neg (by decide)] at a b
        simp only at a
        obtain ⟨a0, a1, a2⟩ := a
        rw [show (239 : Int) + 3 * i = 239 + (3 * (q : Int)) by omega, show (240 : Int) + 3 * i = 239 + (3 * (q : Int) + 1) by omega, show (241 : Int) + 3 * i = 239 + (3 * (q : Int) + 2) by omega, a0, a1, a2]
        exact b
      · unfold WaG
        rw [r6, v17, v17]
        refine ⟨c4, c3, fun i i0 i1 => ?_⟩
        obtain ⟨q, q1, q2⟩ := row i i0 i1
        have a := r10 q q2
        rw [if_neg (by decide), if_neg (by decide)] at a
        simp only at a
        obtain ⟨a0, a1, a2⟩ := a
        have b := w6.2 q q2
        obtain ⟨b0, b1, b2, b3⟩ := b
        rw [v18, v18, v18, show (239 : Int) + 3 * i = 239 + (3 * (q : Int)) by omega, show (240 : Int) + 3 * i = 239 + (3 * (q : Int) + 1) by omega, show (241 : Int) + 3 * i = 239 + (3 * (q : Int) + 2) by omega, a0, a1, a2, ← q1, c5 _ (by omega) (by omega), c5 _ (by omega) (by omega), c5 _ (by omega) (by omega), y46, y46, y46]
        exact ⟨b0, b1, b2⟩
      · exact LR_congr (r9 86 (by decide) (by decide)) (fun j hj => r9 j (by omega) (by omega)) (fun k k1 k2 i => vg k (by omega) (by omega) i) g1.2.2.2.2.2.2
    have g6 := h.2.2.2.2.2.1
    refine ⟨?_, inv_txt (w' := rd r.2 85) h rfl (fun j hj => r9 j (by omega) (by omega)) hC ?_ ?_ ?_ ?_ ?_ ?_ ?_⟩
    · show rd s6 22 2 = r.1
      rw [r1]
      exact c3
    · refine PR_w ?_ (r9 80 (by decide) (by decide)) (r9 81 (by decide) (by decide)) (r9 85 (by decide) (by decide)) (r9 3 (by decide) (by decide))
      exact PR_k (same 55 (by decide) (by decide) (by decide) (by decide) (by decide) (by decide)) (same 56 (by decide) (by decide) (by decide) (by decide) (by decide) (by decide)) (same 57 (by decide) (by decide) (by decide) (by decide) (by decide) (by decide)) (same 58 (by decide) (by decide) (by decide) (by decide) (by decide) (by decide)) (same 87 (by decide) (by decide) (by decide) (by decide) (by decide) (by decide)) ((r7 trivial).trans (f6 84 4 (by decide))) nbN_le h.2.2.2.2.1
    · exact same 86 (by decide) (by decide) (by decide) (by decide) (by decide) (by decide)
    · refine vw_keep (fun j a b c d => same (106 + j) (by omega) (by omega) (by omega) (by omega) (by omega) ?_)
      simp only [List.mem_cons, List.not_mem_nil, or_false]
      omega
    · exact f84 5 (by decide) (by decide)
    · have cc : ∀ c : Nat, c = 45 ∨ c = 47 ∨ c = 49 → rd r.2 c 1 = rd σ c 1 := fun c hc => by
        rw [fR c 1 (by omega) (by omega) (by omega) (by omega) (by omega), z64 c (by omega) (by omega) (by omega)]
        exact w2 c hc
      have x51 := congrFun (same 51 (by decide) (by decide) (by decide) (by decide) (by decide) (by decide)) 1
      have x53 := congrFun (same 53 (by decide) (by decide) (by decide) (by decide) (by decide) (by decide)) 1
      unfold TC at g6 ⊢
      rw [x51, x53, cc 45 (by decide), cc 47 (by decide), cc 49 (by decide)]
      exact g6
    · have e59 : rd r.2 59 4 = 0 := by
        rw [fR 59 4 (by decide) (by decide) (by decide) (by decide) (by decide), z64 59 (by decide) (by decide) (by decide)]; exact w3
      unfold TR
      rw [e59, r3]
      exact ⟨by decide, rfl, fun i a b => by omega⟩
    · refine ⟨?_, ?_⟩
      · rw [r4, fR 64 0 (by decide) (by decide) (by decide) (by decide) (by decide), z64 64 (by decide) (by decide) (by decide)]; exact w4
      · rw [r5, fR 64 1 (by decide) (by decide) (by decide) (by decide) (by decide), z64 64 (by decide) (by decide) (by decide)]; exact w5
theorem op_text {has : Bool} {N : Nat} (hN : N ≤ 511) (x1 : Int) (h1 : bw x1 = x1) : OpE has N (fX10_text x1) (fX11_text x1) := by
  by_cases c0 : x1 = 0
  · rw [c0]; exact text_law
  by_cases c1 : x1 = 1
  · rw [c1]; exact text_vows
  by_cases c2 : x1 = 2
  · rw [c2]; exact text_weather
  by_cases c3 : x1 = 3
  · rw [c3]; exact text_wants
  intro σ h
  have e : fX10_text x1 σ = fX10_text_J9 σ := by
    unfold fX10_text
    by_cases d : x1 < 0
    · rw [if_pos d]
    · rw [if_neg d, if_pos (by omega)]
  show wp (fX10_text x1 σ) _
  rw [e]
  unfold fX10_text_J9
  rw [wp_some]
  have f0 : Fr [59, 64] σ (wr (wr (wr σ 59 4 0) 64 0 0) 64 1 (-1)) := ((Fr.rf.wr (by decide)).wr (by decide)).wr (by decide)
  generalize hs : wr (wr (wr σ 59 4 0) 64 0 0) 64 1 (-1) = s at f0
  have z0 : rd s 59 4 = 0 := by rw [← hs, rq_c (by decide), rq_c (by decide), rq_s]; rfl
  have z1 : rd s 64 0 = 0 := by rw [← hs, rq_i (by decide), rq_s]; rfl
  have z2 : rd s 64 1 = -1 := by rw [← hs, rq_s]; rfl
  unfold fX11_text
  rw [isIn_m, if_neg (show ¬ (0 ≤ x1 ∧ x1 ≤ 3) by omega), if_pos p00, wp_some]
  have f1 : FrT s (wr (wr (wr s 84 23 0) 84 25 (-1)) 84 16 0) := ((FrT.rf.wr (by omega)).wr (by omega)).wr (by omega)
  refine ⟨rfl, text_bad h (f0.mo (by decide)) (fun c hc => f0 c 1 (by rcases hc with rfl | rfl | rfl <;> decide)) z0 f1 ?_ ⟨?_, ?_⟩⟩
  · rw [rq_s]; rfl
  · rw [f1 64 0 (by decide) (by decide) (by decide) (by decide), rq_i (by decide), rq_i (by decide), rq_s]; exact z1
  · rw [f1 64 1 (by decide) (by decide) (by decide) (by decide), rq_i (by decide), rq_s]; exact z2
