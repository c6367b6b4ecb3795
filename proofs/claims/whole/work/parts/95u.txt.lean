/-! text: what both sides share -/
theorem dgE_all {t : Int → Int} {z : Int} : ∀ (r : Nat) (i q : Int), i ≤ q → q < dgE t z r i → isD (sgT t z q)
  | 0, i, q, h0, h1 => by rw [dgE] at h1; omega
  | r + 1, i, q, h0, h1 => by
    rw [dgE] at h1
    by_cases c : isD (sgT t z i)
    · rw [if_pos c] at h1
      by_cases e : q = i
      · rw [e]; exact c
      · exact dgE_all r (i + 1) q (by omega) h1
    · rw [if_neg c] at h1; omega
theorem vlS_b {t : Int → Int} {z e : Int} (he : ∀ q : Int, q < e → 0 ≤ q → isD (sgT t z q) ∨ True) : ∀ (r : Nat) (i v : Int), (∀ q : Int, i ≤ q → q < e → isD (sgT t z q)) → 0 ≤ v → ((e - i = 4 ∧ v ≤ 0) ∨ (e - i = 3 ∧ v ≤ 9) ∨ (e - i = 2 ∧ v ≤ 99) ∨ (e - i = 1 ∧ v ≤ 999) ∨ (e - i ≤ 0 ∧ v ≤ 9999)) → 0 ≤ vlS t z e r i v ∧ vlS t z e r i v ≤ 9999
  | 0, i, v, hd, h0, h1 => by rw [vlS]; omega
  | r + 1, i, v, hd, h0, h1 => by
    rw [vlS]
    by_cases c : i < e
    · have d : 48 ≤ sgT t z i ∧ sgT t z i ≤ 57 := hd i (Int.le_refl _) c
      rw [if_pos c, bw_id (z := 10 * v) (by omega) (by omega), bw_id (z := 10 * v + sgT t z i) (by omega) (by omega), bw_id (z := 10 * v + sgT t z i - 48) (by omega) (by omega)]
      exact vlS_b he r (i + 1) _ (fun q a b => hd q (by omega) b) (by omega) (by omega)
    · rw [if_neg c]; omega
theorem tV_b {t : Int → Int} {z p : Int} (h0 : 0 ≤ p) (h1 : p ≤ z) (h : tK t z p = 1) : 0 ≤ tV t z p ∧ tV t z p ≤ 9999 := by
  have te := tE_r (t := t) h0 h1
  by_cases c : tP t z p < z
  · by_cases cL : isL (t (tP t z p))
    · have eK : tK t z p = wdS t z (tP t z p) (tE t z p) 22 0 := by unfold tK; rw [if_pos c, if_pos cL]
      have := wdS_r (t := t) (z := z) (s := tP t z p) (e := tE t z p) 22 0 (by omega)
      omega
    · by_cases cD : isD (t (tP t z p))
      · have eE : tE t z p = dgE t z 400 (tP t z p) := by unfold tE; rw [if_pos c, if_neg cL, if_pos cD]
        have eK : tK t z p = if tE t z p - tP t z p ≤ 4 then 1 else 2 := by unfold tK; rw [if_pos c, if_neg cL, if_pos cD]
        by_cases c4 : tE t z p - tP t z p ≤ 4
        · have hd : ∀ q : Int, tP t z p ≤ q → q < tE t z p → isD (sgT t z q) := fun q a b => by
            rw [eE] at b
            exact dgE_all 400 _ q a b
          have hlt := te.2.2.2.2 c
          have k : ∀ (r : Nat) (i : Int), r = 400 → i = tP t z p → 0 ≤ vlS t z (tE t z p) r i 0 ∧ vlS t z (tE t z p) r i 0 ≤ 9999 := fun r i _ hi => by
            by_cases e4 : tE t z p - tP t z p = 4
            · exact vlS_b (fun _ _ _ => Or.inr trivial) r i 0 (by rw [hi]; exact hd) (Int.le_refl _) (Or.inl ⟨by omega, by omega⟩)
            by_cases e3 : tE t z p - tP t z p = 3
            · exact vlS_b (fun _ _ _ => Or.inr trivial) r i 0 (by rw [hi]; exact hd) (Int.le_refl _) (Or.inr (Or.inl ⟨by omega, by omega⟩))
            by_cases e2 : tE t z p - tP t z p = 2
            · exact vlS_b (fun _ _ _ => Or.inr trivial) r i 0 (by rw [hi]; exact hd) (Int.le_refl _) (Or.inr (Or.inr (Or.inl ⟨by omega, by omega⟩)))
            · exact vlS_b (fun _ _ _ => Or.inr trivial) r i 0 (by rw [hi]; exact hd) (Int.le_refl _) (Or.inr (Or.inr (Or.inr (Or.inl ⟨by omega, by omega⟩))))
          exact k 400 _ rfl rfl
        · rw [if_neg c4] at eK; omega
      · have eK : tK t z p = if isS (t (tP t z p)) then t (tP t z p) else 2 := by unfold tK; rw [if_pos c, if_neg cL, if_neg cD]
        by_cases cS : isS (t (tP t z p))
        · rw [if_pos cS] at eK; omega
        · rw [if_neg cS] at eK; omega
  · have eK : tK t z p = 0 := by unfold tK; rw [if_neg c]
    omega
theorem tape_of {σ : Sg} (h : TR σ) : TO (rd σ 92) (rd σ 59 4) ∧ TPc (rd σ 92) (rd σ 59 4) σ := by
  obtain ⟨h1, h2, h3⟩ := h
  refine ⟨⟨h1, fun i a b => ?_⟩, rfl, h3⟩
  rw [← h3 i a b, band_255 (rd_bw _ _ _)]
  omega
theorem spl_c {t : Int → Int} {z : Int} {σ : Sg} (hO : TO t z) (hT : TPc t z σ) : wp (fX7_split σ) (fun τ => Fr [61, 62, 63] σ τ ∧ ∃ N : Nat, HK (kT t z) (vT t z) N ∧ TKs (kT t z) (vT t z) N τ ∧ ∀ j : Nat, j ≤ N → rd τ 63 j = pT t z j) := by
  refine wp_mono (splitAll_c hO hT) (fun τ hτ => ?_)
  obtain ⟨f, N, h1, h2, h3, h4⟩ := hτ
  refine ⟨f, N, ⟨h1, h3, h4, fun j hj => ?_⟩, fun j hj => ⟨(h2 j hj).1, (h2 j hj).2.2⟩, fun j hj => (h2 j hj).2.1⟩
  have r := psT_r (t := t) hO.1.1 j
  exact tV_b r.1 r.2 hj
/-- the reader begins -/
def rdB (x1 : Int) (σ : Sg) : Sg := wr (wr (wr (wr (wr (wr (wr (wr σ 64 5 0) 64 6 (rd (wr σ 64 5 0) 61 0)) 64 0 0) 64 1 (-1)) 38 6 0) 38 7 0) 41 0 0) (fX9_rowsOf 28 x1) 2 0
theorem reads_eq (x1 : Int) (σ : Sg) : fX4_reads x1 σ = fX4_reads_L52 kF x1 FU 0 (rdB x1 σ) := by
  have key : ∀ (k k2 : Sg → Option (Int × Sg)) (s s2 : Sg), k = k2 → s = s2 → fX4_reads_L52 k x1 FU 0 s = fX4_reads_L52 k2 x1 FU 0 s2 := fun k k2 s s2 a b => by rw [a, b]
  unfold fX4_reads fX2_clear
  rw [Option.bind_some]
  exact key _ _ _ _ rfl rfl
theorem rowsOf_n (x1 : Int) : fX9_rowsOf 28 x1 = 45 ∨ fX9_rowsOf 28 x1 = 47 ∨ fX9_rowsOf 28 x1 = 49 := by
  unfold fX9_rowsOf
  split
  · exact Or.inl rfl
  · split
    · exact Or.inr (Or.inl rfl)
    · exact Or.inr (Or.inr rfl)
theorem rdB_ok (x1 : Int) (σ : Sg) : Fr [64, 38, 41, 45, 47, 49] σ (rdB x1 σ) ∧ (rd (rdB x1 σ) 64 5 = 0 ∧ rd (rdB x1 σ) 64 6 = rd σ 61 0 ∧ rd (rdB x1 σ) 64 0 = 0 ∧ rd (rdB x1 σ) 64 1 = -1) ∧ (rd (rdB x1 σ) 38 6 = 0 ∧ rd (rdB x1 σ) 38 7 = 0 ∧ rd (rdB x1 σ) 41 0 = 0) ∧ rd (rdB x1 σ) (fX9_rowsOf 28 x1) 2 = 0 ∧ rd (rdB x1 σ) 45 1 = rd σ 45 1 ∧ rd (rdB x1 σ) 47 1 = rd σ 47 1 ∧ rd (rdB x1 σ) 49 1 = rd σ 49 1 := by
  unfold rdB
  have hr := rowsOf_n x1
  generalize fX9_rowsOf 28 x1 = c at hr
  have e61 : rd (wr σ 64 5 0) 61 0 = rd σ 61 0 := rq_c (by decide)
  rw [e61]
  rcases hr with rfl | rfl | rfl
  · refine ⟨(((((((Fr.rf.wr (by decide)).wr (by decide)).wr (by decide)).wr (by decide)).wr (by decide)).wr (by decide)).wr (by decide)).wr (by decide), ⟨?_, ?_, ?_, ?_⟩, ⟨?_, ?_, ?_⟩, ?_, ?_, ?_, ?_⟩ <;> simp only [rd_wr] <;> (try rfl)
    exact rd_bw _ _ _
  · refine ⟨(((((((Fr.rf.wr (by decide)).wr (by decide)).wr (by decide)).wr (by decide)).wr (by decide)).wr (by decide)).wr (by decide)).wr (by decide), ⟨?_, ?_, ?_, ?_⟩, ⟨?_, ?_, ?_⟩, ?_, ?_, ?_, ?_⟩ <;> simp only [rd_wr] <;> (try rfl)
    exact rd_bw _ _ _
  · refine ⟨(((((((Fr.rf.wr (by decide)).wr (by decide)).wr (by decide)).wr (by decide)).wr (by decide)).wr (by decide)).wr (by decide)).wr (by decide), ⟨?_, ?_, ?_, ?_⟩, ⟨?_, ?_, ?_⟩, ?_, ?_, ?_, ?_⟩ <;> simp only [rd_wr] <;> (try rfl)
    exact rd_bw _ _ _
/-- what is left is as before -/
theorem inv_txt {has : Bool} {N : Nat} {σ τ : Sg} {w' : Int → Int} (h : Inv has N σ) (e85 : rd τ 85 = w') (hw : ∀ j : Int, j < 86 ∨ (89 < j ∧ j < 151) → w' j = rd σ 85 j) (hC : CW 150 w' τ 1) (hP : PR (nbN (N + 1)) w' τ) (hk86 : rd τ 86 = rd σ 86) (hv : vw τ 106 = vw σ 106) (h5 : rd τ 84 5 = rd σ 84 5) (hTC : TC τ) (hTR : TR τ) (hF : FR0 τ) : Inv has (N + 1) τ := by
  obtain ⟨g1, g2, g3, g4, g5, g6, g7, g8, g9⟩ := h
  have hn := nbN_le (N := N)
  have h12 := g1.1.1.2.2.2.2.2.1
  refine ⟨by rw [e85]; exact hC, by rw [e85, hw 0 (by omega)]; exact g2, by rw [e85, hw 1 (by omega)]; omega, by rw [e85]; exact KS_congr g4 (hw 85 (by omega)) (fun j j0 j1 => hw j (by omega)) h12.2, by rw [e85]; exact hP, hTC, hTR, hF, ?_⟩
  exact KR_keep h5 hk86 hv hn g9
theorem PR_w {nb : Int} {w w' : Int → Int} {σ : Sg} (k : PR nb w σ) (h80 : w' 80 = w 80) (h81 : w' 81 = w 81) (h85 : w' 85 = w 85) (h3 : w' 3 = w 3) : PR nb w' σ := by
  unfold PR PE at k ⊢
  unfold isF isP at k ⊢
  rw [h80, h81, h85, h3]
  exact k
/-- the text is not read: only the tape and the fault are changed -/
theorem inv_bad {has : Bool} {N : Nat} {σ τ : Sg} (h : Inv has N σ) (hk : ∀ c ∈ kcells, c ≠ 59 → rd τ c = rd σ c) (hs : ∀ q ∈ [((84 : Nat), (4 : Int)), (84, 5), (45, 1), (47, 1), (49, 1), (51, 1), (53, 1)], rd τ q.1 q.2 = rd σ q.1 q.2) (h59 : rd τ 59 4 = 0) (h16 : rd τ 84 16 = 0) (hF : FR0 τ) : Inv has (N + 1) τ := by
  have e85 := hk 85 (by decide) (by decide)
  have g1 := h.1
  refine inv_txt (w' := rd σ 85) h e85 (fun _ _ => rfl) ?_ ?_ (hk 86 (by decide) (by decide)) (vw_keep (fun j a b c d => hk _ (kc106 j a b c d) (by omega))) (hs (84, 5) (by decide)) ?_ ?_ hF
  · have ev : vw τ 1 = vw σ 1 := vw_keep (fun j a b c d => hk _ (kc1 j a b c d) (by omega))
    unfold CW
    rw [ev]
    exact g1
  · exact PR_k (hk 55 (by decide) (by decide)) (hk 56 (by decide) (by decide)) (hk 57 (by decide) (by decide)) (hk 58 (by decide) (by decide)) (hk 87 (by decide) (by decide)) (hs (84, 4) (by decide)) nbN_le h.2.2.2.2.1
  · have g6 := h.2.2.2.2.2.1
    have e1 : rd τ 45 1 = rd σ 45 1 := hs (45, 1) (by decide)
    have e2 : rd τ 47 1 = rd σ 47 1 := hs (47, 1) (by decide)
    have e3 : rd τ 49 1 = rd σ 49 1 := hs (49, 1) (by decide)
    have e4 : rd τ 51 1 = rd σ 51 1 := hs (51, 1) (by decide)
    have e5 : rd τ 53 1 = rd σ 53 1 := hs (53, 1) (by decide)
    unfold TC at g6 ⊢
    rw [e1, e2, e3, e4, e5]
    exact g6
  · unfold TR
    rw [h59, h16]
    exact ⟨by decide, rfl, fun i a b => by omega⟩
