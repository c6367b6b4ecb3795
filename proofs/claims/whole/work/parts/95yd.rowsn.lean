/-! the model's rows -/
def rowM (k : Int) (n : Nat) (m : Int → Int) (r : Rw) : Int → Int := if k = 1 then upz (upz (upz (upz m (4 * (n : Int)) r.1) (4 * (n : Int) + 1) r.2.1) (4 * (n : Int) + 2) r.2.2.1) (4 * (n : Int) + 3) r.2.2.2 else if k = 2 then upz (upz m (2 * (n : Int)) r.1) (2 * (n : Int) + 1) r.2.1 else upz (upz (upz m (3 * (n : Int)) r.1) (3 * (n : Int) + 1) r.2.1) (3 * (n : Int) + 2) r.2.2.1
section
variable {t : Int → Int} {z k : Int} {N : Nat} {σ0 : Sg} {w : Int → Int}
theorem vo_m (hO : TO t z) (H : HK (kT t z) (vT t z) N) (hW : Wf w) (hw : rd σ0 85 = w) {n j : Nat} {m : Int → Int} {τ : Sg} (h : AtN t z 1 N σ0 j m τ) (h15 : rd σ0 84 15 = n) (hb : beF (kT t z) 20 16 n j = 0) : MR t z 1 N σ0 (mapR (voA (kT t z) (vT t z) w n j) (rowM 1 n m)) ((fX11_aVow τ).bind fun q4 => if q4.1 = 0 then some (0, q4.2) else fX11_aRow_J43 q4.2) := by
  have h12 := hW.1.2.2.2.2.2.1
  have hn := (beF_0 hb).2
  have kb := (beF_0 hb).1
  have e15 : rd τ 84 15 = n := (h.1 84 15 (by decide) (by omega)).trans h15
  have hk : (0 : Int) ≤ 1 ∧ (1 : Int) ≤ 3 := by decide
  -- what the class reads, as a chain
  have key : mapR (voA (kT t z) (vT t z) w n j) (rowM 1 n m) = bdm (bdm (bdm (stM (woF (kT t z) 20 j) j (j + 1) m) (fun j m => stM (nuF (kT t z) (vT t z) 0 999 j) j (j + 1) (upz m (4 * (n : Int)) (vT t z j)))) (fun j m => bdm (stM (p1F (kT t z) (vT t z) w j) j (j + 1) (upz m (4 * (n : Int) + 1) (vT t z j))) (fun j m => bdm (stM (woF (kT t z) 8 j) j (j + 1) m) (fun j m => bdm (stM (p2F (kT t z) (vT t z) w (m (4 * (n : Int) + 1)) j) j (j + 1) (upz m (4 * (n : Int) + 2) (vT t z j))) (fun j m => bdm (stM (woF (kT t z) 21 j) j (j + 1) m) (fun j m => stM (fiF (kT t z) (vT t z) w j) j (j + 1) (upz m (4 * (n : Int) + 3) (vT t z j)))))))) (fun j m => stM (woF (kT t z) 59 j) j (j + 1) m) := by
    have w0 : woF (kT t z) 20 j = 0 := by unfold woF; rw [if_pos kb]
    rw [bdm_assoc, bdm_assoc, voA, hb]
    have s0 : ∀ f : Nat → (Int → Int) → Rm, bdm (stM (woF (kT t z) 20 j) j (j + 1) m) f = f (j + 1) m := fun f => by
      unfold stM; rw [if_pos w0]; rfl
    rw [s0, ck, if_pos rfl]
    refine mck (fun e1 => ?_)
    rw [bdm_assoc]
    refine mck (fun e2 => ?_)
    rw [bdm_assoc]
    refine mck (fun e3 => ?_)
    rw [bdm_assoc]
    have ea : upz (upz m (4 * (n : Int)) (vT t z (j + 1))) (4 * (n : Int) + 1) (vT t z (j + 1 + 1)) (4 * (n : Int) + 1) = vT t z (j + 2) := upz_s
    rw [ea]
    refine mck (fun e4 => ?_)
    rw [bdm_assoc]
    refine mck (fun e5 => ?_)
    refine mck (fun e6 => ?_)
    unfold ck stM
    by_cases e7 : woF (kT t z) 59 (j + 7) = 0
    · rw [if_pos e7]
      show _ = if woF (kT t z) 59 (j + 7) = 0 then _ else _
      rw [if_pos e7]
      rfl
    · rw [if_neg e7]
      show _ = if woF (kT t z) 59 (j + 7) = 0 then _ else _
      rw [if_neg e7]
      rfl
  rw [key]
  refine MR_bd ?_ (fun s => rfl) (fun j9 m9 s9 e9 h9 => ?_)
  · unfold fX11_aVow
    rw [e15, bw_id (z := 4 * (n : Int)) (by omega) (by omega), bw_id (z := 4 * (n : Int) + 1) (by omega) (by omega)]
    refine MR_bd (toldN_m hO hk H h (by omega) (mk_1 (kT_r j)).1 (by decide)) (fun s => rfl) (fun j1 m1 s1 e1 h1 => ?_)
    show MR t z 1 N σ0 _ (if (1 : Int) = 0 then _ else (fX11_number (4 * (n : Int) + 1) 0 (bw ((rd s1 85 85) - 1)) s1).bind fun q3 => if q3.1 = 0 then some (0, q3.2) else (fX11_need 5 q3.2).bind fun q5 => if q5.1 = 0 then some (0, q5.2) else if (rd q5.2 84 18) = 2 then if (fX11_isPerson (rd q5.2 84 20) q5.2) = 0 then fX11_aVow_J95 (4 * (n : Int)) q5.2 else grd ((0 : Int) ≤ 4 * (n : Int) + 1 ∧ 4 * (n : Int) + 1 < 64) ((fX11_areUnlike (rd q5.2 91 (4 * (n : Int) + 1)) (rd q5.2 84 20) q5.2).bind fun r14 => if r14 = 0 then (fX11_bad 2 q5.2).bind fun q16 => some (q16.1, q16.2) else fX11_aVow_J95 (4 * (n : Int)) q5.2) else fX11_aVow_J95 (4 * (n : Int)) q5.2)
    rw [if_neg n10, w85 h1 hw, bw_id (z := w 85 - 1) (by omega) (by omega)]
    refine MR_bd (MR_c (numN_m hO hk H h1 (by omega)) (p1_nu hW j1)) (fun s => rfl) (fun j3 m3 s3 e3 h3 => ?_)
    show MR t z 1 N σ0 _ (if (1 : Int) = 0 then _ else (fX11_need 5 s3).bind fun q5 => if q5.1 = 0 then some (0, q5.2) else if (rd q5.2 84 18) = 2 then if (fX11_isPerson (rd q5.2 84 20) q5.2) = 0 then fX11_aVow_J95 (4 * (n : Int)) q5.2 else grd ((0 : Int) ≤ 4 * (n : Int) + 1 ∧ 4 * (n : Int) + 1 < 64) ((fX11_areUnlike (rd q5.2 91 (4 * (n : Int) + 1)) (rd q5.2 84 20) q5.2).bind fun r14 => if r14 = 0 then (fX11_bad 2 q5.2).bind fun q16 => some (q16.1, q16.2) else fX11_aVow_J95 (4 * (n : Int)) q5.2) else fX11_aVow_J95 (4 * (n : Int)) q5.2)
    rw [if_neg n10]
    -- who the first is
    have pa : isP w (m3 (4 * (n : Int) + 1)) := by
      unfold stM at e3
      by_cases q : p1F (kT t z) (vT t z) w j1 = 0
      · rw [if_pos q] at e3
        cases e3
        rw [upz_s]
        exact (p1F_0 q).2
      · rw [if_neg q] at e3; cases e3
    refine MR_bd (needN_m hO hk H h3 (mk_1 (kT_r j3)).2.1 (by decide)) (fun s => rfl) (fun j5 m5 s5 e5 h5 => ?_)
    have em : m5 = m3 := by
      unfold stM at e5
      by_cases q : woF (kT t z) 8 j3 = 0
      · rw [if_pos q] at e5; cases e5; rfl
      · rw [if_neg q] at e5; cases e5
    rw [← em] at pa
    show MR t z 1 N σ0 _ (if (1 : Int) = 0 then _ else if (rd s5 84 18) = 2 then if (fX11_isPerson (rd s5 84 20) s5) = 0 then fX11_aVow_J95 (4 * (n : Int)) s5 else grd ((0 : Int) ≤ 4 * (n : Int) + 1 ∧ 4 * (n : Int) + 1 < 64) ((fX11_areUnlike (rd s5 91 (4 * (n : Int) + 1)) (rd s5 84 20) s5).bind fun r14 => if r14 = 0 then (fX11_bad 2 s5).bind fun q16 => some (q16.1, q16.2) else fX11_aVow_J95 (4 * (n : Int)) s5) else fX11_aVow_J95 (4 * (n : Int)) s5)
    have tk : rd s5 84 18 = mkK 1 (kT t z j5) := h5.2.2.1.2.1
    have m2 := (mk_num hk (kT_r (t := t) (z := z) j5)).1
    have e91 : rd s5 91 (4 * (n : Int) + 1) = m5 (4 * (n : Int) + 1) := congrFun h5.2.2.2.2 _
    -- the second, and the field
    have rest : p2F (kT t z) (vT t z) w (m5 (4 * (n : Int) + 1)) j5 = p1F (kT t z) (vT t z) w j5 → MR t z 1 N σ0 (bdm (stM (p2F (kT t z) (vT t z) w (m5 (4 * (n : Int) + 1)) j5) j5 (j5 + 1) (upz m5 (4 * (n : Int) + 2) (vT t z j5))) (fun j m => bdm (stM (woF (kT t z) 21 j) j (j + 1) m) (fun j m => stM (fiF (kT t z) (vT t z) w j) j (j + 1) (upz m (4 * (n : Int) + 3) (vT t z j))))) (fX11_aVow_J95 (4 * (n : Int)) s5) := by
      intro e
      unfold fX11_aVow_J95
      rw [e, w85 h5 hw, bw_id (z := w 85 - 1) (by omega) (by omega), bw_id (z := 4 * (n : Int) + 2) (by omega) (by omega), bw_id (z := 4 * (n : Int) + 3) (by omega) (by omega)]
      refine MR_bd (MR_c (numN_m hO hk H h5 (by omega)) (p1_nu hW j5)) (fun s => rfl) (fun j7 m7 s7 e7 h7 => ?_)
      show MR t z 1 N σ0 _ (if (1 : Int) = 0 then _ else (fX11_aField (4 * (n : Int) + 3) 8 s7).bind fun q9 => if q9.1 = 0 then some (0, q9.2) else some (1, q9.2))
      rw [if_neg n10]
      exact MR_tail (fieldN_m hO hk H hW hw h7 (by omega) (mk_1 (kT_r j7)).2.2 (by decide))
    rw [if_neg n10, tk, e91]
    by_cases c1 : kT t z j5 = 1
    · have hv : rd s5 84 20 = vT t z j5 := h5.2.2.1.2.2.2 c1
      rw [if_pos (m2.mpr c1), hv, isPerson_m hW (w85 h5 hw)]
      by_cases c2 : isP w (vT t z j5)
      · rw [if_pos c2, if_neg n10, grd_pos (by omega), areUnlike_m hW (w85 h5 hw), Option.bind_some]
        by_cases c3 : w (91 + m5 (4 * (n : Int) + 1)) = w (91 + vT t z j5)
        · rw [if_neg (show ¬ (isP w (m5 (4 * (n : Int) + 1)) ∧ isP w (vT t z j5) ∧ w (91 + m5 (4 * (n : Int) + 1)) ≠ w (91 + vT t z j5)) from fun q => q.2.2 c3), if_pos p00]
          have ef : p2F (kT t z) (vT t z) w (m5 (4 * (n : Int) + 1)) j5 = 2 := by unfold p2F; rw [if_pos c1, if_neg (fun q => q.2 c3)]
          rw [ef]
          exact badN_m (by decide) h5
        · rw [if_pos (show isP w (m5 (4 * (n : Int) + 1)) ∧ isP w (vT t z j5) ∧ w (91 + m5 (4 * (n : Int) + 1)) ≠ w (91 + vT t z j5) from ⟨pa, c2, c3⟩), if_neg n10]
          refine rest ?_
          unfold p2F p1F
          rw [if_pos c1, if_pos c1, if_pos ⟨c2, c3⟩, if_pos c2]
      · rw [if_neg c2, if_pos p00]
        refine rest ?_
        unfold p2F p1F
        rw [if_pos c1, if_pos c1, if_neg (fun q => c2 q.1), if_neg c2]
    · rw [if_neg (fun q => c1 (m2.mp q))]
      refine rest ?_
      unfold p2F p1F
      rw [if_neg c1, if_neg c1]
  · show MR t z 1 N σ0 _ (if (1 : Int) = 0 then _ else fX11_aRow_J43 s9)
    rw [if_neg n10]
    unfold fX11_aRow_J43
    exact MR_tail (needN_m hO hk H h9 (mk_num hk (kT_r j9)).2.2 (by decide))
theorem we_m (hO : TO t z) (H : HK (kT t z) (vT t z) N) {n j : Nat} {m : Int → Int} {τ : Sg} (h : AtN t z 2 N σ0 j m τ) (h15 : rd σ0 84 15 = n) (hb : beF (kT t z) 22 12 n j = 0) : MR t z 2 N σ0 (mapR (weA (kT t z) (vT t z) n j) (rowM 2 n m)) ((fX11_aWeather τ).bind fun q4 => if q4.1 = 0 then some (0, q4.2) else fX11_aRow_J43 q4.2) := by
  have hn := (beF_0 hb).2
  have kb := (beF_0 hb).1
  have f15 : ∀ {j : Nat} {m : Int → Int} {τ : Sg}, AtN t z 2 N σ0 j m τ → rd τ 84 15 = n := fun h => (h.1 84 15 (by decide) (by omega)).trans h15
  have hk : (0 : Int) ≤ 2 ∧ (2 : Int) ≤ 3 := by decide
  have key : mapR (weA (kT t z) (vT t z) n j) (rowM 2 n m) = bdm (bdm (bdm (stM (woF (kT t z) 22 j) j (j + 1) m) (fun j m => stM (nuF (kT t z) (vT t z) 1 60 j) j (j + 1) (upz m (2 * (n : Int)) (vT t z j)))) (fun j m => bdm (stM (woF (kT t z) 17 j) j (j + 1) m) (fun j m => stM (nuF (kT t z) (vT t z) 0 30 j) j (j + 1) (upz m (2 * (n : Int) + 1) (vT t z j))))) (fun j m => stM (woF (kT t z) 59 j) j (j + 1) m) := by
    have w0 : woF (kT t z) 22 j = 0 := by unfold woF; rw [if_pos kb]
    rw [bdm_assoc, bdm_assoc, weA, hb]
    have s0 : ∀ f : Nat → (Int → Int) → Rm, bdm (stM (woF (kT t z) 22 j) j (j + 1) m) f = f (j + 1) m := fun f => by
      unfold stM; rw [if_pos w0]; rfl
    rw [s0, ck, if_pos rfl]
    refine mck (fun e1 => ?_)
    rw [bdm_assoc]
    refine mck (fun e2 => ?_)
    refine mck (fun e3 => ?_)
    unfold ck stM
    by_cases e7 : woF (kT t z) 59 (j + 4) = 0
    · rw [if_pos e7]
      show _ = if woF (kT t z) 59 (j + 4) = 0 then _ else _
      rw [if_pos e7]
      rfl
    · rw [if_neg e7]
      show _ = if woF (kT t z) 59 (j + 4) = 0 then _ else _
      rw [if_neg e7]
      rfl
  rw [key]
  refine MR_bd ?_ (fun s => rfl) (fun j9 m9 s9 e9 h9 => ?_)
  · unfold fX11_aWeather
    rw [f15 h, bw_id (z := 2 * (n : Int)) (by omega) (by omega)]
    refine MR_bd (toldN_m hO hk H h (by omega) (mk_2 (kT_r j)).1 (by decide)) (fun s => rfl) (fun j1 m1 s1 e1 h1 => ?_)
    show MR t z 2 N σ0 _ (if (1 : Int) = 0 then _ else (fX11_told (bw ((bw (2 * (rd s1 84 15))) + 1)) 10 0 30 s1).bind fun q3 => if q3.1 = 0 then some (0, q3.2) else some (1, q3.2))
    rw [if_neg n10, f15 h1, bw_id (z := 2 * (n : Int)) (by omega) (by omega), bw_id (z := 2 * (n : Int) + 1) (by omega) (by omega)]
    exact MR_tail (toldN_m hO hk H h1 (by omega) (mk_2 (kT_r j1)).2 (by decide))
  · show MR t z 2 N σ0 _ (if (1 : Int) = 0 then _ else fX11_aRow_J43 s9)
    rw [if_neg n10]
    unfold fX11_aRow_J43
    exact MR_tail (needN_m hO hk H h9 (mk_num hk (kT_r j9)).2.2 (by decide))
theorem wa_m (hO : TO t z) (H : HK (kT t z) (vT t z) N) (hW : Wf w) (hw : rd σ0 85 = w) {n j : Nat} {m : Int → Int} {τ : Sg} (h : AtN t z 3 N σ0 j m τ) (h15 : rd σ0 84 15 = n) (hb : beF (kT t z) 23 12 n j = 0) : MR t z 3 N σ0 (mapR (waA (kT t z) (vT t z) w n j) (rowM 3 n m)) ((fX11_aWant τ).bind fun q4 => if q4.1 = 0 then some (0, q4.2) else fX11_aRow_J43 q4.2) := by
  have hn := (beF_0 hb).2
  have kb := (beF_0 hb).1
  have f15 : ∀ {j : Nat} {m : Int → Int} {τ : Sg}, AtN t z 3 N σ0 j m τ → rd τ 84 15 = n := fun h => (h.1 84 15 (by decide) (by omega)).trans h15
  have hk : (0 : Int) ≤ 3 ∧ (3 : Int) ≤ 3 := by decide
  have key : mapR (waA (kT t z) (vT t z) w n j) (rowM 3 n m) = bdm (bdm (bdm (stM (woF (kT t z) 23 j) j (j + 1) m) (fun j m => stM (fiF (kT t z) (vT t z) w j) j (j + 1) (upz m (3 * (n : Int)) (vT t z j)))) (fun j m => bdm (bdm (stM (woF (kT t z) 20 j) j (j + 1) m) (fun j m => stM (nuF (kT t z) (vT t z) 0 999 j) j (j + 1) (upz m (3 * (n : Int) + 1) (vT t z j)))) (fun j m => bdm (stM (woF (kT t z) 24 j) j (j + 1) m) (fun j m => stM (nuF (kT t z) (vT t z) 1 99 j) j (j + 1) (upz m (3 * (n : Int) + 2) (vT t z j)))))) (fun j m => stM (woF (kT t z) 59 j) j (j + 1) m) := by
    have w0 : woF (kT t z) 23 j = 0 := by unfold woF; rw [if_pos kb]
    rw [bdm_assoc, bdm_assoc, waA, hb]
    have s0 : ∀ f : Nat → (Int → Int) → Rm, bdm (stM (woF (kT t z) 23 j) j (j + 1) m) f = f (j + 1) m := fun f => by
      unfold stM; rw [if_pos w0]; rfl
    rw [s0, ck, if_pos rfl]
    refine mck (fun e1 => ?_)
    rw [bdm_assoc, bdm_assoc]
    refine mck (fun e2 => ?_)
    refine mck (fun e3 => ?_)
    rw [bdm_assoc]
    refine mck (fun e4 => ?_)
    refine mck (fun e5 => ?_)
    unfold ck stM
    by_cases e7 : woF (kT t z) 59 (j + 6) = 0
    · rw [if_pos e7]
      show _ = if woF (kT t z) 59 (j + 6) = 0 then _ else _
      rw [if_pos e7]
      rfl
    · rw [if_neg e7]
      show _ = if woF (kT t z) 59 (j + 6) = 0 then _ else _
      rw [if_neg e7]
      rfl
  rw [key]
  refine MR_bd ?_ (fun s => rfl) (fun j9 m9 s9 e9 h9 => ?_)
  · unfold fX11_aWant
    rw [f15 h, bw_id (z := 3 * (n : Int)) (by omega) (by omega)]
    refine MR_bd (fieldN_m hO hk H hW hw h (by omega) (mk_3 (kT_r j)).1 (by decide)) (fun s => rfl) (fun j1 m1 s1 e1 h1 => ?_)
    show MR t z 3 N σ0 _ (if (1 : Int) = 0 then _ else (fX11_told (bw ((bw (3 * (rd s1 84 15))) + 1)) 7 0 999 s1).bind fun q3 => if q3.1 = 0 then some (0, q3.2) else (fX11_told (bw ((bw (3 * (rd q3.2 84 15))) + 2)) 12 1 99 q3.2).bind fun q5 => if q5.1 = 0 then some (0, q5.2) else some (1, q5.2))
    rw [if_neg n10, f15 h1, bw_id (z := 3 * (n : Int)) (by omega) (by omega), bw_id (z := 3 * (n : Int) + 1) (by omega) (by omega)]
    refine MR_bd (toldN_m hO hk H h1 (by omega) (mk_3 (kT_r j1)).2.1 (by decide)) (fun s => rfl) (fun j3 m3 s3 e3 h3 => ?_)
    show MR t z 3 N σ0 _ (if (1 : Int) = 0 then _ else (fX11_told (bw ((bw (3 * (rd s3 84 15))) + 2)) 12 1 99 s3).bind fun q5 => if q5.1 = 0 then some (0, q5.2) else some (1, q5.2))
    rw [if_neg n10, f15 h3, bw_id (z := 3 * (n : Int)) (by omega) (by omega), bw_id (z := 3 * (n : Int) + 2) (by omega) (by omega)]
    exact MR_tail (toldN_m hO hk H h3 (by omega) (mk_3 (kT_r j3)).2.2 (by decide))
  · show MR t z 3 N σ0 _ (if (1 : Int) = 0 then _ else fX11_aRow_J43 s9)
    rw [if_neg n10]
    unfold fX11_aRow_J43
    exact MR_tail (needN_m hO hk H h9 (mk_num hk (kT_r j9)).2.2 (by decide))
end
