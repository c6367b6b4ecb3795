/-! THE LAW's text: the model's row -/
def FrT (σ τ : Sg) : Prop := ∀ (c : Nat) (i : Int), c ≠ 89 → c ≠ 90 → c ≠ 91 → ¬ (c = 84 ∧ 12 ≤ i ∧ i ≤ 25) → rd τ c i = rd σ c i
theorem FrT.rf {σ : Sg} : FrT σ σ := fun _ _ _ _ _ _ => rfl
theorem FrT.tr {σ τ ρ : Sg} (h : FrT σ τ) (k : FrT τ ρ) : FrT σ ρ := fun c i a b d e => (k c i a b d e).trans (h c i a b d e)
theorem FrT.wr {σ τ : Sg} (h : FrT σ τ) {i v : Int} (hi : 12 ≤ i ∧ i ≤ 25) : FrT σ (wr τ 84 i v) := fun c j a b d e => by
  rw [rd_wr, if_neg (fun q => e ⟨q.1, by rw [q.2]; exact hi⟩)]
  exact h c j a b d e
theorem FrT.fl {σ τ ρ : Sg} (h : FrT σ τ) (k : FrL τ ρ) : FrT σ ρ := fun c i a b d e => (k c i b a (fun q => e ⟨q.1, by omega⟩)).trans (h c i a b d e)
theorem FrT.fx {σ τ ρ : Sg} (h : FrT σ τ) (k : Fx τ ρ) : FrT σ ρ := fun c i a b d e => (k c i (fun q => e ⟨q.1, by omega⟩)).trans (h c i a b d e)
def LRow (ls : Ls) (lns : List Ln) (w w' : Int → Int) : Prop := (∀ j : Int, j < 911 → j ≠ 86 → w' j = w j) ∧ w' 86 = lns.length ∧ (∀ i : Nat, i < lns.length → w' (911 + i) = (gL lns i).2.1.length ∧ w' (927 + i) = (gL lns i).2.2.1.length ∧ w' (943 + i) = (gL lns i).2.2.2.length ∧ w' (959 + i) = (gL lns i).1) ∧ ∀ k : Nat, k < ls.length → w' (976 + 2 * (k : Int)) = (gS ls k).1 ∧ ((gS ls k).1 = 0 ∨ (gS ls k).1 = 26 → w' (977 + 2 * (k : Int)) = (gS ls k).2)
theorem putsA_m {n : Nat} {k : Sg → Option (Int × Sg)} {Q : Int × Sg → Prop} {σ : Sg} (hn : n ≤ 16) (h13 : rd σ 84 13 = n) (hQ : ∀ ρ, Fr [85] σ ρ → (∀ j : Int, j < 911 → rd ρ 85 j = rd σ 85 j) → (∀ q : Int, 0 ≤ q → q < n → rd ρ 85 (911 + q) = rd σ 89 (4 * q) ∧ rd ρ 85 (927 + q) = rd σ 89 (4 * q + 1) ∧ rd ρ 85 (943 + q) = rd σ 89 (4 * q + 2) ∧ rd ρ 85 (959 + q) = rd σ 89 (4 * q + 3)) → wp (k ρ) Q) : wp (fX11_putsLaw_L13 k FU 0 σ) Q := by
  refine loopM (F := fun m q => fX11_putsLaw_L13 k m q.1 q.2) (fun q : Int × Sg => (0 ≤ q.1 ∧ q.1 ≤ n) ∧ Fr [85] σ q.2 ∧ (∀ j : Int, j < 911 → rd q.2 85 j = rd σ 85 j) ∧ ∀ p : Int, 0 ≤ p → p < q.1 → rd q.2 85 (911 + p) = rd σ 89 (4 * p) ∧ rd q.2 85 (927 + p) = rd σ 89 (4 * p + 1) ∧ rd q.2 85 (943 + p) = rd σ 89 (4 * p + 2) ∧ rd q.2 85 (959 + p) = rd σ 89 (4 * p + 3)) (fun q => ((n : Int) - q.1).toNat) ?_ FU (0, σ) (by unfold FU; simp only; omega) ⟨by simp only; omega, Fr.rf, fun j _ => rfl, fun p a b => by simp only at b; omega⟩
  rintro m ⟨i, ρ⟩ ⟨hi, hG, hA, hB⟩ ih
  show wp (fX11_putsLaw_L13 k (m + 1) i ρ) _
  simp only at hi hG hA hB
  have e13 : rd ρ 84 13 = n := (hG 84 13 (by decide)).trans h13
  rw [fX11_putsLaw_L13, e13]
  by_cases hl : i < n
  · rw [if_pos hl]
    simp only [rq_c (show (89 : Nat) ≠ 85 by decide)]
    rw [bw_id (z := 4 * i) (by omega) (by omega), bw_id (z := 911 + i) (by omega) (by omega), bw_id (z := 4 * i + 1) (by omega) (by omega), bw_id (z := 927 + i) (by omega) (by omega), bw_id (z := 4 * i + 2) (by omega) (by omega), bw_id (z := 943 + i) (by omega) (by omega), bw_id (z := 4 * i + 3) (by omega) (by omega), bw_id (z := 959 + i) (by omega) (by omega), bw_id (z := i + 1) (by omega) (by omega), grd_pos (by omega), grd_pos (by omega), grd_pos (by omega), grd_pos (by omega), grd_pos (by omega), grd_pos (by omega), grd_pos (by omega), grd_pos (by omega)]
    have g85 : ∀ j : Int, rd (wr (wr (wr (wr ρ 85 (911 + i) (rd ρ 89 (4 * i))) 85 (927 + i) (rd ρ 89 (4 * i + 1))) 85 (943 + i) (rd ρ 89 (4 * i + 2))) 85 (959 + i) (rd ρ 89 (4 * i + 3))) 85 j = if j = 959 + i then rd σ 89 (4 * i + 3) else if j = 943 + i then rd σ 89 (4 * i + 2) else if j = 927 + i then rd σ 89 (4 * i + 1) else if j = 911 + i then rd σ 89 (4 * i) else rd ρ 85 j := fun j => by
      have e89 : ∀ q : Int, rd ρ 89 q = rd σ 89 q := fun q => hG 89 q (by decide)
      rw [e89, e89, e89, e89, wr_row, wr_row, wr_row, wr_row, rd_bw, rd_bw, rd_bw, rd_bw]
      rfl
    refine ih (i + 1, wr (wr (wr (wr ρ 85 (911 + i) (rd ρ 89 (4 * i))) 85 (927 + i) (rd ρ 89 (4 * i + 1))) 85 (943 + i) (rd ρ 89 (4 * i + 2))) 85 (959 + i) (rd ρ 89 (4 * i + 3))) ⟨by simp only; omega, (((hG.wr (by decide)).wr (by decide)).wr (by decide)).wr (by decide), fun j hj => ?_, fun p p0 p1 => ?_⟩ (by simp only; omega)
    · simp only
      rw [g85, if_neg (by omega), if_neg (by omega), if_neg (by omega), if_neg (by omega)]
      exact hA j hj
    · simp only at p1 ⊢
      rw [g85, g85, g85, g85]
      by_cases e : p = i
      · rw [e, if_neg (show ¬ 911 + i = 959 + i by omega), if_neg (show ¬ 911 + i = 943 + i by omega), if_neg (show ¬ 911 + i = 927 + i by omega), if_pos rfl, if_neg (show ¬ 927 + i = 959 + i by omega), if_neg (show ¬ 927 + i = 943 + i by omega), if_pos rfl, if_neg (show ¬ 943 + i = 959 + i by omega), if_pos rfl, if_pos rfl]
        exact ⟨rfl, rfl, rfl, rfl⟩
      · have hp := hB p p0 (by omega)
        have o : ∀ b : Int, (b = 911 ∨ b = 927 ∨ b = 943 ∨ b = 959) → (if b + p = 959 + i then rd σ 89 (4 * i + 3) else if b + p = 943 + i then rd σ 89 (4 * i + 2) else if b + p = 927 + i then rd σ 89 (4 * i + 1) else if b + p = 911 + i then rd σ 89 (4 * i) else rd ρ 85 (b + p)) = rd ρ 85 (b + p) := fun b hb => by
          rw [if_neg (by omega), if_neg (by omega), if_neg (by omega), if_neg (by omega)]
        rw [o 911 (by decide), o 927 (by decide), o 943 (by decide), o 959 (by decide)]
        exact hp
  · rw [if_neg hl]
    have e : i = n := by omega
    rw [e] at hB
    exact hQ ρ hG hA hB
theorem putsB_m {n : Nat} {σ : Sg} (hn : n ≤ 400) (h14 : rd σ 84 14 = n) : wp (fX11_putsLaw_L107 FU 0 σ) (fun r => r.1 = rd σ 84 13 ∧ Fr [85] σ r.2 ∧ (∀ j : Int, j < 976 → rd r.2 85 j = rd σ 85 j) ∧ ∀ q : Int, 0 ≤ q → q < 2 * n → rd r.2 85 (976 + q) = rd σ 90 q) := by
  refine loopM (F := fun m q => fX11_putsLaw_L107 m q.1 q.2) (fun q : Int × Sg => (0 ≤ q.1 ∧ q.1 ≤ 2 * n) ∧ Fr [85] σ q.2 ∧ (∀ j : Int, j < 976 → rd q.2 85 j = rd σ 85 j) ∧ ∀ p : Int, 0 ≤ p → p < q.1 → rd q.2 85 (976 + p) = rd σ 90 p) (fun q => (2 * (n : Int) - q.1).toNat) ?_ FU (0, σ) (by unfold FU; simp only; omega) ⟨by simp only; omega, Fr.rf, fun j _ => rfl, fun p a b => by simp only at b; omega⟩
  rintro m ⟨i, ρ⟩ ⟨hi, hG, hA, hB⟩ ih
  show wp (fX11_putsLaw_L107 (m + 1) i ρ) _
  simp only at hi hG hA hB
  have e14 : rd ρ 84 14 = n := (hG 84 14 (by decide)).trans h14
  rw [fX11_putsLaw_L107, e14, bw_id (z := 2 * (n : Int)) (by omega) (by omega)]
  by_cases hl : i < 2 * n
  · rw [if_pos hl, bw_id (z := 976 + i) (by omega) (by omega), bw_id (z := i + 1) (by omega) (by omega), grd_pos (by omega), grd_pos (by omega)]
    refine ih (i + 1, wr ρ 85 (976 + i) (rd ρ 90 i)) ⟨by simp only; omega, hG.wr (by decide), fun j hj => ?_, fun p p0 p1 => ?_⟩ (by simp only; omega)
    · simp only
      rw [rq_i (by omega)]; exact hA j hj
    · simp only at p1 ⊢
      by_cases e : p = i
      · rw [e, rq_s, rd_bw]; exact hG 90 i (by decide)
      · rw [rq_i (by omega)]; exact hB p p0 (by omega)
  · rw [if_neg hl, wp_some]
    have e : i = 2 * n := by omega
    rw [e] at hB
    exact ⟨hG 84 13 (by decide), hG, hA, hB⟩
theorem putsLaw_m {ls : Ls} {lns : List Ln} {σ : Sg} (hn : lns.length ≤ 16) (hs : ls.length ≤ 400) (h13 : rd σ 84 13 = lns.length) (hL : LM ls σ) (hM : LnM lns σ) : wp (fX11_putsLaw σ) (fun r => r.1 = lns.length ∧ Fr [85] σ r.2 ∧ LRow ls lns (rd σ 85) (rd r.2 85)) := by
  unfold fX11_putsLaw
  have f0 : Fr [85] σ (wr σ 85 86 (rd σ 84 13)) := Fr.rf.wr (by decide)
  refine putsA_m (n := lns.length) hn (by rw [rq_c (by decide)]; exact h13) (fun ρ hG hA hB => ?_)
  have e14 : rd ρ 84 14 = ls.length := (hG 84 14 (by decide)).trans ((f0 84 14 (by decide)).trans hL.1)
  refine wp_mono (putsB_m hs e14) (fun r hr => ?_)
  obtain ⟨r1, r2, r3, r4⟩ := hr
  have fr := (f0.tr hG).tr r2
  refine ⟨r1.trans (((f0.tr hG) 84 13 (by decide)).trans h13), fr, fun j j1 j2 => ?_, ?_, fun i hi => ?_, fun q hq => ?_⟩
  · rw [r3 j (by omega), hA j j1, rq_i j2]
  · rw [r3 86 (by decide), hA 86 (by decide), rq_s, h13, bw_id (by omega) (by omega)]
  · obtain ⟨b1, b2, b3, b4⟩ := hB i (by omega) (by omega)
    obtain ⟨m1, m2, m3, m4⟩ := hM i hi
    rw [r3 _ (by omega), r3 _ (by omega), r3 _ (by omega), r3 _ (by omega), b1, b2, b3, b4, rq_c (by decide), rq_c (by decide), rq_c (by decide), rq_c (by decide)]
    exact ⟨m1, m2, m3, m4⟩
  · obtain ⟨l1, l2⟩ := hL.2 q hq
    have e90 : ∀ i : Int, rd ρ 90 i = rd σ 90 i := fun i => (f0.tr hG) 90 i (by decide)
    rw [r4 (2 * (q : Int)) (by omega) (by omega), e90, show (977 : Int) + 2 * (q : Int) = 976 + (2 * (q : Int) + 1) by omega, r4 (2 * (q : Int) + 1) (by omega) (by omega), e90]
    exact ⟨l1, l2⟩
theorem ty1_eq {a b : Int × Int} (h1 : a.1 = b.1) (h2 : b.1 = 0 ∨ b.1 = 26 → a.2 = b.2) (ts : List Bool) : ty1 a ts = ty1 b ts := by
  obtain ⟨a1, a2⟩ := a
  obtain ⟨b1, b2⟩ := b
  have h1 : a1 = b1 := h1
  have h2 : b1 = 0 ∨ b1 = 26 → a2 = b2 := h2
  rw [h1]
  by_cases c : b1 = 0 ∨ b1 = 26
  · rw [h2 c]
  · have c0 : ¬ b1 = 0 := fun q => c (Or.inl q)
    have c1 : ¬ b1 = 26 := fun q => c (Or.inr q)
    unfold ty1
    simp only [if_neg c0, if_neg c1]
theorem gS_0 (s : Int × Int) (t : Ls) : gS (s :: t) 0 = s := rfl
theorem gS_s (s : Int × Int) (t : Ls) (k : Nat) : gS (s :: t) (k + 1) = gS t k := rfl
theorem stN_enc {w g : Int → Int} {to : Int} : ∀ (A : Ls) (a i : Int), (∀ k : Nat, k < A.length → w (976 + 2 * (a + k)) = (gS A k).1 ∧ ((gS A k).1 = 0 ∨ (gS A k).1 = 26 → w (977 + 2 * (a + k)) = (gS A k).2)) → (∀ k : Nat, k < (encL A).length → g (i + k) = (encL A).getD k 0) → to = i + (encL A).length → CS g to (stN w A.length a) i ∧ ∀ ts, tys (stN w A.length a) ts = tys A ts
  | [], a, i, h1, h2, h3 => by
    refine ⟨?_, fun ts => rfl⟩
    show i = to
    rw [h3]
    show i = i + ((0 : Nat) : Int)
    omega
  | s :: t, a, i, h1, h2, h3 => by
    have k0 := h1 0 (Nat.succ_pos _)
    rw [gS_0, show a + ((0 : Nat) : Int) = a by omega] at k0
    have hl : (encL (s :: t)).length = (encS s).length + (encL t).length := List.length_append
    have ih := stN_enc (w := w) (g := g) (to := to) t (a + 1) (i + ((encS s).length : Nat)) (fun k hk => by
      have q := h1 (k + 1) (by rw [List.length_cons]; omega)
      rw [gS_s, show a + ((k + 1 : Nat) : Int) = a + 1 + k by omega] at q
      exact q) (fun k hk => by
      have q := h2 ((encS s).length + k) (by omega)
      have e : (encL (s :: t)).getD ((encS s).length + k) 0 = (encL t).getD k 0 := gD_r (c := encS s) (d := encL t) k
      rw [e, show i + (((encS s).length + k : Nat) : Int) = i + ((encS s).length : Nat) + k by omega] at q
      exact q) (by rw [h3, hl]; omega)
    refine ⟨?_, fun ts => ?_⟩
    · show CS g to ((w (976 + 2 * a), w (977 + 2 * a)) :: stN w t.length (a + 1)) i
      rw [CS, k0.1]
      have g0 := h2 0 (by rw [hl, encS_len]; split <;> omega)
      rw [show i + ((0 : Nat) : Int) = i by omega] at g0
      have hlS := encS_len s
      by_cases c : s.1 = 26
      · rw [if_pos c] at hlS ⊢
        have g1 := h2 1 (by rw [hl]; omega)
        have eS : encS s = [s.2, -58] := by unfold encS; rw [if_pos c]
        have d0 : (encL (s :: t)).getD 0 0 = s.2 := by show (encS s ++ encL t).getD 0 0 = _; rw [eS]; rfl
        have d1 : (encL (s :: t)).getD 1 0 = -58 := by show (encS s ++ encL t).getD 1 0 = _; rw [eS]; rfl
        rw [d0] at g0
        rw [d1] at g1
        refine ⟨?_, g1, ?_⟩
        · rw [g0]; exact (k0.2 (Or.inr c)).symm
        · have q := ih.1
          rw [hlS] at q
          exact q
      · rw [if_neg c] at hlS ⊢
        have eS : encS s = [if s.1 = 0 then s.2 else if s.1 < 23 then -s.1 else if s.1 = 23 then -54 else if s.1 = 24 then -56 else if s.1 = 25 then -53 else if s.1 = 27 then -71 else if s.1 = 28 then -72 else if s.1 = 29 then -73 else if s.1 = 30 then -20 else if s.1 = 31 then -19 else -18] := by unfold encS; rw [if_neg c]
        have d0 : (encL (s :: t)).getD 0 0 = if s.1 = 0 then s.2 else if s.1 < 23 then -s.1 else if s.1 = 23 then -54 else if s.1 = 24 then -56 else if s.1 = 25 then -53 else if s.1 = 27 then -71 else if s.1 = 28 then -72 else if s.1 = 29 then -73 else if s.1 = 30 then -20 else if s.1 = 31 then -19 else -18 := by show (encS s ++ encL t).getD 0 0 = _; rw [eS]; rfl
        rw [d0] at g0
        refine ⟨?_, ?_⟩
        · rw [g0]
          by_cases c0 : s.1 = 0
          · rw [if_pos c0, if_pos c0]; exact (k0.2 (Or.inl c0)).symm
          · rw [if_neg c0, if_neg c0]
        · have q := ih.1
          rw [hlS] at q
          exact q
    · show (ty1 (w (976 + 2 * a), w (977 + 2 * a)) ts).bind (tys (stN w t.length (a + 1))) = (ty1 s ts).bind (tys t)
      rw [ty1_eq (a := (w (976 + 2 * a), w (977 + 2 * a))) (b := s) k0.1 k0.2 ts]
      cases ty1 s ts with
      | none => rfl
      | some x => exact ih.2 x
/-- a stretch of the steps -/
theorem seg_ok {w g : Int → Int} {ls p A r : Ls} (e : ls = p ++ A ++ r) (h1 : ∀ k : Nat, k < ls.length → w (976 + 2 * (k : Int)) = (gS ls k).1 ∧ ((gS ls k).1 = 0 ∨ (gS ls k).1 = 26 → w (977 + 2 * (k : Int)) = (gS ls k).2)) (h2 : ∀ k : Nat, k < (encL ls).length → g k = (encL ls).getD k 0) {x y u v : Int} (hx : x = p.length) (hy : y = (p ++ A).length) (hu : u = (encL p).length) (hv : v = (encL (p ++ A)).length) : CS g v (stW w x y) u ∧ ∀ ts, tys (stW w x y) ts = tys A ts := by
  have hl : ls.length = p.length + A.length + r.length := by rw [e, List.length_append, List.length_append]
  have hc : encL ls = encL p ++ (encL A ++ encL r) := by rw [e, encL_app, encL_app, List.append_assoc]
  have hcl : (encL ls).length = (encL p).length + ((encL A).length + (encL r).length) := by rw [hc, List.length_append, List.length_append]
  have hn : (y - x).toNat = A.length := by rw [hx, hy, List.length_append]; omega
  unfold stW
  rw [hn]
  refine stN_enc A x u (fun k hk => ?_) (fun k hk => ?_) (by rw [hv, hu, encL_app, List.length_append]; omega)
  · have q := h1 (p.length + k) (by omega)
    have eg : gS ls (p.length + k) = gS A k := by
      rw [e, List.append_assoc, gS_r, gS_l hk]
    rw [eg, show ((p.length + k : Nat) : Int) = x + k by omega] at q
    exact q
  · have q := h2 ((encL p).length + k) (by omega)
    have eg : (encL ls).getD ((encL p).length + k) 0 = (encL A).getD k 0 := by
      rw [hc, gD_r, gD_l hk]
    rw [eg, show (((encL p).length + k : Nat) : Int) = u + k by omega] at q
    exact q
theorem LR_text {w w' : Int → Int} {g : Nat → Int → Int} {ls : Ls} {lns : List Ln} (hb : (encL ls).length ≤ 400) (hO : LsOK ls lns) (hR : LRow ls lns w w') (g6 : g 10 6 = lns.length) (g7 : g 10 7 = (encL ls).length) (g11 : ∀ k : Nat, k < (encL ls).length → g 11 k = (encL ls).getD k 0) (gl : ∀ i : Nat, i < lns.length → g 12 i = (gL lns i).1 - 17 ∧ g 13 i = (encL (gL lns i).2.1).length ∧ g 14 i = (encL (gL lns i).2.2.1).length ∧ g 13 ((i : Int) + 1) = (encL (gL lns i).2.2.2).length) : LR w' g := by
  obtain ⟨r1, r2, r3, r4⟩ := hR
  have h16 := hO.1
  refine ⟨by omega, by omega, by omega, fun i i0 i1 => ?_⟩
  have hi : i.toNat < lns.length := by omega
  have ei : ((i.toNat : Nat) : Int) = i := by omega
  obtain ⟨⟨k1, ⟨A, a1, a2⟩, B, b1, b2⟩, rest, c1⟩ := hO.2 i.toNat hi
  obtain ⟨q1, q2, q3, q4⟩ := r3 i.toNat hi
  obtain ⟨p1, p2, p3, p4⟩ := gl i.toNat hi
  rw [ei] at q1 q2 q3 q4 p1 p2 p3 p4
  have e1 : ls = (gL lns i.toNat).2.1 ++ A ++ (B ++ rest) := by rw [c1, b1, a1, List.append_assoc]
  have e2 : ls = (gL lns i.toNat).2.2.1 ++ B ++ rest := by rw [c1, b1]
  have s1 := seg_ok (g := g 11) e1 r4 g11 (x := w' (911 + i)) (y := w' (927 + i)) (u := g 13 i) (v := g 14 i) q1 (by rw [q2, a1]) p2 (by rw [p3, a1])
  have s2 := seg_ok (g := g 11) e2 r4 g11 (x := w' (927 + i)) (y := w' (943 + i)) (u := g 14 i) (v := g 13 (i + 1)) q2 (by rw [q3, b1]) p3 (by rw [p4, b1])
  have n1 : (gL lns i.toNat).2.2.1.length = (gL lns i.toNat).2.1.length + A.length := by rw [a1, List.length_append]
  have n2 : (gL lns i.toNat).2.2.2.length = (gL lns i.toNat).2.2.1.length + B.length := by rw [b1, List.length_append]
  have n3 : ls.length = (gL lns i.toNat).2.2.2.length + rest.length := by
    conv => lhs; rw [c1]
    rw [List.length_append]
  have n4 : (encL ls).length = (encL (gL lns i.toNat).2.2.2).length + (encL rest).length := by
    conv => lhs; rw [c1]
    rw [encL_app, List.length_append]
  have n5 := encL_le ls
  refine ⟨by rw [q4]; exact k1, by rw [p1, q4], by omega, by omega, s1.1, ⟨false, ?_⟩, s2.1, ?_⟩
  · rw [s1.2]; exact a2
  · rcases b2 with b2 | b2
    · left
      rw [b2, List.length_nil] at n2
      omega
    · right
      rw [s2.2]; exact b2
