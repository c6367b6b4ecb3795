/-! who is free, by side -/
def frL (w : Int → Int) (s : Int) : Nat → List Int
  | 0 => []
  | n + 1 => frL w s n ++ (if w (68 + (n : Int)) = -1 ∧ w (91 + (n : Int)) = s then [(n : Int)] else [])
theorem frL_len {w : Int → Int} {s : Int} : ∀ n : Nat, (frL w s n).length ≤ n
  | 0 => Nat.le_refl _
  | n + 1 => by
    have := frL_len (w := w) (s := s) n
    rw [frL, List.length_append]
    split <;> simp <;> omega
theorem getD_app {l : List Int} {a : Int} (k : Nat) : (l ++ [a]).getD k 0 = if k < l.length then l.getD k 0 else if k = l.length then a else 0 := by
  rw [List.getD_eq_getElem?_getD, List.getD_eq_getElem?_getD]
  by_cases h : k < l.length
  · rw [if_pos h, List.getElem?_append_left h]
  · rw [if_neg h, List.getElem?_append_right (by omega)]
    by_cases e : k = l.length
    · rw [if_pos e, e, Nat.sub_self]; rfl
    · rw [if_neg e]
      have : k - l.length = (k - l.length - 1) + 1 := by omega
      rw [this]; rfl
theorem gather_c {w : Int → Int} {σ : Sg} (hC : CW 150 w σ 1) : wp (fX0_gather 4 σ) (fun τ => Fr [65, 66, 67, 69, 70] σ τ ∧ rd τ 65 5 = ((frL w 0 (w 85).toNat).length : Int) ∧ rd τ 65 6 = ((frL w 1 (w 85).toNat).length : Int) ∧ (∀ k : Nat, k < (frL w 0 (w 85).toNat).length → rd τ 69 k = (frL w 0 (w 85).toNat).getD k 0) ∧ (∀ k : Nat, k < (frL w 1 (w 85).toNat).length → rd τ 70 k = (frL w 1 (w 85).toNat).getD k 0) ∧ ∀ j : Int, 0 ≤ j → j < w 85 → rd τ 66 j = -1 ∧ rd τ 67 j = 0) := by
  have h12 := hC.1.1.2.2.2.2.2.1
  have e6 : rd σ 4 6 = w 85 := hC.2.2.2.1.1
  unfold fX0_gather
  refine loopM (F := fun n q => fX0_gather_L12 4 n q.1 q.2) (fun q : Int × Sg => (0 ≤ q.1 ∧ q.1 ≤ w 85) ∧ Fr [65, 66, 67, 69, 70] σ q.2 ∧ rd q.2 65 5 = ((frL w 0 q.1.toNat).length : Int) ∧ rd q.2 65 6 = ((frL w 1 q.1.toNat).length : Int) ∧ (∀ k : Nat, k < (frL w 0 q.1.toNat).length → rd q.2 69 k = (frL w 0 q.1.toNat).getD k 0) ∧ (∀ k : Nat, k < (frL w 1 q.1.toNat).length → rd q.2 70 k = (frL w 1 q.1.toNat).getD k 0) ∧ ∀ j : Int, 0 ≤ j → j < q.1 → rd q.2 66 j = -1 ∧ rd q.2 67 j = 0) (fun q => (w 85 - q.1).toNat) ?_ FU (0, wr (wr σ 65 5 0) 65 6 0) (by unfold FU; simp only; omega) ⟨by simp only; omega, (Fr.rf.wr (by decide)).wr (by decide), by simp only; rw [rq_i (by decide), rq_s]; rfl, by simp only; rw [rq_s]; rfl, fun k hk => by simp only [frL] at hk; exact absurd hk (Nat.not_lt_zero _), fun k hk => by simp only [frL] at hk; exact absurd hk (Nat.not_lt_zero _), fun j j0 j1 => by simp only at j1; omega⟩
  rintro m ⟨i, ρ⟩ ⟨hi, hG, hl, hr, hL, hR, hz⟩ ih
  show wp (fX0_gather_L12 4 (m + 1) i ρ) _
  simp only at hi hG hl hr hL hR hz
  have hC2 : CW 150 w ρ 1 := hC.fr hG (by decide)
  have f6 : rd ρ 4 6 = w 85 := hC2.2.2.2.1.1
  rw [fX0_gather_L12, f6]
  by_cases c : i < w 85
  · obtain ⟨n, rfl⟩ : ∃ n : Nat, i = (n : Int) := ⟨i.toNat, by omega⟩
    have en : ((n : Int) + 1).toNat = n + 1 := by omega
    have en0 : ((n : Int)).toNat = n := by omega
    rw [en0] at hl hr hL hR
    have l0 := frL_len (w := w) (s := 0) n
    have l1 := frL_len (w := w) (s := 1) n
    have hP : isP w (n : Int) := ⟨hi.1, c⟩
    have hs := (hC.1.2.2.1 (n : Int) hP).1
    rw [if_pos c, grd_pos (by omega), grd_pos (by omega)]
    generalize hα : wr (wr ρ 66 (n : Int) (-1)) 67 (n : Int) 0 = α
    have gα : Fr [66, 67] ρ α := by
      rw [← hα]; exact (Fr.rf.wr (by decide)).wr (by decide)
    have hCa : CW 150 w α 1 := hC2.fr gα (by decide)
    have z66 : ∀ j : Int, 0 ≤ j → j < (n : Int) + 1 → rd α 66 j = -1 ∧ rd α 67 j = 0 := by
      intro j j0 j1
      rw [← hα, rq_c (by decide), wr_row, wr_row]
      by_cases e : j = (n : Int)
      · rw [e, upz_s, upz_s]; exact ⟨rfl, rfl⟩
      · rw [upz_n e, upz_n e, wr_off _ _ (by decide)]
        exact hz j j0 (by omega)
    have s5 : rd α 5 (n : Int) = w (91 + n) := (hCa.2.2.2.1.2 _ hP).1
    have a5 : rd α 65 5 = ((frL w 0 n).length : Int) := (gα 65 5 (by decide)).trans hl
    have a6 : rd α 65 6 = ((frL w 1 n).length : Int) := (gα 65 6 (by decide)).trans hr
    have a69 : ∀ j : Int, rd α 69 j = rd ρ 69 j := fun j => gα 69 j (by decide)
    have a70 : ∀ j : Int, rd α 70 j = rd ρ 70 j := fun j => gα 70 j (by decide)
    have gα2 : Fr [65, 66, 67, 69, 70] σ α := hG.tr (gα.mo (by decide))
    rw [show fX1_isFree 4 (n : Int) α = some (if isP w (n : Int) ∧ w (68 + (n : Int)) = -1 then 1 else 0) from isFree_c hCa (n : Int), Option.bind_some, bw_id (z := (n : Int) + 1) (by omega) (by omega)]
    by_cases d : w (68 + (n : Int)) = -1
    · rw [if_pos (show isP w (n : Int) ∧ w (68 + (n : Int)) = -1 from ⟨hP, d⟩), if_neg n10, grd_pos (by omega)]
      show wp (if rd α 5 (n : Int) = 0 then _ else _) _
      rw [s5, a5, a6]
      by_cases e : w (91 + (n : Int)) = 0
      · have q0 : frL w 0 (n + 1) = frL w 0 n ++ [(n : Int)] := by rw [frL, if_pos ⟨d, e⟩]
        have q1 : frL w 1 (n + 1) = frL w 1 n := by rw [frL, if_neg (by omega), List.append_nil]
        rw [if_pos e, grd_pos (by omega), rq_c (by decide), a5, bw_id (z := ((frL w 0 n).length : Int) + 1) (by omega) (by omega)]
        refine ih ((n : Int) + 1, wr (wr α 69 ((frL w 0 n).length : Int) (n : Int)) 65 5 (((frL w 0 n).length : Int) + 1)) ⟨by simp only; omega, (gα2.wr (by decide)).wr (by decide), ?_, ?_, fun k hk => ?_, fun k hk => ?_, fun j j0 j1 => ?_⟩ (by simp only; omega)
        · show rd (wr _ 65 5 _) 65 5 = ((frL w 0 ((n : Int) + 1).toNat).length : Int)
          rw [en, q0, rq_s, bw_id (by omega) (by omega), List.length_append]; rfl
        · show rd (wr _ 65 5 _) 65 6 = ((frL w 1 ((n : Int) + 1).toNat).length : Int)
          rw [en, q1, rq_i (by decide), rq_c (by decide)]; exact a6
        · simp only at hk ⊢
          rw [en, q0] at hk ⊢
          rw [List.length_append] at hk
          rw [rq_c (by decide), wr_row, getD_app, bw_id (z := (n : Int)) (by omega) (by omega)]
          by_cases z : k = (frL w 0 n).length
          · rw [z, upz_s, if_neg (by omega), if_pos rfl]
          · have hk2 : k < (frL w 0 n).length := by simp at hk; omega
            rw [upz_n (by omega), if_pos hk2, a69]; exact hL k hk2
        · simp only at hk ⊢
          rw [en, q1] at hk ⊢
          rw [rq_c (by decide), rq_c (by decide), a70]; exact hR k hk
        · show rd (wr (wr α 69 _ _) 65 5 _) 66 j = -1 ∧ rd (wr (wr α 69 _ _) 65 5 _) 67 j = 0
          rw [rq_c (by decide), rq_c (by decide), rq_c (by decide), rq_c (by decide)]
          exact z66 j j0 (by simp only at j1; exact j1)
      · have e1 : w (91 + (n : Int)) = 1 := hs.resolve_left e
        have q1 : frL w 1 (n + 1) = frL w 1 n ++ [(n : Int)] := by rw [frL, if_pos ⟨d, e1⟩]
        have q0 : frL w 0 (n + 1) = frL w 0 n := by rw [frL, if_neg (by omega), List.append_nil]
        rw [if_neg e, grd_pos (by omega), rq_c (by decide), a6, bw_id (z := ((frL w 1 n).length : Int) + 1) (by omega) (by omega)]
        refine ih ((n : Int) + 1, wr (wr α 70 ((frL w 1 n).length : Int) (n : Int)) 65 6 (((frL w 1 n).length : Int) + 1)) ⟨by simp only; omega, (gα2.wr (by decide)).wr (by decide), ?_, ?_, fun k hk => ?_, fun k hk => ?_, fun j j0 j1 => ?_⟩ (by simp only; omega)
        · show rd (wr _ 65 6 _) 65 5 = ((frL w 0 ((n : Int) + 1).toNat).length : Int)
          rw [en, q0, rq_i (by decide), rq_c (by decide)]; exact a5
        · show rd (wr _ 65 6 _) 65 6 = ((frL w 1 ((n : Int) + 1).toNat).length : Int)
          rw [en, q1, rq_s, bw_id (by omega) (by omega), List.length_append]; rfl
        · simp only at hk ⊢
          rw [en, q0] at hk ⊢
          rw [rq_c (by decide), rq_c (by decide), a69]; exact hL k hk
        · simp only at hk ⊢
          rw [en, q1] at hk ⊢
          rw [List.length_append] at hk
          rw [rq_c (by decide), wr_row, getD_app, bw_id (z := (n : Int)) (by omega) (by omega)]
          by_cases z : k = (frL w 1 n).length
          · rw [z, upz_s, if_neg (by omega), if_pos rfl]
          · have hk2 : k < (frL w 1 n).length := by simp at hk; omega
            rw [upz_n (by omega), if_pos hk2, a70]; exact hR k hk2
        · show rd (wr (wr α 70 _ _) 65 6 _) 66 j = -1 ∧ rd (wr (wr α 70 _ _) 65 6 _) 67 j = 0
          rw [rq_c (by decide), rq_c (by decide), rq_c (by decide), rq_c (by decide)]
          exact z66 j j0 (by simp only at j1; exact j1)
    · have q0 : frL w 0 (n + 1) = frL w 0 n := by rw [frL, if_neg (fun z => d z.1), List.append_nil]
      have q1 : frL w 1 (n + 1) = frL w 1 n := by rw [frL, if_neg (fun z => d z.1), List.append_nil]
      rw [if_neg (show ¬ (isP w (n : Int) ∧ w (68 + (n : Int)) = -1) from fun z => d z.2), if_pos p00]
      refine ih ((n : Int) + 1, α) ⟨by simp only; omega, gα2, ?_, ?_, fun k hk => ?_, fun k hk => ?_, fun j j0 j1 => z66 j j0 (by simp only at j1; exact j1)⟩ (by simp only; omega)
      · simp only; rw [en, q0]; exact a5
      · simp only; rw [en, q1]; exact a6
      · simp only at hk ⊢
        rw [en, q0] at hk ⊢
        rw [a69]; exact hL k hk
      · simp only at hk ⊢
        rw [en, q1] at hk ⊢
        rw [a70]; exact hR k hk
  · rw [if_neg c, wp_some]
    have e85 : i = w 85 := by omega
    rw [e85] at hl hr hL hR hz
    exact ⟨hG, hl, hr, hL, hR, hz⟩
