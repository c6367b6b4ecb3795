/-! a world copied -/
theorem rows_cp {c0 N0 c1 N1 : Nat} {σ : Sg} (n1 : c1 ≠ c0) (n2 : c1 + 1 ≠ c0) (h1 : 0 ≤ rd σ c1 2) (hm : 0 ≤ rd σ c0 1 ∧ rd σ c0 1 ≤ 150) (hN : 4 * min (rd σ c1 2) (rd σ c0 1) ≤ N0 ∧ 4 * min (rd σ c1 2) (rd σ c0 1) ≤ N1) : wp (fX6_copy c0 N0 c1 N1 σ) (fun τ => Fr [c0, c0 + 1] σ τ ∧ rd τ c0 2 = min (rd σ c1 2) (rd σ c0 1) ∧ rd τ c0 1 = rd σ c0 1 ∧ ∀ j : Int, 0 ≤ j → j < 4 * min (rd σ c1 2) (rd σ c0 1) → rd τ (c0 + 1) j = rd σ (c1 + 1) j) := by
  unfold fX6_copy
  rw [min_eq, rq_s, bw_id (z := min (rd σ c1 2) (rd σ c0 1)) (by omega) (by omega), bw_id (z := min (rd σ c1 2) (rd σ c0 1) * 4) (by omega) (by omega), grd_pos (by omega), wp_some]
  refine ⟨(Fr.rf.wr (by simp)).cp (by simp), ?_, ?_, fun j j0 j1 => ?_⟩
  · rw [rc_o (by omega), rq_s, bw_id (by omega) (by omega)]
  · rw [rc_o (by omega), rq_i (by decide)]
  · rw [rd_cpy, if_pos ⟨rfl, j0, by omega⟩, rq_c (by omega)]
    congr 1
    omega
theorem folk_cp {c0 c1 : Nat} {σ : Sg} (h : c0 + 20 ≤ c1 ∨ c1 + 20 ≤ c0) : wp (fX1_copy c0 c1 σ) (fun τ => Fr [c0, c0 + 1, c0 + 2, c0 + 3, c0 + 4, c0 + 5, c0 + 6] σ τ ∧ rd τ c0 6 = rd σ c1 6 ∧ ∀ k : Nat, 1 ≤ k → k ≤ 6 → ∀ p : Int, 0 ≤ p → p < 12 → rd τ (c0 + k) p = rd σ (c1 + k) p) := by
  unfold fX1_copy
  rw [grd_pos (by omega), grd_pos (by omega), grd_pos (by omega), grd_pos (by omega), grd_pos (by omega), grd_pos (by omega), wp_some]
  refine ⟨((((((Fr.rf.wr (by simp)).cp (by simp)).cp (by simp)).cp (by simp)).cp (by simp)).cp (by simp)).cp (by simp), ?_, fun k k1 k6 p p0 p1 => ?_⟩
  · rw [rc_o (by omega), rc_o (by omega), rc_o (by omega), rc_o (by omega), rc_o (by omega), rc_o (by omega), rq_s, rd_bw]
  · have q : ∀ x : Int, 0 + (x - 0) = x := fun x => by omega
    have : k = 1 ∨ k = 2 ∨ k = 3 ∨ k = 4 ∨ k = 5 ∨ k = 6 := by omega
    rcases this with rfl | rfl | rfl | rfl | rfl | rfl
    · rw [rc_o (by omega), rc_o (by omega), rc_o (by omega), rc_o (by omega), rc_o (by omega), rd_cpy, if_pos ⟨rfl, p0, by omega⟩, q, rq_c (by omega)]
    · rw [rc_o (by omega), rc_o (by omega), rc_o (by omega), rc_o (by omega), rd_cpy, if_pos ⟨rfl, p0, by omega⟩, q, rc_o (by omega), rq_c (by omega)]
    · rw [rc_o (by omega), rc_o (by omega), rc_o (by omega), rd_cpy, if_pos ⟨rfl, p0, by omega⟩, q, rc_o (by omega), rc_o (by omega), rq_c (by omega)]
    · rw [rc_o (by omega), rc_o (by omega), rd_cpy, if_pos ⟨rfl, p0, by omega⟩, q, rc_o (by omega), rc_o (by omega), rc_o (by omega), rq_c (by omega)]
    · rw [rc_o (by omega), rd_cpy, if_pos ⟨rfl, p0, by omega⟩, q, rc_o (by omega), rc_o (by omega), rc_o (by omega), rc_o (by omega), rq_c (by omega)]
    · rw [rd_cpy, if_pos ⟨rfl, p0, by omega⟩, q, rc_o (by omega), rc_o (by omega), rc_o (by omega), rc_o (by omega), rc_o (by omega), rq_c (by omega)]
theorem law_cp {c0 c1 : Nat} {σ : Sg} (h : c0 + 20 ≤ c1 ∨ c1 + 20 ≤ c0) (hs : 0 ≤ rd σ c1 7 ∧ rd σ c1 7 ≤ 400) : wp (fX2_copy c0 c1 σ) (fun τ => Fr [c0, c0 + 1, c0 + 2, c0 + 3, c0 + 4] σ τ ∧ rd τ c0 6 = rd σ c1 6 ∧ rd τ c0 7 = rd σ c1 7 ∧ (∀ j : Int, 0 ≤ j → j < rd σ c1 7 → rd τ (c0 + 1) j = rd σ (c1 + 1) j) ∧ (∀ j : Int, 0 ≤ j → j < 16 → rd τ (c0 + 2) j = rd σ (c1 + 2) j) ∧ (∀ j : Int, 0 ≤ j → j < 17 → rd τ (c0 + 3) j = rd σ (c1 + 3) j) ∧ ∀ j : Int, 0 ≤ j → j < 16 → rd τ (c0 + 4) j = rd σ (c1 + 4) j) := by
  unfold fX2_copy
  rw [min_eq, rq_s, rq_c (by omega), rd_bw, show min (rd σ c1 7) 400 = rd σ c1 7 by omega, grd_pos (by omega), grd_pos (by omega), grd_pos (by omega), grd_pos (by omega), wp_some]
  have q : ∀ x : Int, 0 + (x - 0) = x := fun x => by omega
  refine ⟨(((((Fr.rf.wr (by simp)).wr (by simp)).cp (by simp)).cp (by simp)).cp (by simp)).cp (by simp), ?_, ?_, fun j j0 j1 => ?_, fun j j0 j1 => ?_, fun j j0 j1 => ?_, fun j j0 j1 => ?_⟩
  · rw [rc_o (by omega), rc_o (by omega), rc_o (by omega), rc_o (by omega), rq_i (by decide), rq_s, rd_bw]
  · rw [rc_o (by omega), rc_o (by omega), rc_o (by omega), rc_o (by omega), rq_s, rd_bw]
  · rw [rc_o (by omega), rc_o (by omega), rc_o (by omega), rd_cpy, if_pos ⟨rfl, j0, by omega⟩, q, rq_c (by omega), rq_c (by omega)]
  · rw [rc_o (by omega), rc_o (by omega), rd_cpy, if_pos ⟨rfl, j0, by omega⟩, q, rc_o (by omega), rq_c (by omega), rq_c (by omega)]
  · rw [rc_o (by omega), rd_cpy, if_pos ⟨rfl, j0, by omega⟩, q, rc_o (by omega), rc_o (by omega), rq_c (by omega), rq_c (by omega)]
  · rw [rd_cpy, if_pos ⟨rfl, j0, by omega⟩, q, rc_o (by omega), rc_o (by omega), rc_o (by omega), rq_c (by omega), rq_c (by omega)]
