/-! the beginning of a valley -/
theorem rz (σ : Sg) (c c2 : Nat) (i : Int) : rd (zr σ c) c2 i = if c2 = c then 0 else rd σ c2 i := by
  unfold rd zr
  split <;> rfl
theorem rz_s {σ : Sg} {c : Nat} {i : Int} : rd (zr σ c) c i = 0 := by rw [rz, if_pos rfl]
theorem rz_o {σ : Sg} {c c2 : Nat} {i : Int} (h : c2 ≠ c) : rd (zr σ c) c2 i = rd σ c2 i := by rw [rz, if_neg h]
def begW (x1 x2 y : Int) (w : Int → Int) : Int → Int := fun j => if j < 0 ∨ 1796 ≤ j then w j else if j = 2 then y else if j = 80 then x1 else if j = 81 then x2 else if j = 82 then 1 else if j = 83 then 60 else if 68 ≤ j ∧ j < 80 then -1 else if (4 ≤ j ∧ j < 60) ∧ (j - 4) % 8 < x1 ∧ (j - 4) / 8 < x2 then 10 else 0
theorem begin_c {b : Nat} {x1 x2 : Int} (hx1 : 3 ≤ x1 ∧ x1 ≤ 8) (hx2 : 3 ≤ x2 ∧ x2 ≤ 7) {σ : Sg} : wp (fX9_begin b x1 x2 σ) (fun τ => Fr [b, b + 1, b + 3, b + 10, b + 13, b + 17, b + 19, b + 21, b + 23, b + 25] σ τ ∧ (rd τ b 0 = x1 ∧ rd τ b 1 = x2 ∧ rd τ b 2 = 1 ∧ rd τ b 3 = 60 ∧ rd τ b 4 = 0 ∧ rd τ b 5 = 0 ∧ rd τ b 6 = 0 ∧ rd τ b 7 = rd σ b 7) ∧ (∀ f : Int, 0 ≤ f → f < 56 → rd τ (b + 1) f = 10) ∧ rd τ (b + 3) 6 = 0 ∧ (rd τ (b + 10) 6 = 0 ∧ rd τ (b + 10) 7 = 0) ∧ (rd τ (b + 17) 2 = 0 ∧ rd τ (b + 19) 2 = 0 ∧ rd τ (b + 21) 2 = 0 ∧ rd τ (b + 23) 2 = 0 ∧ rd τ (b + 25) 2 = 0) ∧ rd τ (b + 17) 1 = rd σ (b + 17) 1 ∧ rd τ (b + 19) 1 = rd σ (b + 19) 1 ∧ rd τ (b + 21) 1 = rd σ (b + 21) 1 ∧ rd τ (b + 23) 1 = rd σ (b + 23) 1 ∧ rd τ (b + 25) 1 = rd σ (b + 25) 1) := by
  unfold fX9_begin
  generalize hτ : wr (wr (wr (wr (wr (wr (wr σ b 0 x1) b 1 x2) b 2 1) b 3 60) b 4 0) b 5 0) b 6 0 = τ
  have hb : ∀ i : Int, rd τ b i = if i = 6 then 0 else if i = 5 then 0 else if i = 4 then 0 else if i = 3 then 60 else if i = 2 then 1 else if i = 1 then x2 else if i = 0 then x1 else rd σ b i := by
    intro i
    rw [← hτ, wr_row, wr_row, wr_row, wr_row, wr_row, wr_row, wr_row, bw_id (z := x1) (by omega) (by omega), bw_id (z := x2) (by omega) (by omega)]
    rfl
  have hF : Fr [b] σ τ := by
    rw [← hτ]
    exact ((((((Fr.rf.wr (by simp)).wr (by simp)).wr (by simp)).wr (by simp)).wr (by simp)).wr (by simp)).wr (by simp)
  refine loopM (F := fun n q => fX9_begin_L38 b _ n q.1 q.2) (fun q : Int × Sg => (0 ≤ q.1 ∧ q.1 ≤ 56) ∧ Fr [b + 1] τ q.2 ∧ ∀ i : Int, 0 ≤ i → i < q.1 → rd q.2 (b + 1) i = 10) (fun q => (56 - q.1).toNat) ?_ FU (0, τ) (by unfold FU; simp only; omega) ⟨by simp only; omega, Fr.rf, fun i i0 i1 => by simp only at i1; omega⟩
  rintro m ⟨i, ρ⟩ ⟨hi, hG, hy⟩ ih
  simp only at hi hG hy ⊢
  rw [fX9_begin_L38]
  by_cases hl : i < 56
  · rw [if_pos hl, grd_pos (by omega), bw_id (z := i + 1) (by omega) (by omega)]
    refine ih (i + 1, wr ρ (b + 1) i 10) ⟨by simp only; omega, hG.wr (by simp), fun j j0 j1 => ?_⟩ (by simp only; omega)
    show rd (wr ρ (b + 1) i 10) (b + 1) j = 10
    rw [wr_row]
    by_cases e : j = i
    · rw [e, upz_s]; rfl
    · rw [upz_n e]
      simp only at j1
      exact hy j j0 (by omega)
  · rw [if_neg hl]
    unfold fX2_clear
    rw [wp_bind, wp_some, wp_some]
    have hG2 : ∀ (c : Nat) (j : Int), c ≠ b + 1 → c ≠ b → rd ρ c j = rd σ c j := fun c j h1 h2 => (hG c j (by simp; exact h1)).trans (hF c j (by simp; exact h2))
    have hGb : ∀ j : Int, rd ρ b j = rd τ b j := fun j => hG b j (by simp)
    refine ⟨fun c j hc => ?_, ⟨?_, ?_, ?_, ?_, ?_, ?_, ?_, ?_⟩, fun f f0 f1 => ?_, ?_, ⟨?_, ?_⟩, ⟨?_, ?_, ?_, ?_, ?_⟩, ?_, ?_, ?_, ?_, ?_⟩
    · simp only [List.mem_cons, List.not_mem_nil, or_false, not_or] at hc
      obtain ⟨c1, c2, c3, c4, c5, c6, c7, c8, c9, c10⟩ := hc
      rw [rq_c c10, rq_c c9, rq_c c8, rq_c c7, rq_c c6, rq_c (by omega), rq_c c4, rq_c c4, rq_c c3]
      exact hG2 c j c2 c1
    · try simp (disch := omega) only [rq_c]
      rw [hGb, hb]
      rfl
    · try simp (disch := omega) only [rq_c]
      rw [hGb, hb]
      rfl
    · try simp (disch := omega) only [rq_c]
      rw [hGb, hb]
      rfl
    · try simp (disch := omega) only [rq_c]
      rw [hGb, hb]
      rfl
    · try simp (disch := omega) only [rq_c]
      rw [hGb, hb]
      rfl
    · try simp (disch := omega) only [rq_c]
      rw [hGb, hb]
      rfl
    · try simp (disch := omega) only [rq_c]
      rw [hGb, hb]
      rfl
    · try simp (disch := omega) only [rq_c]
      rw [hGb, hb]
      rfl
    · try simp (disch := omega) only [rq_c]
      exact hy f f0 (by omega)
    · try simp (disch := omega) only [rq_c]
      rw [rq_s]
      rfl
    · try simp (disch := omega) only [rq_c]
      rw [rq_i (by decide), rq_s]
      rfl
    · try simp (disch := omega) only [rq_c]
      rw [rq_s]
      rfl
    · try simp (disch := omega) only [rq_c]
      rw [rq_s]
      rfl
    · try simp (disch := omega) only [rq_c]
      rw [rq_s]
      rfl
    · try simp (disch := omega) only [rq_c]
      rw [rq_s]
      rfl
    · try simp (disch := omega) only [rq_c]
      rw [rq_s]
      rfl
    · try simp (disch := omega) only [rq_c]
      rw [rq_s]
      rfl
    · try simp (disch := omega) only [rq_c]
      rw [rq_i (by decide)]
      simp (disch := omega) only [rq_c]
      exact hG2 _ _ (by omega) (by omega)
    · try simp (disch := omega) only [rq_c]
      rw [rq_i (by decide)]
      simp (disch := omega) only [rq_c]
      exact hG2 _ _ (by omega) (by omega)
    · try simp (disch := omega) only [rq_c]
      rw [rq_i (by decide)]
      simp (disch := omega) only [rq_c]
      exact hG2 _ _ (by omega) (by omega)
    · try simp (disch := omega) only [rq_c]
      rw [rq_i (by decide)]
      simp (disch := omega) only [rq_c]
      exact hG2 _ _ (by omega) (by omega)
    · try simp (disch := omega) only [rq_c]
      rw [rq_i (by decide)]
      simp (disch := omega) only [rq_c]
      exact hG2 _ _ (by omega) (by omega)
theorem CG_beg {m x1 x2 y : Int} {w : Int → Int} {g : Nat → Int → Int} (b1 : 3 ≤ x1 ∧ x1 ≤ 8) (b2 : 3 ≤ x2 ∧ x2 ≤ 7) (s : g 0 0 = x1 ∧ g 0 1 = x2 ∧ g 0 2 = 1 ∧ g 0 3 = 60 ∧ g 0 4 = 0 ∧ g 0 5 = 0 ∧ g 0 6 = 0 ∧ g 0 7 = y) (sn : ∀ f : Int, 0 ≤ f → f < 56 → g 1 f = 10) (p : g 3 6 = 0) (l : g 10 6 = 0 ∧ g 10 7 = 0) (t2 : g 17 2 = 0 ∧ g 19 2 = 0 ∧ g 21 2 = 0 ∧ g 23 2 = 0 ∧ g 25 2 = 0) (t1 : g 17 1 = 16 ∧ g 19 1 = 12 ∧ g 21 1 = 12 ∧ g 23 1 = 12 ∧ g 25 1 = m) (hm : m = 0 ∨ m = 150) : CG m (begW x1 x2 y w) g := by
  have v80 : begW x1 x2 y w 80 = x1 := rfl
  have v81 : begW x1 x2 y w 81 = x2 := rfl
  have v82 : begW x1 x2 y w 82 = 1 := rfl
  have v83 : begW x1 x2 y w 83 = 60 := rfl
  have v2 : begW x1 x2 y w 2 = y := rfl
  have zz : ∀ j : Int, j = 0 ∨ j = 1 ∨ j = 3 ∨ (84 ≤ j ∧ j < 1796) → begW x1 x2 y w j = 0 := by
    intro j hj
    unfold begW
    rw [if_neg (by omega), if_neg (by omega), if_neg (by omega), if_neg (by omega), if_neg (by omega), if_neg (by omega), if_neg (by omega), if_neg (by omega)]
  have sf : ∀ f, isF (begW x1 x2 y w) f → begW x1 x2 y w (4 + f) = 10 := by
    intro f hf
    obtain ⟨f0, f1, f2, f3⟩ := hf
    rw [v80] at f2
    rw [v81] at f3
    unfold begW
    rw [if_neg (by omega), if_neg (by omega), if_neg (by omega), if_neg (by omega), if_neg (by omega), if_neg (by omega), if_neg (by omega), show 4 + f - 4 = f by omega, if_pos ⟨by omega, f2, f3⟩]
  have nP : ∀ p, ¬ isP (begW x1 x2 y w) p := fun p hp => by
    have a := hp.1
    have b := hp.2
    rw [zz 85 (by omega)] at b
    omega
  have z0 := zz 0 (by omega)
  have z1 := zz 1 (by omega)
  have z3 := zz 3 (by omega)
  have z84 := zz 84 (by omega)
  have z85 := zz 85 (by omega)
  have z86 := zz 86 (by omega)
  have z87 := zz 87 (by omega)
  have z88 := zz 88 (by omega)
  have z89 := zz 89 (by omega)
  have z90 := zz 90 (by omega)
  obtain ⟨s0, s1, s2, s3, s4, s5, s6, s7⟩ := s
  refine ⟨⟨⟨by omega, by omega, by omega, by omega, by omega, by omega, by omega, by omega, by omega⟩, fun f hf => by rw [sf f hf]; decide, fun p hp => absurd hp (nP p), ⟨by omega, fun i i0 i1 => by omega⟩, ⟨by omega, fun i i0 i1 => by omega⟩, ⟨by omega, fun i i0 i1 => by omega⟩, ⟨by omega, fun i i0 i1 => by omega⟩⟩, ⟨s0.trans v80.symm, s1.trans v81.symm, s2.trans v82.symm, s3.trans v83.symm, ?_, s5.trans z1.symm, s6.trans z0.symm, s7.trans v2.symm⟩, ⟨fun f hf => ?_, fun f f0 f1 => ?_⟩, ⟨p.trans z85.symm, fun p hp => absurd hp (nP p)⟩, ⟨⟨t1.1, t2.1.trans z87.symm, fun i i0 i1 => by omega⟩, ⟨t1.2.1, t2.2.1.trans z88.symm, fun i i0 i1 => by omega⟩, ⟨t1.2.2.1, t2.2.2.1.trans z89.symm, fun i i0 i1 => by omega⟩, ⟨t1.2.2.2.1, t2.2.2.2.1.trans z90.symm, fun i i0 i1 => by omega⟩⟩, ⟨t1.2.2.2.2, ?_⟩, ⟨by omega, l.1.trans z86.symm, by omega, fun i i0 i1 => by omega⟩⟩
  · rw [s4, z84, ite_self]
  · have := isF_b hf
    rw [sn f this.1 this.2, sf f hf]
  · rw [sn f f0 f1]; decide
  · rcases hm with e | e
    · exact Or.inl ⟨e, t2.2.2.2.2⟩
    · exact Or.inr ⟨e, t2.2.2.2.2.trans z3.symm, fun i i0 i1 => by omega⟩
theorem KS_beg {x1 x2 y : Int} {w : Int → Int} : KS (begW x1 x2 y w) := by
  intro p hp
  have a := hp.1
  have b := hp.2
  rw [show begW x1 x2 y w 85 = 0 from rfl] at b
  omega
theorem isField_b {σ : Sg} (h1 : 3 ≤ rd σ 85 80 ∧ rd σ 85 80 ≤ 8) (h2 : 3 ≤ rd σ 85 81 ∧ rd σ 85 81 ≤ 7) (c : Int) : fX11_isField c σ = if isF (rd σ 85) c then 1 else 0 := by
  have on : ∀ x y : Int, fX11_isOn x y σ = if (0 ≤ x ∧ x < rd σ 85 80) ∧ 0 ≤ y ∧ y < rd σ 85 81 then 1 else 0 := by
    intro x y
    unfold fX11_isOn
    rw [bw_id (z := rd σ 85 80 - 1) (by omega) (by omega), bw_id (z := rd σ 85 81 - 1) (by omega) (by omega), isIn_m, isIn_m]
    repeat' split
    all_goals first | rfl | omega
  unfold fX11_isField isF
  rw [isIn_m]
  by_cases h : 0 ≤ c ∧ c ≤ 63
  · rw [if_pos h, if_neg (by decide), trm_pos (by omega) (by omega) (by omega) (by omega), tdv_pos (by omega) (by omega) (by omega) (by omega), on]
    repeat' split
    all_goals first | rfl | omega
  · rw [if_neg h, if_pos rfl, if_neg (by omega)]
theorem begins_m {x1 x2 : Int} (b1 : 3 ≤ x1 ∧ x1 ≤ 8) (b2 : 3 ≤ x2 ∧ x2 ≤ 7) {σ : Sg} : wp (fX11_begins x1 x2 σ) (fun τ => rd τ 85 = begW x1 x2 (rd σ 85 2) (rd σ 85) ∧ rd τ 84 4 = 0 ∧ (∀ i : Int, i ≠ 4 → rd τ 84 i = rd σ 84 i) ∧ Fr [84, 85] σ τ) := by
  unfold fX11_begins
  refine loopM (F := fun n q => fX11_begins_L10 _ x1 x2 (rd σ 85 2) n q.1 q.2) (fun q : Int × Sg => (0 ≤ q.1 ∧ q.1 ≤ 1796) ∧ Fr [85] σ q.2 ∧ ∀ i : Int, rd q.2 85 i = if 0 ≤ i ∧ i < q.1 then 0 else rd σ 85 i) (fun q => (1796 - q.1).toNat) ?_ FU (0, σ) (by unfold FU; simp only; omega) ⟨by simp only; omega, Fr.rf, fun i => by simp only; rw [if_neg (by omega)]⟩
  rintro m ⟨i, ρ⟩ ⟨hi, hG, hy⟩ ih
  simp only at hi hG hy ⊢
  rw [fX11_begins_L10]
  by_cases hl : i < 1796
  · rw [if_pos hl, grd_pos (by omega), bw_id (z := i + 1) (by omega) (by omega)]
    refine ih (i + 1, wr ρ 85 i 0) ⟨by simp only; omega, hG.wr (by decide), fun j => ?_⟩ (by simp only; omega)
    show rd (wr ρ 85 i 0) 85 j = if 0 ≤ j ∧ j < i + 1 then 0 else _
    rw [wr_row]
    by_cases e : j = i
    · rw [e, upz_s, if_pos (by omega)]; rfl
    · rw [upz_n e, hy]
      by_cases e3 : 0 ≤ j ∧ j < i
      · rw [if_pos e3, if_pos (by omega)]
      · rw [if_neg e3, if_neg (by omega)]
  rw [if_neg hl]
  have e96 : i = 1796 := by omega
  rw [e96] at hy
  generalize hα : wr (wr (wr (wr (wr ρ 85 2 (rd σ 85 2)) 85 80 x1) 85 81 x2) 85 82 1) 85 83 60 = α
  have gα : Fr [85] σ α := by
    rw [← hα]
    exact ((((hG.wr (by decide)).wr (by decide)).wr (by decide)).wr (by decide)).wr (by decide)
  have rα : ∀ j : Int, rd α 85 j = if j = 83 then 60 else if j = 82 then 1 else if j = 81 then x2 else if j = 80 then x1 else if j = 2 then rd σ 85 2 else if 0 ≤ j ∧ j < 1796 then 0 else rd σ 85 j := by
    intro j
    rw [← hα, wr_row, wr_row, wr_row, wr_row, wr_row, rd_bw, bw_id (z := x1) (by omega) (by omega), bw_id (z := x2) (by omega) (by omega), ← hy]
    rfl
  have a80 : rd α 85 80 = x1 := by rw [rα]; rfl
  have a81 : rd α 85 81 = x2 := by rw [rα]; rfl
  refine loopM (F := fun n q => fX11_begins_L75 _ n q.1 q.2) (fun q : Int × Sg => (0 ≤ q.1 ∧ q.1 ≤ 64) ∧ Fr [85] α q.2 ∧ ∀ i : Int, rd q.2 85 i = if 4 ≤ i ∧ i < 4 + q.1 then (if i < 60 ∧ (i - 4) % 8 < x1 ∧ (i - 4) / 8 < x2 then 10 else 0) else rd α 85 i) (fun q => (64 - q.1).toNat) ?_ FU (0, α) (by unfold FU; simp only; omega) ⟨by simp only; omega, Fr.rf, fun i => by simp only; rw [if_neg (by omega)]⟩
  rintro m2 ⟨i2, ρ2⟩ ⟨hi2, hG2, hy2⟩ ih2
  simp only at hi2 hG2 hy2 ⊢
  rw [fX11_begins_L75]
  by_cases hl2 : i2 < 64
  · have c80 : rd ρ2 85 80 = x1 := by rw [hy2, if_neg (by omega)]; exact a80
    have c81 : rd ρ2 85 81 = x2 := by rw [hy2, if_neg (by omega)]; exact a81
    rw [if_pos hl2, isField_b (by omega) (by omega), bw_id (z := 4 + i2) (by omega) (by omega), grd_pos (by omega), grd_pos (by omega), bw_id (z := i2 + 1) (by omega) (by omega)]
    have stp : ∀ v : Int, bw v = v → v = (if i2 < 56 ∧ i2 % 8 < x1 ∧ i2 / 8 < x2 then 10 else 0) → wp (fX11_begins_L75 _ m2 (i2 + 1) (wr ρ2 85 (4 + i2) v)) _ := fun v hv hv2 => ih2 (i2 + 1, wr ρ2 85 (4 + i2) v) ⟨by simp only; omega, hG2.wr (by decide), fun j => by
      show rd (wr ρ2 85 (4 + i2) v) 85 j = if 4 ≤ j ∧ j < 4 + (i2 + 1) then _ else _
      rw [wr_row, hv]
      by_cases e : j = 4 + i2
      · rw [e, upz_s, if_pos (by omega), hv2, show 4 + i2 - 4 = i2 by omega]
        by_cases z : i2 < 56 ∧ i2 % 8 < x1 ∧ i2 / 8 < x2
        · rw [if_pos z, if_pos ⟨by omega, z.2.1, z.2.2⟩]
        · rw [if_neg z, if_neg (by omega)]
      · rw [upz_n e, hy2]
        by_cases e3 : 4 ≤ j ∧ j < 4 + i2
        · rw [if_pos e3, if_pos (show 4 ≤ j ∧ j < 4 + (i2 + 1) by omega)]
        · rw [if_neg e3, if_neg (show ¬ (4 ≤ j ∧ j < 4 + (i2 + 1)) by omega)]⟩ (by simp only; omega)
    by_cases f : isF (rd ρ2 85) i2
    · rw [if_pos f, if_neg n10]
      obtain ⟨f0, f1, f2, f3⟩ := f
      exact stp 10 rfl (by rw [if_pos (by omega)])
    · rw [if_neg f, if_pos p00]
      refine stp 0 rfl ?_
      rw [if_neg (fun z => f ⟨by omega, z.1, by rw [c80]; exact z.2.1, by rw [c81]; exact z.2.2⟩)]
  rw [if_neg hl2]
  have e64 : i2 = 64 := by omega
  rw [e64] at hy2
  refine loopM (F := fun n q => fX11_begins_L115 n q.1 q.2) (fun q : Int × Sg => (0 ≤ q.1 ∧ q.1 ≤ 12) ∧ Fr [85] ρ2 q.2 ∧ ∀ i : Int, rd q.2 85 i = if 68 ≤ i ∧ i < 68 + q.1 then -1 else rd ρ2 85 i) (fun q => (12 - q.1).toNat) ?_ FU (0, ρ2) (by unfold FU; simp only; omega) ⟨by simp only; omega, Fr.rf, fun i => by simp only; rw [if_neg (by omega)]⟩
  rintro m3 ⟨i3, ρ3⟩ ⟨hi3, hG3, hy3⟩ ih3
  simp only at hi3 hG3 hy3 ⊢
  rw [fX11_begins_L115]
  by_cases hl3 : i3 < 12
  · rw [if_pos hl3, bw_id (z := 68 + i3) (by omega) (by omega), grd_pos (by omega), bw_id (z := i3 + 1) (by omega) (by omega)]
    refine ih3 (i3 + 1, wr ρ3 85 (68 + i3) (-1)) ⟨by simp only; omega, hG3.wr (by decide), fun j => ?_⟩ (by simp only; omega)
    show rd (wr ρ3 85 (68 + i3) (-1)) 85 j = if 68 ≤ j ∧ j < 68 + (i3 + 1) then -1 else _
    rw [wr_row]
    by_cases e : j = 68 + i3
    · rw [e, upz_s, if_pos (by omega)]; rfl
    · rw [upz_n e, hy3]
      by_cases e3 : 68 ≤ j ∧ j < 68 + i3
      · rw [if_pos e3, if_pos (by omega)]
      · rw [if_neg e3, if_neg (by omega)]
  rw [if_neg hl3, wp_some]
  have e12 : i3 = 12 := by omega
  rw [e12] at hy3
  have fr : Fr [85] σ ρ3 := (gα.tr hG2).tr hG3
  refine ⟨?_, rq_s, fun i hi => (rq_i hi).trans (fr 84 i (by decide)), (fr.mo (by decide)).wr (by decide)⟩
  rw [wr_off _ _ (by decide)]
  funext j
  rw [hy3, hy2, rα]
  unfold begW
  by_cases q0 : j < 0 ∨ 1796 ≤ j
  · rw [if_pos q0, if_neg (by omega), if_neg (by omega), if_neg (by omega), if_neg (by omega), if_neg (by omega), if_neg (by omega), if_neg (by omega), if_neg (by omega)]
  rw [if_neg q0]
  by_cases q1 : 68 ≤ j ∧ j < 80
  · rw [if_pos (by omega), if_neg (by omega), if_neg (by omega), if_neg (by omega), if_neg (by omega), if_neg (by omega), if_pos q1]
  rw [if_neg (show ¬ (68 ≤ j ∧ j < 68 + 12) by omega)]
  by_cases q2 : 4 ≤ j ∧ j < 68
  · rw [if_pos (show 4 ≤ j ∧ j < 4 + 64 by omega), if_neg (show ¬ j = 2 by omega), if_neg (show ¬ j = 80 by omega), if_neg (show ¬ j = 81 by omega), if_neg (show ¬ j = 82 by omega), if_neg (show ¬ j = 83 by omega), if_neg q1]
    by_cases z : j < 60 ∧ (j - 4) % 8 < x1 ∧ (j - 4) / 8 < x2
    · rw [if_pos z, if_pos ⟨by omega, z.2⟩]
    · rw [if_neg z, if_neg (fun y => z ⟨y.1.2, y.2⟩)]
  rw [if_neg (show ¬ (4 ≤ j ∧ j < 4 + 64) by omega), if_neg q1, if_neg (show ¬ ((4 ≤ j ∧ j < 60) ∧ (j - 4) % 8 < x1 ∧ (j - 4) / 8 < x2) by omega), if_pos (show 0 ≤ j ∧ j < 1796 by omega)]
  by_cases q3 : j = 2
  · rw [if_neg (by omega), if_neg (by omega), if_neg (by omega), if_neg (by omega), if_pos q3, if_pos q3]
  rw [if_neg q3, if_neg q3]
  by_cases q4 : j = 80
  · rw [if_neg (by omega), if_neg (by omega), if_neg (by omega), if_pos q4, if_pos q4]
  rw [if_neg q4, if_neg q4]
  by_cases q5 : j = 81
  · rw [if_neg (by omega), if_neg (by omega), if_pos q5, if_pos q5]
  rw [if_neg q5, if_neg q5]
  by_cases q6 : j = 82
  · rw [if_neg (by omega), if_pos q6, if_pos q6]
  rw [if_neg q6, if_neg q6]
theorem op_valley {has : Bool} {N : Nat} (hN : N ≤ 511) (x1 x2 : Int) (h1 : bw x1 = x1) (h2 : bw x2 = x2) : OpE has N (fX10_valley x1 x2) (fX11_valley x1 x2) := by
  intro σ h
  have hC := h.1
  by_cases c : (3 ≤ x1 ∧ x1 ≤ 8) ∧ 3 ≤ x2 ∧ x2 ≤ 7
  · obtain ⟨c1, c2⟩ := c
    refine opE_wr (v := 1) (w' := begW x1 x2 (rd σ 85 2) (rd σ 85)) h (show (0 : Int) ≤ 9999 by decide) (show (0 : Int) ≤ nbN (N + 1) by unfold nbN; omega) KS_beg ?_ (fun τ e85 => ?_)
    · unfold fX10_valley
      rw [if_neg (by omega), if_neg (by omega), if_neg (by omega), if_neg (by omega), wp_bind]
      refine wp_mono (begin_c c1 c2) (fun τ hτ => ?_)
      obtain ⟨hf, hs, hn, hp, hl, ht, u1, u2, u3, u4, u5⟩ := hτ
      rw [wp_some]
      have hT := hC.2.2.2.2.1
      have e7 : rd σ 1 7 = rd σ 85 2 := hC.2.1.2.2.2.2.2.2.2
      have hCW : CW 150 (begW x1 x2 (rd σ 85 2) (rd σ 85)) τ 1 := CG_beg c1 c2 ⟨hs.1, hs.2.1, hs.2.2.1, hs.2.2.2.1, hs.2.2.2.2.1, hs.2.2.2.2.2.1, hs.2.2.2.2.2.2.1, hs.2.2.2.2.2.2.2.trans e7⟩ hn hp hl ht ⟨u1.trans hT.1.1, u2.trans hT.2.1.1, u3.trans hT.2.2.1.1, u4.trans hT.2.2.2.1, u5.trans hC.2.2.2.2.2.1.1⟩ (Or.inr rfl)
      have f2 : Fr (55 :: nowC) σ τ := hf.mo (by decide)
      refine ⟨rfl, hCW.fr (Fr.wr (l := [55]) Fr.rf (by decide)) (by decide), rq_s, (rq_i (by decide)).trans (hf 55 4 (by decide)), f2.wr (by decide)⟩
    · unfold fX11_valley
      rw [isIn_m, if_pos c1, if_neg n10, isIn_m, if_pos c2, if_neg n10, wp_bind]
      refine wp_mono (begins_m c1 c2) (fun ρ hρ => ?_)
      rw [wp_some]
      rw [e85] at hρ
      exact ⟨rfl, hρ.1, hρ.2.1, fun i h4 _ _ => hρ.2.2.1 i h4, hρ.2.2.2.mo (by decide)⟩
  · refine opE_no (v := 0) h ?_ ?_
    · unfold fX10_valley
      by_cases z1 : x1 < 3
      · rw [if_pos z1]
      by_cases z2 : 8 < x1
      · rw [if_neg z1, if_pos z2]
      by_cases z3 : x2 < 3
      · rw [if_neg z1, if_neg z2, if_pos z3]
      rw [if_neg z1, if_neg z2, if_neg z3, if_pos (by omega)]
    · unfold fX11_valley
      rw [isIn_m, isIn_m]
      by_cases z1 : 3 ≤ x1 ∧ x1 ≤ 8
      · rw [if_pos z1, if_neg n10, if_neg (fun z => c ⟨z1, z⟩), if_pos p00]
      · rw [if_neg z1, if_pos p00]
