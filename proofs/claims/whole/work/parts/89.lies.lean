/-! the thought: days that do not stay -/
theorem vd0_hi : ∀ (r : Nat) (i fv v : Int) (u : Int → Int), OKw 0 u → 0 ≤ i → i + r = u 87 → pot u ≤ 800000000 → ∀ j : Int, j < 0 ∨ 80 ≤ j → (vdW 0 r i (u, v, fv)).1 j = u j := by
  intro r
  induction r with
  | zero => intro i fv v u _ _ _ _ j _; rfl
  | succ r ih =>
    intro i fv v u hu i0 i1 hp j hj
    have hW := hu.wf
    have fr := frN_r u
    have hw1 : u 1 ≤ 900000000 := by unfold pot at hp; omega
    have h87 := hW.2.2.2.1.1
    have hb3 := hW.1.2.2.2.2.2.2.2.2
    obtain ⟨l1, l2, l3, l4, l5⟩ := hW.2.2.2.1.2 i i0 (by omega)
    rw [vdW]
    simp only
    by_cases hday : u (151 + 4 * i) = u 0
    · simp only [if_pos hday]
      by_cases z : u (68 + u (152 + 4 * i)) = -1 ∧ u (68 + u (153 + 4 * i)) = -1
      · simp only [if_pos z]
        have hp2 := vowW_pot (t := 0) (x := u (154 + 4 * i)) hW l2 l3 z.1
        have q1 := l2.1
        have q2 := l3.1
        have q1' := l2.2
        have q2' := l3.2
        have h12 := hW.1.2.2.2.2.2.1
        rw [ih (i + 1) fv (v + 1) _ (hu.vow l2 l3 l5 hw1) (by omega) (by rw [vowW_lo hW l2 l3 (by omega)]; omega) (by omega) j hj]
        unfold vowW
        rw [upz_n (by omega), upz_n (by omega)]
        unfold noteW
        rw [if_pos (Or.inl rfl)]
        exact vow0W_lo hW j (by omega) (by omega)
      · simp only [if_neg z]
        have hok : OKw 0 (noteW 0 u 3 i 0) := hu.note rfl (bw_id (by omega) (by omega)) rfl
        rw [ih (i + 1) _ v _ hok (by omega) (by rw [noteW_lo (by omega) (by omega) (by omega) (by omega)]; omega) (by rw [note_pot hb3]; omega) j hj]
        unfold noteW
        rw [if_pos (Or.inl rfl)]
    · simp only [if_neg hday]
      exact ih (i + 1) fv v u hu (by omega) (by omega) hp j hj
theorem day0_hi {w : Int → Int} (h : OKw 0 w) (fv : Int) (hpot : pot w ≤ 800000000) {j : Int} (hj : j < 0 ∨ 80 ≤ j) : dayW 0 w fv j = w j := by
  have h87 := h.wf.2.2.2.1.1
  have e87 : snowsW w 87 = w 87 := snowsW_o (by decide)
  have a := vd0_hi (w 87).toNat 0 fv 0 (snowsW w) h.snows (by omega) (by rw [e87]; omega) (by rw [snows_pot]; omega) j hj
  unfold dayW
  rw [upz_n (by omega), meltsW_o (by omega)]
  unfold slD
  rw [if_neg (fun z => z.1 rfl)]
  unfold vdD
  rw [a]
  exact snowsW_o (by omega)
theorem lays_m {σ : Sg} : wp (fX11_lays σ) (fun τ => (∀ j : Int, 0 ≤ j → j < 80 → rd τ 88 j = rd σ 85 j) ∧ rd τ 84 26 = 0 ∧ rd τ 84 28 = -1 ∧ (∀ i : Int, i ≠ 26 → i ≠ 28 → rd τ 84 i = rd σ 84 i) ∧ Fr [84, 88] σ τ) := by
  unfold fX11_lays
  refine loopM (F := fun n q => fX11_lays_L2 n q.1 q.2) (fun q : Int × Sg => (0 ≤ q.1 ∧ q.1 ≤ 80) ∧ Fr [88] σ q.2 ∧ ∀ i : Int, 0 ≤ i → i < q.1 → rd q.2 88 i = rd σ 85 i) (fun q => (80 - q.1).toNat) ?_ FU (0, σ) (by unfold FU; simp only; omega) ⟨by simp only; omega, Fr.rf, fun i i0 i1 => by simp only at i1; omega⟩
  rintro m ⟨i, ρ⟩ ⟨hi, hG, hy⟩ ih
  show wp (fX11_lays_L2 (m + 1) i ρ) _
  simp only at hi hG hy
  rw [fX11_lays_L2]
  by_cases hl : i < 80
  · rw [if_pos hl, grd_pos (by omega), grd_pos (by omega), bw_id (z := i + 1) (by omega) (by omega)]
    refine ih (i + 1, wr ρ 88 i (rd ρ 85 i)) ⟨by simp only; omega, hG.wr (by decide), fun j j0 j1 => ?_⟩ (by simp only; omega)
    show rd (wr ρ 88 i (rd ρ 85 i)) 88 j = _
    simp only at j1
    rw [wr_row, rd_bw]
    by_cases e : j = i
    · rw [e, upz_s]; exact hG 85 i (by decide)
    · rw [upz_n e]; exact hy j j0 (by omega)
  · rw [if_neg hl, wp_some]
    refine ⟨fun j j0 j1 => ?_, ?_, rq_s, fun j h1 h2 => ?_, ((hG.mo (by decide)).wr (by decide)).wr (by decide)⟩
    · rw [rq_c (by decide), rq_c (by decide)]; exact hy j j0 (by omega)
    · rw [rq_i (by decide), rq_s]; rfl
    · rw [rq_i h2, rq_i h1]; exact hG 84 j (by decide)
theorem putsBack_m {σ : Sg} : wp (fX11_putsBack σ) (fun τ => (∀ j : Int, rd τ 85 j = if 0 ≤ j ∧ j < 80 then rd σ 88 j else rd σ 85 j) ∧ Fr [85] σ τ) := by
  unfold fX11_putsBack
  refine loopM (F := fun n q => fX11_putsBack_L2 n q.1 q.2) (fun q : Int × Sg => (0 ≤ q.1 ∧ q.1 ≤ 80) ∧ Fr [85] σ q.2 ∧ ∀ i : Int, rd q.2 85 i = if 0 ≤ i ∧ i < q.1 then rd σ 88 i else rd σ 85 i) (fun q => (80 - q.1).toNat) ?_ FU (0, σ) (by unfold FU; simp only; omega) ⟨by simp only; omega, Fr.rf, fun i => by simp only; rw [if_neg (by omega)]⟩
  rintro m ⟨i, ρ⟩ ⟨hi, hG, hy⟩ ih
  show wp (fX11_putsBack_L2 (m + 1) i ρ) _
  simp only at hi hG hy
  rw [fX11_putsBack_L2]
  by_cases hl : i < 80
  · rw [if_pos hl, grd_pos (by omega), grd_pos (by omega), bw_id (z := i + 1) (by omega) (by omega)]
    refine ih (i + 1, wr ρ 85 i (rd ρ 88 i)) ⟨by simp only; omega, hG.wr (by decide), fun j => ?_⟩ (by simp only; omega)
    show rd (wr ρ 85 i (rd ρ 88 i)) 85 j = if 0 ≤ j ∧ j < i + 1 then _ else _
    rw [wr_row, rd_bw]
    by_cases e : j = i
    · rw [e, upz_s, if_pos (by omega)]; exact hG 88 i (by decide)
    · rw [upz_n e, hy]
      by_cases e3 : 0 ≤ j ∧ j < i
      · rw [if_pos e3, if_pos (by omega)]
      · rw [if_neg e3, if_neg (by omega)]
  · rw [if_neg hl, wp_some]
    refine ⟨fun j => ?_, hG⟩
    rw [hy, show i = 80 by omega]
theorem thought_keep {σ ρ : Sg} {w' : Int → Int} (hT : TC σ) (hf : ∀ (c : Nat) (i : Int), c < 28 ∨ 28 + 27 ≤ c → rd ρ c i = rd σ c i) (hC : CW 0 w' ρ 28) : Keep σ ρ := by
  refine ⟨fun c hc => funext fun i => hf c i ((by decide : ∀ c ∈ kcells, c < 28 ∨ 28 + 27 ≤ c) c hc), fun q hq => ?_⟩
  have hR := hC.2.2.2.2.1
  obtain ⟨t1, t2, t3, t4, t5⟩ := hT
  have g1 : rd ρ 45 1 = 16 := hR.1.1
  have g2 : rd ρ 47 1 = 12 := hR.2.1.1
  have g3 : rd ρ 49 1 = 12 := hR.2.2.1.1
  have g4 : rd ρ 51 1 = 12 := hR.2.2.2.1
  have g5 : rd ρ 53 1 = 0 := hC.2.2.2.2.2.1.1
  unfold kslots at hq
  simp only [List.mem_cons, List.not_mem_nil, or_false] at hq
  rcases hq with rfl | rfl | rfl | rfl | rfl | rfl | rfl | rfl | rfl | rfl | rfl | rfl
  · exact hf 84 4 (by decide)
  · exact hf 84 5 (by decide)
  · exact hf 84 16 (by decide)
  · exact hf 84 23 (by decide)
  · exact hf 84 25 (by decide)
  · exact hf 64 0 (by decide)
  · exact hf 64 1 (by decide)
  · exact g1.trans t1.symm
  · exact g2.trans t2.symm
  · exact g3.trans t3.symm
  · exact g4.trans t4.symm
  · exact g5.trans t5.symm
theorem thought_c {σ : Sg} {w : Int → Int} (hC : CW 150 w σ 1) (hT : TC σ) : wp (fX10_beginThought σ) (fun τ => (∀ (c : Nat) (i : Int), c < 28 ∨ 28 + 27 ≤ c → rd τ c i = rd σ c i) ∧ CW 0 w τ 28) := by
  obtain ⟨t1, t2, t3, t4, t5⟩ := hT
  unfold fX10_beginThought
  rw [wp_bind]
  refine wp_mono (copy_c (d := 28) (s := 1) (m := 0) (by omega) hC (Or.inl ⟨rfl, rfl⟩) (by decide) t1 t2 t3 t4 t5) (fun τ hτ => ?_)
  obtain ⟨hf, h4, hc⟩ := hτ
  rw [wp_some]
  refine ⟨fun c i h => (rq_c (by omega)).trans (hf c i h), hc _ (fun c i h => ?_) ?_⟩
  · rcases h with h | h
    · exact rq_c h
    · by_cases e : c = 28
      · rw [e]; exact rq_i h
      · exact rq_c e
  · rw [rq_s, if_pos rfl]; rfl
def d0st : Nat → (Int → Int) × Int → (Int → Int) × Int
  | 0, s => s
  | k + 1, s => d0st k (dayW 0 s.1 s.2, (vdD 0 s.1 s.2).2.2)
theorem d0_hi : ∀ (r : Nat) (w : Int → Int) (fv : Int), OKw 0 w → pot w ≤ 700000000 → w 0 + r ≤ 19999 → (∀ j : Int, j < 0 ∨ 80 ≤ j → (d0st r (w, fv)).1 j = w j)
  | 0, w, fv, _, _, _ => fun _ _ => rfl
  | r + 1, w, fv, h, hp, h0 => fun j hj => by
    obtain ⟨d1, d2, -⟩ := dayW_lo h fv (by omega)
    have := d0_hi r (dayW 0 w fv) (vdD 0 w fv).2.2 (h.day fv (by omega) (by omega)) (by omega) (by omega) j hj
    exact this.trans (day0_hi h fv (by omega) hj)
theorem liesL_c {x1 x : Int} {σ0 : Sg} : ∀ (r m : Nat) (i : Int) (w : Int → Int) (fv : Int) (σ : Sg), i + r = x → 0 ≤ i → x ≤ 60 → r < m → CW 0 w σ 28 → pot w ≤ 700000000 → w 0 + r ≤ 19999 → isF w x1 → (∀ (c : Nat) (i : Int), c < 28 ∨ 28 + 27 ≤ c → rd σ c i = rd σ0 c i) → TC σ0 → wp (fX10_lies_L28 x1 x m i σ) (fun q => q.1 = (d0st r (w, fv)).1 (4 + x1) ∧ Keep σ0 q.2)
  | 0, m, i, w, fv, σ, hi, i0, hx, hm, hC, hp, h0, hf, hF, hT => by
    cases m with
    | zero => omega
    | succ m =>
      have := isF_b hf
      rw [fX10_lies_L28, if_neg (by omega), grd_pos this, wp_some]
      exact ⟨hC.2.2.1.1 x1 hf, thought_keep hT hF hC⟩
  | r + 1, m, i, w, fv, σ, hi, i0, hx, hm, hC, hp, h0, hf, hF, hT => by
    have hok : OKw 0 w := ⟨σ, 28, Or.inr ⟨rfl, rfl⟩, hC⟩
    obtain ⟨d1, d2, d3, d4, d5⟩ := dayW_lo hok fv (by omega)
    cases m with
    | zero => omega
    | succ m =>
      rw [fX10_lies_L28, if_pos (by omega), wp_bind, bw_id (z := i + 1) (by omega) (by omega)]
      refine wp_mono (passDay_c (Or.inr ⟨rfl, rfl⟩) hC fv (by omega) (by omega)) (fun q hq => ?_)
      refine liesL_c r m (i + 1) (dayW 0 w fv) (vdD 0 w fv).2.2 q.2 (by omega) (by omega) hx (by omega) hq.2.1 (by omega) (by omega) ?_ (fun c j hc => (hq.2.2 c j ?_).trans (hF c j hc)) hT
      · unfold isF at hf ⊢
        rw [d3 80 (by omega), d3 81 (by omega)]
        exact hf
      · unfold cellW
        simp <;> omega
theorem liesL_m {x1 x : Int} {σ0 : Sg} {k : Sg → Option (Int × Sg)} {Q : Int × Sg → Prop} : ∀ (r m : Nat) (i : Int) (w : Int → Int) (fv : Int) (σ : Sg), i + r = x → 0 ≤ i → x ≤ 60 → r < m → OKw 0 w → rd σ 85 = w → rd σ 84 26 = 0 → rd σ 84 28 = fv → pot w ≤ 700000000 → w 0 + r ≤ 19999 → Fs σ0 σ → (∀ ρ, rd ρ 85 = (d0st r (w, fv)).1 → Fs σ0 ρ → wp (k ρ) Q) → wp (fX11_lies_L26 k x1 x m i σ) Q
  | 0, m, i, w, fv, σ, hi, i0, hx, hm, hok, hw, ht, hfv, hp, h0, hF, hQ => by
    cases m with
    | zero => omega
    | succ m =>
      rw [fX11_lies_L26, if_neg (by omega)]
      exact hQ σ hw hF
  | r + 1, m, i, w, fv, σ, hi, i0, hx, hm, hok, hw, ht, hfv, hp, h0, hF, hQ => by
    obtain ⟨d1, d2, d3, d4, d5⟩ := dayW_lo hok fv (by omega)
    cases m with
    | zero => omega
    | succ m =>
      rw [fX11_lies_L26, if_pos (by omega), wp_bind, bw_id (z := i + 1) (by omega) (by omega)]
      refine wp_mono (aDay_m hok hw ⟨fun _ => rfl, fun _ => ht⟩ hfv (by omega)) (fun q hq => ?_)
      refine liesL_m r m (i + 1) (dayW 0 w fv) (vdD 0 w fv).2.2 q.2 (by omega) (by omega) hx (by omega) (hok.day fv (by omega) (by omega)) hq.2.1 ?_ hq.2.2.1 (by omega) (by omega) (fun c j a b => (hq.2.2.2 c j a b).trans (hF c j a b)) hQ
      rw [hq.2.2.2 84 26 (by decide) (by decide)]
      exact ht
theorem op_lies {has : Bool} {N : Nat} (hN : N ≤ 511) (x1 x2 : Int) (h1 : bw x1 = x1) (h2 : bw x2 = x2) : OpE has N (fX10_lies x1 x2) (fX11_lies x1 x2) := by
  intro σ h
  have hC := h.1
  have hW := hC.1
  have hT : TC σ := h.2.2.2.2.2.1
  have hd0 := hW.1.2.2.2.2.2.2.1
  by_cases n1 : ¬ isF (rd σ 85) x1
  · refine opE_no (v := -1) h ?_ ?_
    · unfold fX10_lies
      rw [hasField_c hC, if_neg n1, if_pos p00]
    · unfold fX11_lies
      rw [isField_m hW rfl, if_neg n1, if_pos p00]
  have c1 : isF (rd σ 85) x1 := Classical.not_not.mp n1
  have cb := isF_b c1
  by_cases n2 : ¬ (0 ≤ x2 ∧ x2 ≤ 60)
  · refine opE_no (v := -1) h ?_ ?_
    · unfold fX10_lies
      rw [hasField_c hC, if_pos c1, if_neg n10, within_m, if_neg n2, if_pos p00]
    · unfold fX11_lies
      rw [isField_m hW rfl, if_pos c1, if_neg n10, isIn_m, if_neg n2, if_pos p00]
  have c2 : 0 ≤ x2 ∧ x2 ≤ 60 := Classical.not_not.mp n2
  have hpb := pot_b hN h.2.2.1
  have hd := h.2.1
  refine opE_ro (v := (d0st x2.toNat (rd σ 85, -1)).1 (4 + x1)) h ?_ (fun τ hk => ?_)
  · show wp (fX10_lies x1 x2 σ) _
    unfold fX10_lies
    rw [hasField_c hC, if_pos c1, if_neg n10, within_m, if_pos c2, if_neg n10, wp_bind]
    refine wp_mono (thought_c hC hT) (fun s hs => ?_)
    exact liesL_c x2.toNat FU 0 (rd σ 85) (-1) s (by omega) (by omega) (by omega) (by unfold FU; omega) hs.2 hpb (by omega) c1 hs.1 hT
  · have e85 : rd τ 85 = rd σ 85 := hk.1 85 (by decide)
    obtain ⟨s0, hs0⟩ : ∃ s, fX10_beginThought σ = some s ∧ CW 0 (rd σ 85) s 28 := by
      obtain ⟨s, a, b, c⟩ := thought_c hC hT
      exact ⟨s, a, c⟩
    have hok : OKw 0 (rd σ 85) := ⟨s0, 28, Or.inr ⟨rfl, rfl⟩, hs0.2⟩
    show wp (fX11_lies x1 x2 τ) _
    unfold fX11_lies
    rw [isField_m hW e85, if_pos c1, if_neg n10, isIn_m, if_pos c2, if_neg n10, wp_bind]
    refine wp_mono lays_m (fun s hs => ?_)
    obtain ⟨l88, l26, l28, l84, lf⟩ := hs
    have s85 : rd s 85 = rd σ 85 := (funext fun j => lf 85 j (by decide)).trans e85
    refine liesL_m (σ0 := s) x2.toNat FU 0 (rd σ 85) (-1) s (by omega) (by omega) (by omega) (by unfold FU; omega) hok s85 l26 l28 hpb (by omega) (fun _ _ _ _ => rfl) (fun ρ hρ hF => ?_)
    rw [bw_id (z := 4 + x1) (by omega) (by omega), grd_pos (by omega), wp_bind]
    refine wp_mono putsBack_m (fun r hr => ?_)
    rw [wp_some]
    refine ⟨by rw [hρ], ?_⟩
    have hi := d0_hi x2.toNat (rd σ 85) (-1) hok hpb (by omega)
    have r85 : rd r 85 = rd τ 85 := by
      funext j
      rw [hr.1]
      by_cases c : 0 ≤ j ∧ j < 80
      · rw [if_pos c, hF 88 j (by decide) (by omega)]; exact l88 j c.1 c.2
      · rw [if_neg c, hρ, hi j (by omega), e85]
    have ro : ∀ c : Nat, c ∉ [85, 93, 94, 95, 84, 88] → ∀ j, rd r c j = rd τ c j := fun c hc j => by
      simp only [List.mem_cons, List.not_mem_nil, or_false, not_or] at hc
      rw [hr.2 c j (by simp <;> omega), hF c j (by simp <;> omega) (by omega)]
      exact lf c j (by simp <;> omega)
    have r84 : ∀ j : Int, j ≠ 26 → j ≠ 28 → rd r 84 j = rd τ 84 j := fun j a b => by
      rw [hr.2 84 j (by decide), hF 84 j (by decide) (by omega)]
      exact l84 j a b
    refine ⟨fun c hc => ?_, fun q hq => ?_⟩
    · by_cases e : c = 85
      · rw [e]; exact r85
      · exact funext fun j => ro c ((by decide : ∀ c ∈ kcells, c ≠ 85 → c ∉ [85, 93, 94, 95, 84, 88]) c hc e) j
    · by_cases e : q.1 = 84
      · have := (by decide : ∀ q ∈ kslots, q.1 = 84 → q.2 ≠ 26 ∧ q.2 ≠ 28) q hq e
        rw [e]
        exact r84 q.2 this.1 this.2
      · exact ro q.1 ((by decide : ∀ q ∈ kslots, q.1 ≠ 84 → q.1 ∉ [85, 93, 94, 95, 84, 88]) q hq e) q.2
