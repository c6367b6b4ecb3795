/-! the picture laid aside and taken back -/
theorem stN_row {w w' : Int → Int} (h : ∀ j : Int, 0 ≤ j → j < 1796 → w' j = w j) : ∀ (n : Nat) (a : Int), 0 ≤ a → a + n ≤ 410 → stN w' n a = stN w n a
  | 0, _, _, _ => rfl
  | n + 1, a, ha, hb => by rw [stN, stN, h _ (by omega) (by omega), h _ (by omega) (by omega), stN_row h n (a + 1) (by omega) (by omega)]
theorem stW_row {w w' : Int → Int} (h : ∀ j : Int, 0 ≤ j → j < 1796 → w' j = w j) {a b : Int} (ha : 0 ≤ a) (hab : a ≤ b) (hb : b ≤ 410) : stW w' a b = stW w a b := stN_row h _ _ ha (by omega)
theorem CG_row {m : Int} {w w' : Int → Int} {g : Nat → Int → Int} (e : ∀ j : Int, 0 ≤ j → j < 1796 → w' j = w j) (h : CG m w g) : CG m w' g := by
  obtain ⟨⟨⟨a1, a2, a3, a4, a5, a6, a7, a8, a9⟩, hF, hP, hV, hY, hN, hZ⟩, hS, hRF, hRP, hT, hB, hL⟩ := h
  have e80 := e 80 (by omega) (by omega)
  have e81 := e 81 (by omega) (by omega)
  have e82 := e 82 (by omega) (by omega)
  have e83 := e 83 (by omega) (by omega)
  have e84 := e 84 (by omega) (by omega)
  have e85 := e 85 (by omega) (by omega)
  have e87 := e 87 (by omega) (by omega)
  have e88 := e 88 (by omega) (by omega)
  have e89 := e 89 (by omega) (by omega)
  have e90 := e 90 (by omega) (by omega)
  have e0 := e 0 (by omega) (by omega)
  have e1 := e 1 (by omega) (by omega)
  have e2 := e 2 (by omega) (by omega)
  have e3 := e 3 (by omega) (by omega)
  have eF : ∀ c, isF w' c ↔ isF w c := fun c => by unfold isF; rw [e80, e81]
  have eP : ∀ c, isP w' c ↔ isP w c := fun c => by unfold isP; rw [e85]
  have pr : ∀ p, isP w p → 0 ≤ p ∧ p < 12 := fun p hp => ⟨hp.1, by have := hp.2; omega⟩
  refine ⟨⟨⟨by rw [e80]; exact a1, by rw [e81]; exact a2, by rw [e82]; exact a3, by rw [e83]; exact a4, by rw [e84]; exact a5, by rw [e85]; exact a6, by rw [e0]; exact a7, by rw [e1]; exact a8, by rw [e3]; exact a9⟩, fun f hf => ?_, fun p hp => ?_, ⟨by rw [e87]; exact hV.1, fun i i0 i1 => ?_⟩, ⟨by rw [e88]; exact hY.1, fun i i0 i1 => ?_⟩, ⟨by rw [e89]; exact hN.1, fun i i0 i1 => ?_⟩, ⟨by rw [e90]; exact hZ.1, fun i i0 i1 => ?_⟩⟩, ?_, ⟨fun f hf => ?_, hRF.2⟩, ⟨by rw [e85]; exact hRP.1, fun p hp => ?_⟩, ?_, RB_congr hB e3 a9.2 (fun j j0 j1 => e j (by omega) (by omega)) (fun _ => rfl) (fun _ => rfl), ?_⟩
  · have hf' := (eF f).mp hf
    have := isF_b hf'
    rw [e (4 + f) (by omega) (by omega)]
    exact hF f hf'
  · have hp' := (eP p).mp hp
    have hp2 := pr p hp'
    obtain ⟨p1, p2, p3, p4, p5, p6⟩ := hP p hp'
    rw [e (91 + p) (by omega) (by omega), e (103 + p) (by omega) (by omega), e (115 + p) (by omega) (by omega), e (127 + p) (by omega) (by omega), e (68 + p) (by omega) (by omega), e (139 + p) (by omega) (by omega)]
    exact ⟨p1, p2, p3, (eF _).mpr p4, p5.imp id (fun z => (eP _).mpr z), p6⟩
  · rw [e87] at i1
    obtain ⟨v1, v2, v3, v4, v5⟩ := hV.2 i i0 i1
    have v2' := pr _ v2
    have v3' := pr _ v3
    rw [e (151 + 4 * i) (by omega) (by omega), e (152 + 4 * i) (by omega) (by omega), e (153 + 4 * i) (by omega) (by omega), e (154 + 4 * i) (by omega) (by omega), e (91 + w (152 + 4 * i)) (by omega) (by omega), e (91 + w (153 + 4 * i)) (by omega) (by omega)]
    exact ⟨v1, (eP _).mpr v2, (eP _).mpr v3, v4, (eF _).mpr v5⟩
  · rw [e88] at i1
    rw [e (215 + 2 * i) (by omega) (by omega), e (216 + 2 * i) (by omega) (by omega)]
    exact hY.2 i i0 i1
  · rw [e89] at i1
    obtain ⟨v1, v2, v3⟩ := hN.2 i i0 i1
    rw [e (239 + 3 * i) (by omega) (by omega), e (240 + 3 * i) (by omega) (by omega), e (241 + 3 * i) (by omega) (by omega)]
    exact ⟨(eF _).mpr v1, v2, v3⟩
  · rw [e90] at i1
    obtain ⟨v1, v2, v3⟩ := hZ.2 i i0 i1
    rw [e (275 + 3 * i) (by omega) (by omega), e (276 + 3 * i) (by omega) (by omega), e (277 + 3 * i) (by omega) (by omega)]
    exact ⟨(eP _).mpr v1, v2, v3⟩
  · unfold RS at hS ⊢
    rw [e80, e81, e82, e83, e84, e0, e1, e2]
    exact hS
  · have hf' := (eF f).mp hf
    have := isF_b hf'
    rw [e (4 + f) (by omega) (by omega)]
    exact hRF.1 f hf'
  · have hp' := (eP p).mp hp
    have hp2 := pr p hp'
    rw [e (91 + p) (by omega) (by omega), e (103 + p) (by omega) (by omega), e (115 + p) (by omega) (by omega), e (127 + p) (by omega) (by omega), e (68 + p) (by omega) (by omega), e (139 + p) (by omega) (by omega)]
    exact hRP.2 p hp'
  · obtain ⟨⟨t1, t2, t3⟩, ⟨t4, t5, t6⟩, ⟨t7, t8, t9⟩, ⟨u1, u2, u3⟩⟩ := hT
    refine ⟨⟨t1, by rw [e87]; exact t2, fun i i0 i1 => ?_⟩, ⟨t4, by rw [e88]; exact t5, fun i i0 i1 => ?_⟩, ⟨t7, by rw [e89]; exact t8, fun i i0 i1 => ?_⟩, ⟨u1, by rw [e90]; exact u2, fun i i0 i1 => ?_⟩⟩
    · rw [e87] at i1
      rw [e (151 + 4 * i) (by omega) (by omega), e (152 + 4 * i) (by omega) (by omega), e (153 + 4 * i) (by omega) (by omega), e (154 + 4 * i) (by omega) (by omega)]
      exact t3 i i0 i1
    · rw [e88] at i1
      rw [e (215 + 2 * i) (by omega) (by omega), e (216 + 2 * i) (by omega) (by omega)]
      exact t6 i i0 i1
    · rw [e89] at i1
      rw [e (239 + 3 * i) (by omega) (by omega), e (240 + 3 * i) (by omega) (by omega), e (241 + 3 * i) (by omega) (by omega)]
      exact t9 i i0 i1
    · rw [e90] at i1
      rw [e (275 + 3 * i) (by omega) (by omega), e (276 + 3 * i) (by omega) (by omega), e (277 + 3 * i) (by omega) (by omega)]
      exact u3 i i0 i1
  · obtain ⟨h1, h2, h3, h4⟩ := hL
    have e86 := e 86 (by omega) (by omega)
    refine ⟨by rw [e86]; exact h1, by rw [e86]; exact h2, h3, fun i i0 i1 => ?_⟩
    rw [e86] at i1
    obtain ⟨k1, k2, k3, k4, k5, k6, k7, k8⟩ := h4 i i0 i1
    unfold LL
    rw [e (959 + i) (by omega) (by omega), e (911 + i) (by omega) (by omega), e (927 + i) (by omega) (by omega), e (943 + i) (by omega) (by omega), stW_row e (by omega) (by omega) (by omega), stW_row e (by omega) (by omega) (by omega)]
    exact ⟨k1, k2, k3, k4, k5, k6, k7, k8⟩
theorem tail_ok {σ τ : Sg} (h : TC σ ∧ TR σ ∧ FR0 σ) (k : ∀ c : Nat, c ∈ [45, 47, 49, 51, 53, 59, 60, 64, 92] → rd τ c = rd σ c) (k84 : ∀ i : Int, i ≠ 4 → i ≠ 5 → rd τ 84 i = rd σ 84 i) : TC τ ∧ TR τ ∧ FR0 τ := by
  unfold TC TR FR0 at h ⊢
  rw [k 45 (by decide), k 47 (by decide), k 49 (by decide), k 51 (by decide), k 53 (by decide), k 59 (by decide), k 60 (by decide), k 64 (by decide), k 92 (by decide), k84 16 (by decide) (by decide), k84 23 (by decide) (by decide), k84 25 (by decide) (by decide)]
  exact h
theorem PR_k {nb nb' : Int} {w : Int → Int} {σ τ : Sg} (e55 : rd τ 55 = rd σ 55) (e56 : rd τ 56 = rd σ 56) (e57 : rd τ 57 = rd σ 57) (e58 : rd τ 58 = rd σ 58) (e87 : rd τ 87 = rd σ 87) (e84 : rd τ 84 4 = rd σ 84 4) (hnb : nb ≤ nb') (k : PR nb w σ) : PR nb' w τ := by
  unfold PR at k ⊢
  rw [e55, e84, e87]
  exact ⟨k.1, k.2.1, k.2.2.1, fun j j0 j1 => ⟨PE_keep e56 e57 e58 e87 hnb (k.2.2.2 j j0 j1).1, (k.2.2.2 j j0 j1).2⟩⟩
theorem img_m {x1 : Int} {d s : Nat} (hd : (x1 = 0 ∧ d = 85 ∧ s = 86) ∨ (x1 ≠ 0 ∧ d = 86 ∧ s = 85)) {k : Sg → Option (Int × Sg)} {Q : Int × Sg → Prop} {σ : Sg} (hQ : ∀ ρ, Fr [d] σ ρ → (∀ i : Int, rd ρ d i = if 0 ≤ i ∧ i < 1796 then rd σ s i else rd σ d i) → wp (k ρ) Q) : wp (fX11_image_L15 k x1 FU 0 σ) Q := by
  have hds : s ≠ d := by omega
  refine loopM (F := fun n q => fX11_image_L15 k x1 n q.1 q.2) (fun q : Int × Sg => (0 ≤ q.1 ∧ q.1 ≤ 1796) ∧ Fr [d] σ q.2 ∧ ∀ i : Int, rd q.2 d i = if 0 ≤ i ∧ i < q.1 then rd σ s i else rd σ d i) (fun q => (1796 - q.1).toNat) ?_ FU (0, σ) (by unfold FU; simp only; omega) ⟨by simp only; omega, Fr.rf, fun i => by simp only; rw [if_neg (by omega)]⟩
  rintro m ⟨i, ρ⟩ ⟨hi, hG, hy⟩ ih
  show wp (fX11_image_L15 k x1 (m + 1) i ρ) _
  simp only at hi hG hy
  rw [fX11_image_L15]
  by_cases hl : i < 1796
  · rw [if_pos hl, bw_id (z := i + 1) (by omega) (by omega)]
    have step : wp (fX11_image_L15 k x1 m (i + 1) (wr ρ d i (rd ρ s i))) Q := by
      refine ih (i + 1, wr ρ d i (rd ρ s i)) ⟨by simp only; omega, hG.wr (by simp), fun j => ?_⟩ (by simp only; omega)
      show rd (wr ρ d i (rd ρ s i)) d j = if 0 ≤ j ∧ j < i + 1 then _ else _
      rw [wr_row, rd_bw]
      by_cases e : j = i
      · rw [e, upz_s, if_pos (by omega)]
        exact hG s i (by simp; omega)
      · rw [upz_n e, hy]
        by_cases e3 : 0 ≤ j ∧ j < i
        · rw [if_pos e3, if_pos (by omega)]
        · rw [if_neg e3, if_neg (by omega)]
    rcases hd with ⟨h1, h2, h3⟩ | ⟨h1, h2, h3⟩
    · rw [h2, h3] at step
      rw [if_pos h1, grd_pos (by omega), grd_pos (by omega)]
      exact step
    · rw [h2, h3] at step
      rw [if_neg h1, grd_pos (by omega), grd_pos (by omega)]
      exact step
  · rw [if_neg hl]
    refine hQ ρ hG (fun j => ?_)
    rw [hy, show i = 1796 by omega]
/-- the kept picture, made of the world -/
theorem img_to {has : Bool} {N : Nat} {σ τ : Sg} (h : Inv has N σ) (hf : ∀ (c : Nat) (i : Int), c < 106 ∨ 106 + 27 ≤ c → rd τ c i = rd σ c i) (hC : CW 150 (rd σ 85) τ 106) : wp (fX11_image 1 τ) (fun r => 1 = r.1 ∧ Inv true (N + 1) r.2) := by
  obtain ⟨i1, i2, i3, i4, i5, i6, i7, i8, i9⟩ := h
  have fc : ∀ c : Nat, c < 106 ∨ 106 + 27 ≤ c → rd τ c = rd σ c := fun c hc => funext fun i => hf c i hc
  unfold fX11_image
  rw [if_neg n10]
  unfold fX11_image_J13
  refine img_m (d := 86) (s := 85) (Or.inr ⟨by decide, rfl, rfl⟩) (fun ρ hr hy => ?_)
  rw [if_neg n10, wp_some]
  have rc : ∀ c : Nat, c ≠ 86 → rd ρ c = rd τ c := fun c hc => funext fun i => hr c i (by simp; exact hc)
  have r85 : rd (wr ρ 84 5 1) 85 = rd σ 85 := by rw [wr_off _ _ (by decide), rc 85 (by decide)]; exact fc 85 (by omega)
  have oth : ∀ c : Nat, c ≠ 84 → c ≠ 86 → rd (wr ρ 84 5 1) c = rd τ c := fun c h1 h2 => by rw [wr_off _ _ h1]; exact rc c h2
  have o2 : ∀ c : Nat, c ≠ 84 → c ≠ 86 → (c < 106 ∨ 106 + 27 ≤ c) → rd (wr ρ 84 5 1) c = rd σ c := fun c h1 h2 h3 => (oth c h1 h2).trans (fc c h3)
  have r86 : ∀ j : Int, 0 ≤ j → j < 1796 → rd (wr ρ 84 5 1) 86 j = rd σ 85 j := fun j j0 j1 => by
    rw [rq_c (by decide), hy, if_pos ⟨j0, j1⟩]; exact hf 85 j (by omega)
  have r84 : ∀ i : Int, i ≠ 5 → rd (wr ρ 84 5 1) 84 i = rd σ 84 i := fun i hi => by
    rw [rq_i hi]; exact (hr 84 i (by decide)).trans (hf 84 i (by omega))
  have v1 : vw (wr ρ 84 5 1) 1 = vw σ 1 := vw_keep (fun k a _ _ _ => o2 (1 + k) (by omega) (by omega) (by omega))
  have v106 : vw (wr ρ 84 5 1) 106 = vw τ 106 := vw_keep (fun k a _ _ _ => oth (106 + k) (by omega) (by omega))
  have tl := tail_ok ⟨i6, i7, i8⟩ (τ := wr ρ 84 5 1) (fun c hc => by
    simp only [List.mem_cons, List.not_mem_nil, or_false] at hc
    exact o2 c (by omega) (by omega) (by omega)) (fun i h4 h5 => r84 i h5)
  have h12 := i1.1.1.2.2.2.2.2.1
  refine ⟨rfl, ?_, ?_, ?_, ?_, ?_, tl.1, tl.2.1, tl.2.2, ?_⟩
  · show CG 150 (rd (wr ρ 84 5 1) 85) (vw (wr ρ 84 5 1) 1)
    rw [r85, v1]; exact i1
  · show rd (wr ρ 84 5 1) 85 0 ≤ 9999
    rw [r85]; exact i2
  · show rd (wr ρ 84 5 1) 85 1 ≤ _
    rw [r85]; exact nb_ok i3
  · show KS (rd (wr ρ 84 5 1) 85)
    rw [r85]; exact i4
  · show PR _ (rd (wr ρ 84 5 1) 85) (wr ρ 84 5 1)
    rw [r85]
    exact PR_k (o2 55 (by decide) (by decide) (by omega)) (o2 56 (by decide) (by decide) (by omega)) (o2 57 (by decide) (by decide) (by omega)) (o2 58 (by decide) (by decide) (by omega)) (o2 87 (by decide) (by decide) (by omega)) (r84 4 (by decide)) nbN_le i5
  · unfold KR
    rw [if_pos rfl]
    refine ⟨rq_s, ?_, ?_, ?_, ?_⟩
    · show CG 150 (rd (wr ρ 84 5 1) 86) (vw (wr ρ 84 5 1) 106)
      rw [v106]; exact CG_row r86 hC
    · rw [r86 0 (by omega) (by omega)]; exact i2
    · rw [r86 1 (by omega) (by omega)]; exact nb_ok i3
    · exact KS_congr i4 (r86 85 (by omega) (by omega)) (fun j j0 j1 => r86 j (by omega) (by omega)) h12.2
theorem op_imageN {N : Nat} (σ : Sg) (h : Inv false N σ) : wp (fX11_image 0 σ) (fun r => 0 = r.1 ∧ Inv false (N + 1) r.2) := by
  have h5 : rd σ 84 5 = 0 := h.2.2.2.2.2.2.2.2
  unfold fX11_image
  rw [if_pos p00, if_pos h5, wp_some]
  exact ⟨rfl, h.keep Keep.rf⟩
theorem op_image1 {N : Nat} (hN : N ≤ 511) (x1 : Int) (hx : x1 = 0 ∨ x1 = 1) : OpE true N (fX10_image1 x1) (fX11_image x1) := by
  intro σ h
  have hI := h
  obtain ⟨i1, i2, i3, i4, i5, i6, i7, i8, i9⟩ := h
  unfold KR at i9
  rw [if_pos rfl] at i9
  obtain ⟨j1, j2, j3, j4, j5⟩ := i9
  have m0 : ¬ (150 : Int) = 0 := by decide
  rcases hx with rfl | rfl
  · unfold fX10_image1
    rw [if_pos p00, wp_bind]
    refine wp_mono (copy_c (d := 1) (s := 106) (m := 150) (by omega) j2 (Or.inr ⟨by decide, rfl⟩) (by decide) i1.2.2.2.2.1.1.1 i1.2.2.2.2.1.2.1.1 i1.2.2.2.2.1.2.2.1.1 i1.2.2.2.2.1.2.2.2.1 i1.2.2.2.2.2.1.1) (fun τ hτ => ?_)
    obtain ⟨hf, h4, hC⟩ := hτ
    have hC := hC τ (fun _ _ _ => rfl) (by rw [if_neg m0]; exact h4)
    rw [wp_some]
    show wp (fX11_image 0 (wr τ 55 3 0)) _
    have t5 : rd (wr τ 55 3 0) 84 5 = 1 := by rw [rq_c (by decide), hf 84 5 (by omega)]; exact j1
    unfold fX11_image
    rw [if_pos p00, t5, if_neg n10]
    unfold fX11_image_J13
    refine img_m (d := 85) (s := 86) (Or.inl ⟨rfl, rfl, rfl⟩) (fun ρ hr hy => ?_)
    rw [if_pos p00, forgets_m, wp_bind, wp_some, wp_some]
    have fin : ∀ (c : Nat) (i : Int), c ≠ 84 → c ≠ 85 → rd (wr (wr ρ 84 4 0) 84 5 1) c i = rd (wr τ 55 3 0) c i := fun c i h1 h2 => by
      rw [rq_c h1, rq_c h1]; exact hr c i (by simp; exact h2)
    have oth : ∀ c : Nat, c ≠ 84 → c ≠ 85 → c ≠ 55 → rd (wr (wr ρ 84 4 0) 84 5 1) c = rd τ c := fun c h1 h2 h3 => funext fun i => (fin c i h1 h2).trans (rq_c h3)
    have o2 : ∀ c : Nat, c ≠ 84 → c ≠ 85 → c ≠ 55 → (c < 1 ∨ 1 + 27 ≤ c) → rd (wr (wr ρ 84 4 0) 84 5 1) c = rd σ c := fun c h1 h2 h3 h4 => (oth c h1 h2 h3).trans (funext fun i => hf c i h4)
    have r85 : ∀ j : Int, 0 ≤ j → j < 1796 → rd (wr (wr ρ 84 4 0) 84 5 1) 85 j = rd σ 86 j := fun j j0 j1 => by
      rw [rq_c (by decide), rq_c (by decide), hy, if_pos ⟨j0, j1⟩, rq_c (by decide)]; exact hf 86 j (by omega)
    have r84 : ∀ i : Int, i ≠ 4 → i ≠ 5 → rd (wr (wr ρ 84 4 0) 84 5 1) 84 i = rd σ 84 i := fun i h4 h5 => by
      rw [rq_i h5, rq_i h4]; exact (hr 84 i (by decide)).trans ((rq_c (by decide)).trans (hf 84 i (by omega)))
    have v1 : vw (wr (wr ρ 84 4 0) 84 5 1) 1 = vw τ 1 := vw_keep (fun k a _ _ _ => oth (1 + k) (by omega) (by omega) (by omega))
    have v106 : vw (wr (wr ρ 84 4 0) 84 5 1) 106 = vw σ 106 := vw_keep (fun k a _ _ _ => o2 (106 + k) (by omega) (by omega) (by omega) (by omega))
    have tl := tail_ok ⟨i6, i7, i8⟩ (τ := wr (wr ρ 84 4 0) 84 5 1) (fun c hc => by
      simp only [List.mem_cons, List.not_mem_nil, or_false] at hc
      exact o2 c (by omega) (by omega) (by omega) (by omega)) r84
    have h12 := j2.1.1.2.2.2.2.2.1
    have r86 : rd (wr (wr ρ 84 4 0) 84 5 1) 86 = rd σ 86 := o2 86 (by decide) (by decide) (by decide) (by omega)
    refine ⟨rfl, ?_, ?_, ?_, ?_, PR_0 ?_ ?_ ?_, tl.1, tl.2.1, tl.2.2, ?_⟩
    · show CG 150 (rd (wr (wr ρ 84 4 0) 84 5 1) 85) (vw (wr (wr ρ 84 4 0) 84 5 1) 1)
      rw [v1]; exact CG_row r85 hC
    · show rd (wr (wr ρ 84 4 0) 84 5 1) 85 0 ≤ 9999
      rw [r85 0 (by omega) (by omega)]; exact j3
    · show rd (wr (wr ρ 84 4 0) 84 5 1) 85 1 ≤ _
      rw [r85 1 (by omega) (by omega)]; exact nb_ok j4
    · exact KS_congr j5 (r85 85 (by omega) (by omega)) (fun j j0 j1 => r85 j (by omega) (by omega)) h12.2
    · rw [fin 55 4 (by decide) (by decide), rq_i (by decide), hf 55 4 (by omega)]; exact i5.1
    · rw [fin 55 3 (by decide) (by decide), rq_s]; rfl
    · rw [rq_i (by decide), rq_s]; rfl
    · unfold KR
      rw [if_pos rfl, r86]
      refine ⟨rq_s, ?_, j3, nb_ok j4, j5⟩
      show CG 150 (rd σ 86) (vw (wr (wr ρ 84 4 0) 84 5 1) 106)
      rw [v106]; exact j2
  · unfold fX10_image1
    rw [if_neg n10, wp_bind]
    refine wp_mono (copy_c (d := 106) (s := 1) (m := 150) (by omega) i1 (Or.inr ⟨by decide, rfl⟩) (by decide) j2.2.2.2.2.1.1.1 j2.2.2.2.2.1.2.1.1 j2.2.2.2.2.1.2.2.1.1 j2.2.2.2.2.1.2.2.2.1 j2.2.2.2.2.2.1.1) (fun τ hτ => ?_)
    obtain ⟨hf, h4, hC⟩ := hτ
    rw [wp_some]
    exact img_to hI hf (hC τ (fun _ _ _ => rfl) (by rw [if_neg m0]; exact h4))
