/-! how the object begins; the first kept picture -/
theorem init_1 (σ : Sg) (w : Int → Int) : wp (fiX9_init_1 (zr σ 1)) (fun τ => (∀ (c : Nat) (i : Int), c < 1 ∨ 28 ≤ c → rd τ c i = rd σ c i) ∧ CW 150 (begW 5 4 0 w) τ 1) := by
  unfold fiX9_init_1 fiX1_init_4 fiX2_init_11 fiX6_init_18 fiX6_init_20 fiX6_init_22 fiX6_init_24 fiX6_init_26
  simp only [max_eq, Option.bind_some]
  rw [wp_bind]
  refine wp_mono (begin_c (by decide) (by decide)) (fun τ hτ => ?_)
  obtain ⟨hf, hs, hn, hp, hl, ht, u1, u2, u3, u4, u5⟩ := hτ
  rw [wp_some]
  refine ⟨fun c i hc => ?_, CG_beg (by decide) (by decide) ⟨hs.1, hs.2.1, hs.2.2.1, hs.2.2.2.1, hs.2.2.2.2.1, hs.2.2.2.2.2.1, hs.2.2.2.2.2.2.1, hs.2.2.2.2.2.2.2.trans ?_⟩ hn hp hl ht ⟨u1.trans ?_, u2.trans ?_, u3.trans ?_, u4.trans ?_, u5.trans ?_⟩ ?_⟩
  · refine (hf c i (by simp <;> omega)).trans ?_
    simp (disch := omega) only [rq_c, rz_o]
  · rw [rq_s]; rfl
  · simp (disch := decide) only [rq_c, rz_o, rq_i, rq_s]; rfl
  · simp (disch := decide) only [rq_c, rz_o, rq_i, rq_s]; rfl
  · simp (disch := decide) only [rq_c, rz_o, rq_i, rq_s]; rfl
  · simp (disch := decide) only [rq_c, rz_o, rq_i, rq_s]; rfl
  · simp (disch := decide) only [rq_c, rz_o, rq_i, rq_s]; rfl
  · decide
theorem init_28 (σ : Sg) (w : Int → Int) : wp (fiX9_init_28 (zr σ 28)) (fun τ => (∀ (c : Nat) (i : Int), c < 28 ∨ 55 ≤ c → rd τ c i = rd σ c i) ∧ CW 0 (begW 5 4 0 w) τ 28) := by
  unfold fiX9_init_28 fiX1_init_31 fiX2_init_38 fiX6_init_45 fiX6_init_47 fiX6_init_49 fiX6_init_51 fiX6_init_53
  simp only [max_eq, Option.bind_some]
  rw [wp_bind]
  refine wp_mono (begin_c (by decide) (by decide)) (fun τ hτ => ?_)
  obtain ⟨hf, hs, hn, hp, hl, ht, u1, u2, u3, u4, u5⟩ := hτ
  rw [wp_some]
  refine ⟨fun c i hc => ?_, CG_beg (by decide) (by decide) ⟨hs.1, hs.2.1, hs.2.2.1, hs.2.2.2.1, hs.2.2.2.2.1, hs.2.2.2.2.2.1, hs.2.2.2.2.2.2.1, hs.2.2.2.2.2.2.2.trans ?_⟩ hn hp hl ht ⟨u1.trans ?_, u2.trans ?_, u3.trans ?_, u4.trans ?_, u5.trans ?_⟩ ?_⟩
  · refine (hf c i (by simp <;> omega)).trans ?_
    simp (disch := omega) only [rq_c, rz_o]
  · rw [rq_s]; rfl
  · simp (disch := decide) only [rq_c, rz_o, rq_i, rq_s]; rfl
  · simp (disch := decide) only [rq_c, rz_o, rq_i, rq_s]; rfl
  · simp (disch := decide) only [rq_c, rz_o, rq_i, rq_s]; rfl
  · simp (disch := decide) only [rq_c, rz_o, rq_i, rq_s]; rfl
  · simp (disch := decide) only [rq_c, rz_o, rq_i, rq_s]; rfl
  · decide
theorem init_106 (σ : Sg) (w : Int → Int) : wp (fiX9_init_106 (zr σ 106)) (fun τ => (∀ (c : Nat) (i : Int), c < 106 ∨ 133 ≤ c → rd τ c i = rd σ c i) ∧ CW 150 (begW 5 4 0 w) τ 106) := by
  unfold fiX9_init_106 fiX1_init_109 fiX2_init_116 fiX6_init_123 fiX6_init_125 fiX6_init_127 fiX6_init_129 fiX6_init_131
  simp only [max_eq, Option.bind_some]
  rw [wp_bind]
  refine wp_mono (begin_c (by decide) (by decide)) (fun τ hτ => ?_)
  obtain ⟨hf, hs, hn, hp, hl, ht, u1, u2, u3, u4, u5⟩ := hτ
  rw [wp_some]
  refine ⟨fun c i hc => ?_, CG_beg (by decide) (by decide) ⟨hs.1, hs.2.1, hs.2.2.1, hs.2.2.2.1, hs.2.2.2.2.1, hs.2.2.2.2.2.1, hs.2.2.2.2.2.2.1, hs.2.2.2.2.2.2.2.trans ?_⟩ hn hp hl ht ⟨u1.trans ?_, u2.trans ?_, u3.trans ?_, u4.trans ?_, u5.trans ?_⟩ ?_⟩
  · refine (hf c i (by simp <;> omega)).trans ?_
    simp (disch := omega) only [rq_c, rz_o]
  · rw [rq_s]; rfl
  · simp (disch := decide) only [rq_c, rz_o, rq_i, rq_s]; rfl
  · simp (disch := decide) only [rq_c, rz_o, rq_i, rq_s]; rfl
  · simp (disch := decide) only [rq_c, rz_o, rq_i, rq_s]; rfl
  · simp (disch := decide) only [rq_c, rz_o, rq_i, rq_s]; rfl
  · simp (disch := decide) only [rq_c, rz_o, rq_i, rq_s]; rfl
  · decide
theorem op_image0 {N : Nat} (hN : N ≤ 511) (σ : Sg) (h : Inv false N σ) : wp (fX10_image0 σ) (fun τ => wp (fX11_image 1 τ) (fun r => 1 = r.1 ∧ Inv true (N + 1) r.2)) := by
  unfold fX10_image0
  rw [wp_bind]
  refine wp_mono (init_106 σ (rd σ 85)) (fun s hs => ?_)
  obtain ⟨hf, hC⟩ := hs
  have v1 : vw s 1 = vw σ 1 := vw_keep (fun k a _ _ _ => funext fun i => hf (1 + k) i (by omega))
  have h1 : CW 150 (rd σ 85) s 1 := by
    show CG 150 (rd σ 85) (vw s 1)
    rw [v1]; exact h.1
  rw [wp_bind]
  refine wp_mono (copy_c (d := 106) (s := 1) (m := 150) (by omega) h1 (Or.inr ⟨by decide, rfl⟩) (by decide) hC.2.2.2.2.1.1.1 hC.2.2.2.2.1.2.1.1 hC.2.2.2.2.1.2.2.1.1 hC.2.2.2.2.1.2.2.2.1 hC.2.2.2.2.2.1.1) (fun τ hτ => ?_)
  obtain ⟨hf2, h4, hC2⟩ := hτ
  rw [wp_some]
  exact img_to h (fun c i hc => (hf2 c i hc).trans (hf c i hc)) (hC2 τ (fun _ _ _ => rfl) (by rw [if_neg (by decide)]; exact h4))
theorem s00_0 (c : Nat) (i : Int) : rd s00 c i = 0 := rfl
theorem start_ok : wp (fiX10_init_0 (zr s00 0)) (fun s => wp (fiX11_init_84 (zr s 84)) (fun t => Inv false 0 t)) := by
  unfold fiX10_init_0
  rw [wp_bind]
  refine wp_mono (init_1 (zr s00 0) (fun _ => 0)) (fun s1 h1 => ?_)
  obtain ⟨f1, c1⟩ := h1
  rw [wp_bind]
  refine wp_mono (init_28 s1 (fun _ => 0)) (fun s2 h2 => ?_)
  obtain ⟨f2, c2⟩ := h2
  unfold fiX3_init_55 fiX7_init_59 fiX4_init_64 fiX0_init_65 fiX8_init_74 fiX5_init_80
  simp only [Option.bind_some]
  rw [wp_some]
  generalize hs : zr (zr (zr _ 81) 82) 83 = s3
  have e3 : ∀ (c : Nat) (i : Int), c < 55 → rd s3 c i = rd s2 c i := fun c i hc => by
    rw [← hs]
    simp (disch := omega) only [rz_o, rq_c]
  have e55 : ∀ i : Int, rd s3 55 i = 0 := fun i => by
    rw [← hs]
    simp (disch := decide) only [rz_o, rq_c, rz_s]
  have e59 : ∀ i : Int, rd s3 59 i = 0 := fun i => by
    rw [← hs]
    simp (disch := decide) only [rz_o, rq_c, rz_s]
  have e640 : rd s3 64 0 = 0 := by
    rw [← hs]
    simp (disch := decide) only [rz_o, rq_c, rq_i, rq_s]
    rfl
  have e641 : rd s3 64 1 = -1 := by
    rw [← hs]
    simp (disch := decide) only [rz_o, rq_c, rq_i, rq_s]
    rfl
  unfold fiX11_init_84
  generalize hu : zr (zr (zr _ 103) 104) 105 = u
  have u84 : ∀ i : Int, rd u 84 i = if i = 25 then -1 else 0 := fun i => by
    rw [← hu]
    simp (disch := decide) only [rz_o]
    rw [wr_row]
    show (if i = 25 then (-1 : Int) else _) = _
    simp (disch := decide) only [rz_o, rz_s]
  have u85 : ∀ i : Int, rd u 85 i = 0 := fun i => by
    rw [← hu]
    simp (disch := decide) only [rz_o, rq_c, rz_s]
  have uo : ∀ (c : Nat) (i : Int), c < 84 → rd u c i = rd s3 c i := fun c i hc => by
    rw [← hu]
    simp (disch := omega) only [rz_o, rq_c]
  rw [wp_bind]
  refine wp_mono (begins_m (by decide) (by decide)) (fun t ht => ?_)
  obtain ⟨t85, t4, t84, tf⟩ := ht
  rw [wp_some]
  have eu : rd u 85 = fun _ => 0 := funext u85
  rw [eu] at t85
  have to : ∀ (c : Nat) (i : Int), c < 84 → rd t c i = rd s3 c i := fun c i hc => (tf c i (by simp <;> omega)).trans (uo c i hc)
  have to2 : ∀ (c : Nat) (i : Int), c < 28 → rd t c i = rd s1 c i := fun c i hc => (to c i (by omega)).trans ((e3 c i (by omega)).trans (f2 c i (by omega)))
  have v1 : vw t 1 = vw s1 1 := vw_keep (fun k a _ _ _ => funext fun i => to2 (1 + k) i (by omega))
  have t5 : ∀ (c : Nat) (i : Int), c < 55 → rd t c i = rd s2 c i := fun c i hc => (to c i (by omega)).trans (e3 c i hc)
  have hT := c2.2.2.2.2.1
  refine ⟨?_, ?_, ?_, ?_, PR_0 ?_ ?_ t4, ⟨(t5 45 1 (by decide)).trans hT.1.1, (t5 47 1 (by decide)).trans hT.2.1.1, (t5 49 1 (by decide)).trans hT.2.2.1.1, (t5 51 1 (by decide)).trans hT.2.2.2.1, (t5 53 1 (by decide)).trans c2.2.2.2.2.2.1.1⟩, ⟨?_, ?_, fun i i0 i1 => ?_⟩, ⟨?_, ?_⟩, ?_⟩
  · show CG 150 (rd t 85) (vw t 1)
    rw [t85, v1]; exact c1
  · rw [t85]; decide
  · rw [t85]; decide
  · rw [t85]; exact KS_beg
  · rw [to 55 4 (by decide), e55]; decide
  · rw [to 55 3 (by decide), e55]
  · rw [to 59 4 (by decide), e59]; decide
  · rw [to 59 4 (by decide), e59, t84 16 (by decide), u84]; rfl
  · rw [to 59 4 (by decide), e59] at i1; omega
  · rw [to 64 0 (by decide), e640, t84 23 (by decide), u84]; rfl
  · rw [to 64 1 (by decide), e641, t84 25 (by decide), u84]; rfl
  · show KR false _ t
    unfold KR
    rw [if_neg (by decide), t84 5 (by decide), u84]; rfl
