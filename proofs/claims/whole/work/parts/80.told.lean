/-! vow, part, sweep, days: what goes into the past -/
theorem opE_past {has : Bool} {N : Nat} {σ : Sg} {f g : Sg → Option (Int × Sg)} {v : Int} {w' : Int → Int} {n' : Nat} {E' : Nat → Int → Int} (h : Inv has N σ) (h80 : w' 80 = rd σ 85 80) (h81 : w' 81 = rd σ 85 81) (h85 : w' 85 = rd σ 85 85) (hd : w' 0 ≤ 9999) (hn1 : w' 1 ≤ nbN (N + 1)) (hK : KS w') (hX : PX (nbN (N + 1)) w' n' E') (h1 : wp (f σ) (fun q => q.1 = v ∧ CW 150 w' q.2 1 ∧ PC n' E' (rd σ 85) q.2 ∧ Fr (55 :: 56 :: 57 :: 58 :: nowC) σ q.2)) (h2 : ∀ τ, (∀ c : Nat, 84 ≤ c → c ≤ 87 → rd τ c = rd σ c) → wp (g τ) (fun r => r.1 = v ∧ rd r.2 85 = w' ∧ PM n' E' r.2 ∧ (∀ i : Int, i ≠ 4 → i ≠ 26 → i ≠ 28 → rd r.2 84 i = rd τ 84 i) ∧ Fr [84, 85, 87, 93, 94, 95] τ r.2)) : wp (f σ) (fun q => wp (g q.2) (fun r => q.1 = r.1 ∧ Inv has (N + 1) r.2)) := by
  have h12 := h.1.1.1.2.2.2.2.2.1
  refine wp_mono h1 (fun q hq => ?_)
  obtain ⟨a1, a2, a3, a4⟩ := hq
  refine wp_mono (h2 q.2 (fun c c1 c2 => funext fun i => a4 c i (by
    have : c = 84 ∨ c = 85 ∨ c = 86 ∨ c = 87 := by omega
    rcases this with rfl | rfl | rfl | rfl <;> decide))) (fun r hr => ?_)
  obtain ⟨b1, b2, b3, b4, b5⟩ := hr
  have k55 : ∀ c : Nat, 55 ≤ c → c ≤ 58 → rd r.2 c = rd q.2 c := by
    intro c c1 c2
    funext i
    refine b5 c i ?_
    have : c = 55 ∨ c = 56 ∨ c = 57 ∨ c = 58 := by omega
    rcases this with rfl | rfl | rfl | rfl <;> decide
  have hPR : PR (nbN (N + 1)) w' r.2 := PR_of (by rw [h85]; exact h12.2) (PC_w a3 h80 h81 h85 k55) b3 hX
  refine ⟨a1.trans b1.symm, h.rest (by rw [b2]; exact a2.fr b5 (by decide)) (by rw [b2]; exact hd) (by rw [b2]; exact hn1) (by rw [b2]; exact hK) (by rw [b2]; exact hPR) ?_⟩
  have hne : ∀ q' ∈ restS, q'.1 = 84 → q'.2 ≠ 4 ∧ q'.2 ≠ 26 ∧ q'.2 ≠ 28 := by decide
  have hn2 : ∀ q' ∈ restS, q'.1 ≠ 84 → q'.1 ∉ [84, 85, 87, 93, 94, 95] := by decide
  refine (Rest.fr a4 (by decide) (by decide)).tr ⟨fun c hc => funext fun i => b5 c i ((by decide : ∀ c ∈ restC, c ∉ [84, 85, 87, 93, 94, 95]) c hc), fun q' hq' => ?_⟩
  by_cases e : q'.1 = 84
  · have := hne q' hq' e
    rw [e]
    exact b4 q'.2 this.1 this.2.1 this.2.2
  · exact b5 q'.1 q'.2 (hn2 q' hq' e)
theorem opE_no {has : Bool} {N : Nat} {σ : Sg} {f g : Sg → Option (Int × Sg)} {v : Int} (h : Inv has N σ) (h1 : f σ = some (v, σ)) (h2 : g σ = some (v, σ)) : wp (f σ) (fun q => wp (g q.2) (fun r => q.1 = r.1 ∧ Inv has (N + 1) r.2)) := by
  rw [h1, wp_some]
  show wp (g σ) _
  rw [h2, wp_some]
  exact ⟨rfl, h.keep Keep.rf⟩
theorem CW_wed {m : Int} {w : Int → Int} {σ : Sg} {b : Nat} (h : CW m w σ b) {p v : Int} (hp : isP w p) (hv : v = -1 ∨ isP w v) : CW m (upz w (68 + p) v) (wr σ (b + 8) p v) b := by
  have h12 := h.1.1.2.2.2.2.2.1
  have p0 := hp.1
  have p1 := hp.2
  have hvb : bw v = v := by
    rcases hv with rfl | ⟨v0, v1⟩
    · rfl
    · exact bw_id (by omega) (by omega)
  have lo : ∀ j : Int, j ≠ 68 + p → upz w (68 + p) v j = w j := fun j hj => upz_n hj
  refine CG_dyn h (fun j hj => lo j (by omega)) (fun i i0 i1 i8 i25 i26 j => ?_) (fun i i0 i4 => rq_c (by omega)) (by rw [lo 0 (by omega)]; exact h.1.1.2.2.2.2.2.2.1) (by rw [lo 1 (by omega)]; exact h.1.1.2.2.2.2.2.2.2.1) (by rw [lo 3 (by omega)]; exact h.1.1.2.2.2.2.2.2.2.2) (fun f hf => ?_) (fun r hr => ?_) ?_ ?_ ?_ (fun f hf => ?_) (fun f a1 a2 => ?_) (fun r hr => ?_) ?_
  · unfold vw
    split
    · rfl
    · exact rq_c (by omega)
  · have hfb := isF_b hf
    rw [lo (4 + f) (by omega)]
    exact h.1.2.1 f hf
  · by_cases e : r = p
    · rw [e, upz_s]; exact hv
    · rw [lo (68 + r) (by omega)]
      exact (h.1.2.2.1 r hr).2.2.2.2.1
  · rw [lo 1 (by omega)]; exact (rq_c (by omega)).trans h.2.1.2.2.2.2.2.1
  · rw [lo 0 (by omega)]; exact (rq_c (by omega)).trans h.2.1.2.2.2.2.2.2.1
  · rw [lo 2 (by omega)]; exact (rq_c (by omega)).trans h.2.1.2.2.2.2.2.2.2
  · have hfb := isF_b hf
    rw [lo (4 + f) (by omega)]
    exact (rq_c (by omega)).trans (h.2.2.1.1 f hf)
  · have h3 : 0 ≤ rd σ (b + 1) f ∧ rd σ (b + 1) f ≤ 99 := h.2.2.1.2 f a1 a2
    show 0 ≤ rd (wr σ (b + 8) p v) (b + 1) f ∧ rd (wr σ (b + 8) p v) (b + 1) f ≤ 99
    rw [rq_c (by omega)]
    exact h3
  · show rd (wr σ (b + 8) p v) (b + 8) r = _
    by_cases e : r = p
    · rw [e, upz_s, rq_s, hvb]
    · rw [lo (68 + r) (by omega), rq_i e]
      exact (h.2.2.2.1.2 r hr).2.2.2.2.1
  · exact RB_congr h.2.2.2.2.2.1 (lo 3 (by omega)) h.1.1.2.2.2.2.2.2.2.2.2 (fun j a1 a2 => lo j (by omega)) (fun i => rq_c (by omega)) (fun i => rq_c (by omega))
theorem KS_dyn {w w' : Int → Int} (h : KS w) (h12 : w 85 ≤ 12) (hw : ∀ j : Int, 80 ≤ j → j < 311 → w' j = w j) : KS w' := KS_congr h (hw 85 (by omega) (by omega)) (fun j j0 j1 => hw j (by omega) (by omega)) h12
theorem fr5 {σ τ : Sg} (h : Fr [55, 56, 57, 58] σ τ) {m : Int} {w : Int → Int} (hC : CW m w σ 1) : CW m w τ 1 := hC.fr h (by decide)
theorem nb_pot {N : Nat} {w w' : Int → Int} (hN : N ≤ 511) (h : w 1 ≤ nbN N) (hp : pot w' ≤ pot w) : w' 1 ≤ nbN (N + 1) ∧ pot w ≤ 700000000 := by
  have f1 := frN_r w
  have f2 := frN_r w'
  unfold pot nbN at *
  constructor <;> omega
theorem pot_b {N : Nat} {w : Int → Int} (hN : N ≤ 511) (h : w 1 ≤ nbN N) : pot w ≤ 700000000 := (nb_pot hN h (Int.le_refl _)).2
theorem op_vow {has : Bool} {N : Nat} (hN : N ≤ 511) (x1 x2 x3 : Int) (h1 : bw x1 = x1) (h2 : bw x2 = x2) (h3 : bw x3 = x3) : OpE has N (fX10_vow x1 x2 x3) (fX11_vow x1 x2 x3) := by
  intro σ h
  have hC := h.1
  have hW := hC.1
  have hL := hC.2.2.2.2.2.2
  have h12 := hW.1.2.2.2.2.2.1
  have hb3 := hW.1.2.2.2.2.2.2.2.2
  obtain ⟨n, E, p1, p2, p3⟩ := PR_to h12.2 h.2.2.2.2.1
  have hcw : fX1_canWed 4 x1 x2 σ = some (if (isP (rd σ 85) x1 ∧ isP (rd σ 85) x2 ∧ rd σ 85 (91 + x1) ≠ rd σ 85 (91 + x2)) ∧ rd σ 85 (68 + x1) = -1 ∧ rd σ 85 (68 + x2) = -1 then 1 else 0) := canWed_c hC x1 x2
  by_cases hc : ((isP (rd σ 85) x1 ∧ isP (rd σ 85) x2 ∧ rd σ 85 (91 + x1) ≠ rd σ 85 (91 + x2)) ∧ rd σ 85 (68 + x1) = -1 ∧ rd σ 85 (68 + x2) = -1) ∧ isF (rd σ 85) x3
  · obtain ⟨⟨⟨c1, c2, c3⟩, c4, c5⟩, c6⟩ := hc
    have hp := vowW_pot (t := 150) (x := x3) hW c1 c2 c4
    have hpb := nb_pot hN h.2.2.1 hp.1
    have hw1 : rd σ 85 1 ≤ 900000000 := by have := h.2.2.1; unfold nbN at this; omega
    have hlo : ∀ j : Int, (80 ≤ j ∧ j < 311) ∨ 911 ≤ j ∨ j = 0 ∨ j = 2 → vowW 150 (rd σ 85) x1 x2 x3 j = rd σ 85 j := fun j hj => vowW_lo hW c1 c2 hj
    have h33 : rd σ 85 3 ≤ vowW 150 (rd σ 85) x1 x2 x3 3 := by
      have e1 := c1.1
      have e2 := c2.1
      have u3 := vow0W_lo hW (p := x1) (q := x2) (x := x3) 3 (by omega) (by omega)
      unfold vowW
      rw [upz_n (by omega), upz_n (by omega)]
      by_cases z : (150 : Int) = 0 ∨ vow0W (rd σ 85) x1 x2 x3 3 = 150
      · unfold noteW; rw [if_pos z]; omega
      · rw [noteW_at3 z]; omega
    refine opE_past (v := foundW (rd σ 85) x1 x2) (w' := vowW 150 (rd σ 85) x1 x2 x3) (n' := pn n) (E' := pE n E (rd σ 85)) h (hlo 80 (by omega)) (hlo 81 (by omega)) (hlo 85 (by omega)) (by rw [hlo 0 (by omega)]; exact h.2.1) hpb.1 (KS_dyn h.2.2.2.1 h12.2 (fun j j0 j1 => hlo j (by omega))) (PX_push hW p3 nbN_le h.2.1 (nb_ok h.2.2.1) h33 (hlo 80 (by omega)) (hlo 81 (by omega)) (hlo 85 (by omega))) ?_ (fun τ hτ => ?_)
    · unfold fX10_vow
      rw [hasField_c hC, if_pos c6, if_neg n10, hcw, if_pos ⟨⟨c1, c2, c3⟩, c4, c5⟩, wp_bind, wp_some, if_neg n10, wp_bind]
      refine wp_mono (pkeep_c hC p1) (fun s hs => ?_)
      rw [wp_bind]
      refine wp_mono (makeVow_c (Or.inl ⟨rfl, rfl⟩) (fr5 hs.2 hC) c1 c2 c6 hw1) (fun q hq => ?_)
      rw [wp_some]
      refine ⟨hq.1, hq.2.1, PC_w hs.1 rfl rfl rfl (fun c a b => funext fun i => hq.2.2 c i (by
        have : c = 55 ∨ c = 56 ∨ c = 57 ∨ c = 58 := by omega
        rcases this with rfl | rfl | rfl | rfl <;> decide)), (hs.2.mo (by decide)).tr (hq.2.2.mo (by decide))⟩
    · have e85 := hτ 85 (by omega) (by omega)
      unfold fX11_vow
      rw [canVow_m hW e85, if_pos ⟨⟨c1, c2, c3⟩, ⟨c4, c5⟩, c6⟩, wp_bind, wp_some, if_neg n10, wp_bind]
      refine wp_mono (pkeep_m e85 (PM_w p2 (congrFun (hτ 84 (by omega) (by omega)) 4) (hτ 87 (by omega) (by omega)))) (fun s hs => ?_)
      have s85 : rd (wr s 84 26 1) 85 = rd σ 85 := by rw [wr_off _ _ (by decide)]; exact (funext fun i => hs.2.1 85 i (by decide)).trans e85
      rw [wp_bind]
      refine wp_mono (vows_m hW hL s85 c1 c2 c6 hw1) (fun q hq => ?_)
      rw [wp_some]
      have e26 : rd (wr s 84 26 1) 84 26 = 1 := rq_s
      refine ⟨hq.1, ?_, PM_w hs.1 ?_ ?_, fun i i4 i26 i28 => ?_, ((hs.2.1.mo (by decide)).wr (by decide)).tr (hq.2.2.mo (by decide))⟩
      · rw [hq.2.1, e26]; exact vowW_t (by decide) _ _ _ _
      · rw [hq.2.2 84 4 (by decide), rq_i (by decide)]
      · funext i
        rw [hq.2.2 87 i (by decide), rq_c (by decide)]
      · rw [hq.2.2 84 i (by decide), rq_i i26]; exact hs.2.2 i i4
  · refine opE_no (v := -1) h ?_ ?_
    · unfold fX10_vow
      rw [hasField_c hC]
      by_cases f : isF (rd σ 85) x3
      · rw [if_pos f, if_neg n10, hcw, if_neg (fun z => hc ⟨z, f⟩)]
        rfl
      · rw [if_neg f, if_pos p00]
    · unfold fX11_vow
      rw [canVow_m hW rfl, if_neg (fun z => hc ⟨⟨z.1, z.2.1⟩, z.2.2⟩)]
      rfl
theorem op_sweep {has : Bool} {N : Nat} (hN : N ≤ 511) (x1 : Int) (h1 : bw x1 = x1) : OpE has N (fX10_sweep x1) (fX11_sweep x1) := by
  intro σ h
  have hC := h.1
  have hW := hC.1
  have h12 := hW.1.2.2.2.2.2.1
  have hb3 := hW.1.2.2.2.2.2.2.2.2
  have hd0 := hW.1.2.2.2.2.2.2.1
  obtain ⟨n, E, p1, p2, p3⟩ := PR_to h12.2 h.2.2.2.2.1
  by_cases f : isF (rd σ 85) x1
  · have fb := isF_b f
    have hs1 := hW.2.1 x1 f
    have hu : ∀ j : Int, j ≠ 4 + x1 → upz (rd σ 85) (4 + x1) 0 j = rd σ 85 j := fun j hj => upz_n hj
    have u3 := hu 3 (by omega)
    have hlo : ∀ j : Int, j ≠ 3 → j ≠ 4 + x1 → j < 311 ∨ 911 ≤ j → noteW 150 (upz (rd σ 85) (4 + x1) 0) 6 x1 (rd σ 85 (4 + x1)) j = rd σ 85 j := fun j a b c => by
      rw [noteW_lo (by omega) c (by omega) a]; exact hu j b
    have h33 : rd σ 85 3 ≤ noteW 150 (upz (rd σ 85) (4 + x1) 0) 6 x1 (rd σ 85 (4 + x1)) 3 := by
      by_cases z : (150 : Int) = 0 ∨ upz (rd σ 85) (4 + x1) 0 3 = 150
      · unfold noteW; rw [if_pos z]; omega
      · rw [noteW_at3 z]; omega
    refine opE_past (v := rd σ 85 (4 + x1)) (w' := noteW 150 (upz (rd σ 85) (4 + x1) 0) 6 x1 (rd σ 85 (4 + x1))) (n' := pn n) (E' := pE n E (rd σ 85)) h (hlo 80 (by omega) (by omega) (by omega)) (hlo 81 (by omega) (by omega) (by omega)) (hlo 85 (by omega) (by omega) (by omega)) (by rw [hlo 0 (by omega) (by omega) (by omega)]; exact h.2.1) (by rw [hlo 1 (by omega) (by omega) (by omega)]; exact nb_ok h.2.2.1) (KS_dyn h.2.2.2.1 h12.2 (fun j j0 j1 => hlo j (by omega) (by omega) (by omega))) (PX_push hW p3 nbN_le h.2.1 (nb_ok h.2.2.1) h33 (hlo 80 (by omega) (by omega) (by omega)) (hlo 81 (by omega) (by omega) (by omega)) (hlo 85 (by omega) (by omega) (by omega))) ?_ (fun τ hτ => ?_)
    · unfold fX10_sweep
      rw [hasField_c hC, if_pos f, if_neg n10, wp_bind]
      refine wp_mono (pkeep_c hC p1) (fun s hs => ?_)
      have hCs := fr5 hs.2 hC
      have es : rd s 2 x1 = rd σ 85 (4 + x1) := hCs.2.2.1.1 x1 f
      rw [grd_pos fb, grd_pos fb, es, wp_bind]
      refine wp_mono (CW_note (Or.inl ⟨rfl, rfl⟩) (CW_snow hCs f (by omega : (0 : Int) ≤ 0 ∧ (0 : Int) ≤ 99)) (x := 6) rfl h1 (bw_id (by omega) (by omega))) (fun q hq => ?_)
      rw [wp_some]
      refine ⟨rfl, hq.1, PC_w hs.1 rfl rfl rfl (fun c a b => funext fun i => ?_), ((hs.2.mo (by decide)).wr (by decide)).tr (hq.2.mo (by decide))⟩
      have hc4 : c = 55 ∨ c = 56 ∨ c = 57 ∨ c = 58 := by omega
      rw [hq.2 c i (by rcases hc4 with rfl | rfl | rfl | rfl <;> decide), rq_c (by omega)]
    · have e85 := hτ 85 (by omega) (by omega)
      unfold fX11_sweep
      rw [isField_m hW e85, if_pos f, if_neg n10, wp_bind]
      refine wp_mono (pkeep_m e85 (PM_w p2 (congrFun (hτ 84 (by omega) (by omega)) 4) (hτ 87 (by omega) (by omega)))) (fun s hs => ?_)
      have s85 : rd (wr s 84 26 1) 85 = rd σ 85 := by rw [wr_off _ _ (by decide)]; exact (funext fun i => hs.2.1 85 i (by decide)).trans e85
      have hrow : rd (wr (wr s 84 26 1) 85 (4 + x1) 0) 85 = upz (rd σ 85) (4 + x1) 0 := by rw [wr_row, s85]; rfl
      rw [bw_id (z := 4 + x1) (by omega) (by omega), grd_pos (by omega), grd_pos (by omega), s85, wp_bind]
      refine wp_mono (notes_m hrow (by omega) (by rw [hu 0 (by omega)]; exact bw_id (by omega) (by omega)) (x := 6) rfl h1 (bw_id (by omega) (by omega))) (fun q hq => ?_)
      rw [wp_some]
      have e26 : rd (wr (wr s 84 26 1) 85 (4 + x1) 0) 84 26 = 1 := (rq_c (by decide)).trans rq_s
      refine ⟨rfl, ?_, PM_w hs.1 ?_ ?_, fun i i4 i26 i28 => ?_, (((hs.2.1.mo (by decide)).wr (by decide)).wr (by decide)).tr (hq.2.mo (by decide))⟩
      · rw [hq.1, e26]; exact noteW_t (by decide) _ _ _ _
      · rw [hq.2 84 4 (by decide), rq_c (by decide), rq_i (by decide)]
      · funext i
        rw [hq.2 87 i (by decide), rq_c (by decide), rq_c (by decide)]
      · rw [hq.2 84 i (by decide), rq_c (by decide), rq_i i26]; exact hs.2.2 i i4
  · refine opE_no (v := -1) h ?_ ?_
    · unfold fX10_sweep
      rw [hasField_c hC, if_neg f, if_pos p00]
    · unfold fX11_sweep
      rw [isField_m hW rfl, if_neg f, if_pos p00]
theorem op_part {has : Bool} {N : Nat} (hN : N ≤ 511) (x1 x2 : Int) (h1 : bw x1 = x1) (h2 : bw x2 = x2) : OpE has N (fX10_part x1 x2) (fX11_part x1 x2) := by
  intro σ h
  have hC := h.1
  have hW := hC.1
  have h12 := hW.1.2.2.2.2.2.1
  have hb3 := hW.1.2.2.2.2.2.2.2.2
  have hd0 := hW.1.2.2.2.2.2.2.1
  obtain ⟨n, E, p1, p2, p3⟩ := PR_to h12.2 h.2.2.2.2.1
  have har : fX1_areTwo 4 x1 x2 σ = if isP (rd σ 85) x1 ∧ isP (rd σ 85) x2 ∧ x1 ≠ x2 then 1 else 0 := areTwo_c hC x1 x2
  by_cases hc : (isP (rd σ 85) x1 ∧ isP (rd σ 85) x2 ∧ x1 ≠ x2) ∧ rd σ 85 (68 + x1) = x2
  · obtain ⟨⟨c1, c2, c3⟩, c4⟩ := hc
    have a0 := c1.1
    have a1 := c1.2
    have b0 := c2.1
    have b1 := c2.2
    have hu : ∀ j : Int, j ≠ 68 + x1 → j ≠ 68 + x2 → upz (upz (rd σ 85) (68 + x1) (-1)) (68 + x2) (-1) j = rd σ 85 j := fun j a b => by rw [upz_n b, upz_n a]
    have u3 := hu 3 (by omega) (by omega)
    have hlo : ∀ j : Int, j ≠ 3 → j ≠ 68 + x1 → j ≠ 68 + x2 → j < 311 ∨ 911 ≤ j → noteW 150 (upz (upz (rd σ 85) (68 + x1) (-1)) (68 + x2) (-1)) 5 (min x1 x2) 0 j = rd σ 85 j := fun j a b c d => by
      rw [noteW_lo (by omega) d (by omega) a]; exact hu j b c
    have h33 : rd σ 85 3 ≤ noteW 150 (upz (upz (rd σ 85) (68 + x1) (-1)) (68 + x2) (-1)) 5 (min x1 x2) 0 3 := by
      by_cases z : (150 : Int) = 0 ∨ upz (upz (rd σ 85) (68 + x1) (-1)) (68 + x2) (-1) 3 = 150
      · unfold noteW; rw [if_pos z]; omega
      · rw [noteW_at3 z]; omega
    have hs : ∀ j : Int, 80 ≤ j → j < 311 → noteW 150 (upz (upz (rd σ 85) (68 + x1) (-1)) (68 + x2) (-1)) 5 (min x1 x2) 0 j = rd σ 85 j := fun j j0 j1 => hlo j (by omega) (by omega) (by omega) (by omega)
    refine opE_past (v := 1) (w' := noteW 150 (upz (upz (rd σ 85) (68 + x1) (-1)) (68 + x2) (-1)) 5 (min x1 x2) 0) (n' := pn n) (E' := pE n E (rd σ 85)) h (hs 80 (by omega) (by omega)) (hs 81 (by omega) (by omega)) (hs 85 (by omega) (by omega)) (by rw [hlo 0 (by omega) (by omega) (by omega) (by omega)]; exact h.2.1) (by rw [hlo 1 (by omega) (by omega) (by omega) (by omega)]; exact nb_ok h.2.2.1) (KS_dyn h.2.2.2.1 h12.2 hs) (PX_push hW p3 nbN_le h.2.1 (nb_ok h.2.2.1) h33 (hs 80 (by omega) (by omega)) (hs 81 (by omega) (by omega)) (hs 85 (by omega) (by omega))) ?_ (fun τ hτ => ?_)
    · have e9 : rd σ 9 x1 = rd σ 85 (68 + x1) := (hC.2.2.2.1.2 x1 c1).2.2.2.2.1
      unfold fX10_part
      rw [har, if_pos (show isP (rd σ 85) x1 ∧ isP (rd σ 85) x2 ∧ x1 ≠ x2 from ⟨c1, c2, c3⟩), if_neg n10, grd_pos (by omega), e9, if_pos c4, wp_bind]
      refine wp_mono (pkeep_c hC p1) (fun s hs => ?_)
      have hCs := fr5 hs.2 hC
      rw [grd_pos (by omega), grd_pos (by omega), min_eq, wp_bind]
      have hC2 : CW 150 (upz (upz (rd σ 85) (68 + x1) (-1)) (68 + x2) (-1)) (wr (wr s 9 x1 (-1)) 9 x2 (-1)) 1 := CW_wed (CW_wed hCs c1 (Or.inl rfl)) (by unfold isP; rw [upz_n (by omega)]; exact c2) (Or.inl rfl)
      refine wp_mono (CW_note (Or.inl ⟨rfl, rfl⟩) hC2 (x := 5) (z := 0) rfl (bw_id (z := min x1 x2) (by omega) (by omega)) rfl) (fun q hq => ?_)
      rw [wp_some]
      refine ⟨rfl, hq.1, PC_w hs.1 rfl rfl rfl (fun c a b => funext fun i => ?_), (((hs.2.mo (by decide)).wr (by decide)).wr (by decide)).tr (hq.2.mo (by decide))⟩
      have hc4 : c = 55 ∨ c = 56 ∨ c = 57 ∨ c = 58 := by omega
      rw [hq.2 c i (by rcases hc4 with rfl | rfl | rfl | rfl <;> decide), rq_c (by omega), rq_c (by omega)]
    · have e85 := hτ 85 (by omega) (by omega)
      unfold fX11_part
      rw [isPerson_m hW e85, isPerson_m hW e85, if_pos c1, if_neg n10, if_pos c2, if_neg n10, if_neg c3, bw_id (z := 68 + x1) (by omega) (by omega), bw_id (z := 68 + x2) (by omega) (by omega), grd_pos (by omega), e85, if_pos c4, wp_bind]
      refine wp_mono (pkeep_m e85 (PM_w p2 (congrFun (hτ 84 (by omega) (by omega)) 4) (hτ 87 (by omega) (by omega)))) (fun s hs => ?_)
      have s85 : rd (wr s 84 26 1) 85 = rd σ 85 := by rw [wr_off _ _ (by decide)]; exact (funext fun i => hs.2.1 85 i (by decide)).trans e85
      have hrow : rd (wr (wr (wr s 84 26 1) 85 (68 + x1) (-1)) 85 (68 + x2) (-1)) 85 = upz (upz (rd σ 85) (68 + x1) (-1)) (68 + x2) (-1) := by rw [wr_row, wr_row, s85]; rfl
      rw [grd_pos (by omega), grd_pos (by omega), les_eq, wp_bind]
      refine wp_mono (notes_m hrow (by omega) (by rw [hu 0 (by omega) (by omega)]; exact bw_id (by omega) (by omega)) (x := 5) (z := 0) rfl (bw_id (z := min x1 x2) (by omega) (by omega)) rfl) (fun q hq => ?_)
      rw [wp_some]
      have e26 : rd (wr (wr (wr s 84 26 1) 85 (68 + x1) (-1)) 85 (68 + x2) (-1)) 84 26 = 1 := (rq_c (by decide)).trans ((rq_c (by decide)).trans rq_s)
      refine ⟨rfl, ?_, PM_w hs.1 ?_ ?_, fun i i4 i26 i28 => ?_, ((((hs.2.1.mo (by decide)).wr (by decide)).wr (by decide)).wr (by decide)).tr (hq.2.mo (by decide))⟩
      · rw [hq.1, e26]; exact noteW_t (by decide) _ _ _ _
      · rw [hq.2 84 4 (by decide), rq_c (by decide), rq_c (by decide), rq_i (by decide)]
      · funext i
        rw [hq.2 87 i (by decide), rq_c (by decide), rq_c (by decide), rq_c (by decide)]
      · rw [hq.2 84 i (by decide), rq_c (by decide), rq_c (by decide), rq_i i26]; exact hs.2.2 i i4
  · refine opE_no (v := 0) h ?_ ?_
    · unfold fX10_part
      rw [har]
      by_cases ht : isP (rd σ 85) x1 ∧ isP (rd σ 85) x2 ∧ x1 ≠ x2
      · have a0 := ht.1.1
        have a1 := ht.1.2
        have e9 : rd σ 9 x1 = rd σ 85 (68 + x1) := (hC.2.2.2.1.2 x1 ht.1).2.2.2.2.1
        rw [if_pos ht, if_neg n10, grd_pos (by omega), e9, if_neg (fun z => hc ⟨ht, z⟩)]
      · rw [if_neg ht, if_pos p00]
    · unfold fX11_part
      rw [isPerson_m hW rfl, isPerson_m hW rfl]
      by_cases q1 : isP (rd σ 85) x1
      · by_cases q2 : isP (rd σ 85) x2
        · by_cases q3 : x1 = x2
          · rw [if_pos q1, if_neg n10, if_pos q2, if_neg n10, if_pos q3]
          · have a0 := q1.1
            have a1 := q1.2
            rw [if_pos q1, if_neg n10, if_pos q2, if_neg n10, if_neg q3, bw_id (z := 68 + x1) (by omega) (by omega), grd_pos (by omega), if_neg (fun z => hc ⟨⟨q1, q2, q3⟩, z⟩)]
        · rw [if_pos q1, if_neg n10, if_neg q2, if_pos p00]
      · rw [if_neg q1, if_pos p00]
