/-! the model's VOW -/
section MVow
variable {w : Int → Int} {σ : Sg} {g : Nat → Int → Int} {p q x : Int}
theorem lifts_m (hW : Wf w) (hL : LR w g) (hw : rd σ 85 = w) (hp : isP w p) (hq : isP w q) (hx : isF w x) {k : Int} (hk : k = 1 ∨ k = 2) {l : Int → Int} (hl : ∀ c, l c = if isF w c then min (w (4 + c)) (askW w p q x c / k) else 0) (hlr : ∀ c, 0 ≤ l c ∧ l c ≤ 99) : wp (fX11_lifts p q x k σ) (fun r => r.1 = sumN l 64 ∧ Fr [93, 94, 95] σ r.2 ∧ ∀ c : Int, 0 ≤ c → c < 64 → rd r.2 95 c = l c) := by
  unfold fX11_lifts
  refine loopM (F := fun n (s : Int × Int × Sg) => fX11_lifts_L6 p q x k n s.1 s.2.1 s.2.2) (fun s : Int × Int × Sg => (0 ≤ s.2.1 ∧ s.2.1 ≤ 64) ∧ s.1 = sumN l s.2.1.toNat ∧ Fr [93, 94, 95] σ s.2.2 ∧ ∀ c : Int, 0 ≤ c → c < s.2.1 → rd s.2.2 95 c = l c) (fun s => (64 - s.2.1).toNat) ?_ FU (0, 0, σ) (by unfold FU; simp only; omega) ⟨by simp only; omega, rfl, Fr.rf, fun j h1 h2 => absurd h2 (by simp only; omega)⟩
  rintro n ⟨v, i, τ⟩ ⟨hi, hv, hF, hz⟩ ih
  show wp (fX11_lifts_L6 p q x k (n + 1) v i τ) _
  simp only at hi hv hF hz
  have e85 : rd τ 85 = w := (funext fun j => hF 85 j (by decide)).trans hw
  rw [fX11_lifts_L6]
  by_cases h64 : i < 64
  · have hsr := sumN_r (f := l) (k := 99) (fun i _ => hlr i) i.toNat
    have hv2 : 0 ≤ v ∧ v ≤ 6336 := by rw [hv]; omega
    have hli := hlr i
    have hS : sumN l (i + 1).toNat = v + l i := by rw [show (i + 1).toNat = i.toNat + 1 by omega, sumN, ← hv, show ((i.toNat : Nat) : Int) = i by omega]
    rw [if_pos h64, isField_m hW e85, bw_id (z := i + 1) (by omega) (by omega)]
    by_cases hf : isF w i
    · have hwi := hW.2.1 i hf
      have har := askW_r w p q x i
      rw [if_pos hf, if_neg (by decide), bw_id (z := 4 + i) (by omega) (by omega), grd_pos (by omega), wp_bind]
      refine wp_mono (liftOf_m hW hL e85 hp hq hx hf) (fun r hr => ?_)
      have ha : r.1 = askW w p q x i := by rw [hr.1, askW, if_pos hf]
      have hm : fX11_lesser (rd τ 85 (4 + i)) (tdv r.1 k) = l i := by
        rw [les_eq, ha, e85, hl i, if_pos hf, tdv_pos (by omega) (by omega) (by omega) (by omega)]
      rw [hm, grd_pos (by omega), grd_pos (by omega), grd_pos (by omega), rq_s, bw_id (z := l i) (by omega) (by omega), bw_id (z := v + l i) (by omega) (by omega)]
      refine ih (v + l i, i + 1, wr r.2 95 i (l i)) ⟨by simp only; omega, hS.symm, (hF.tr (hr.2.mo (by decide))).wr (by decide), fun c h1 h2 => ?_⟩ (by simp only; omega)
      have h2 : c < i + 1 := h2
      show rd (wr r.2 95 i (l i)) 95 c = l c
      rw [rd_wr]
      by_cases e : c = i
      · subst e
        rw [if_pos ⟨rfl, rfl⟩, bw_id (by omega) (by omega)]
      · rw [if_neg (fun z => e z.2), hr.2 95 c (by decide)]
        exact hz c h1 (by omega)
    · have hl0 : l i = 0 := by rw [hl i, if_neg hf]
      rw [if_neg hf, if_pos rfl, grd_pos (by omega), grd_pos (by omega), rq_s, show bw 0 = 0 from rfl, bw_id (z := v + 0) (by omega) (by omega)]
      refine ih (v + 0, i + 1, wr τ 95 i 0) ⟨by simp only; omega, by rw [hl0] at hS; exact hS.symm, hF.wr (by decide), fun c h1 h2 => ?_⟩ (by simp only; omega)
      have h2 : c < i + 1 := h2
      show rd (wr τ 95 i 0) 95 c = l c
      rw [rd_wr]
      by_cases e : c = i
      · subst e
        rw [if_pos ⟨rfl, rfl⟩, hl0]
        rfl
      · rw [if_neg (fun z => e z.2)]
        exact hz c h1 (by omega)
  · rw [if_neg h64, wp_some]
    refine ⟨?_, hF, fun c h1 h2 => hz c h1 (by omega)⟩
    rw [hv, show i.toNat = 64 by omega]
theorem rises_m (hW : Wf w) (hL : LR w g) (hw : rd σ 85 = w) (hp : isP w p) (hq : isP w q) (hx : isF w x) (hn1 : w 1 ≤ 900000000) : wp (fX11_rises p q x σ) (fun r => r.1 = sumN (upW w p q x) 64 ∧ rd r.2 85 = riseW w p q x ∧ Fr [85, 93, 94, 95] σ r.2) := by
  have hw1 := hW.1.2.2.2.2.2.2.2.1
  have hu := upW_r hW p q x
  have hsm := sumN_r (f := upW w p q x) (k := 99) (fun i _ => ⟨(hu i).1, (hu i).2.1⟩) 64
  unfold fX11_rises
  rw [wp_bind]
  refine wp_mono (lifts_m hW hL hw hp hq hx (k := 1) (Or.inl rfl) (l := upW w p q x) (fun c => by rw [upW, Int.ediv_one]) (fun c => ⟨(hu c).1, (hu c).2.1⟩)) (fun r hr => ?_)
  obtain ⟨k1, k2, k3⟩ := hr
  have e85 : rd r.2 85 = w := (funext fun j => k2 85 j (by decide)).trans hw
  rw [k1]
  refine loopM (F := fun n s => fX11_rises_L13 (sumN (upW w p q x) 64) n s.1 s.2) (fun s : Int × Sg => (0 ≤ s.1 ∧ s.1 ≤ 64) ∧ Fr [85] r.2 s.2 ∧ ∀ j : Int, rd s.2 85 j = if 4 ≤ j ∧ j < 4 + s.1 then w j - upW w p q x (j - 4) else w j) (fun s => (64 - s.1).toNat) ?_ FU (0, r.2) (by unfold FU; simp only; omega) ⟨by simp only; omega, Fr.rf, fun j => by simp only; rw [if_neg (by omega), e85]⟩
  rintro n ⟨i, τ⟩ ⟨hi, hF, hz⟩ ih
  show wp (fX11_rises_L13 _ (n + 1) i τ) _
  simp only at hi hF hz
  rw [fX11_rises_L13]
  by_cases h64 : i < 64
  · have hui := hu i
    have e95 : rd τ 95 i = upW w p q x i := (hF 95 i (by decide)).trans (k3 i hi.1 h64)
    have ew : rd τ 85 (4 + i) = w (4 + i) := by rw [hz, if_neg (by omega)]
    have hnr : bw (w (4 + i) - upW w p q x i) = w (4 + i) - upW w p q x i := by
      by_cases hf : isF w i
      · have := hW.2.1 i hf
        exact bw_id (by omega) (by omega)
      · have : upW w p q x i = 0 := by rw [upW, if_neg hf]
        rw [this, Int.sub_zero, ← ew, rd_bw]
    rw [if_pos h64, bw_id (z := 4 + i) (by omega) (by omega), grd_pos (by omega), grd_pos (by omega), grd_pos (by omega), ew, e95, hnr, bw_id (z := i + 1) (by omega) (by omega)]
    refine ih (i + 1, wr τ 85 (4 + i) (w (4 + i) - upW w p q x i)) ⟨by simp only; omega, hF.wr (by decide), fun j => ?_⟩ (by simp only; omega)
    show rd (wr τ 85 (4 + i) (w (4 + i) - upW w p q x i)) 85 j = if 4 ≤ j ∧ j < 4 + (i + 1) then _ else _
    rw [wr_row, hnr]
    by_cases e : j = 4 + i
    · subst e
      rw [upz_s, if_pos (by omega), show 4 + i - 4 = i by omega]
    · rw [upz_n e, hz]
      by_cases e3 : 4 ≤ j ∧ j < 4 + i
      · rw [if_pos e3, if_pos (by omega)]
      · rw [if_neg e3, if_neg (by omega)]
  · have e1 : rd τ 85 1 = w 1 := by rw [hz, if_neg (by omega)]
    rw [if_neg h64, wp_some, e1]
    refine ⟨rfl, ?_, (k2.mo (by decide)).tr ((hF.wr (c := 85) (by decide)).mo (by decide))⟩
    rw [wr_row, bw_bw, bw_id (z := w 1 + sumN (upW w p q x) 64) (by omega) (by omega)]
    unfold riseW
    congr 1
    funext j
    rw [hz j, subW, show 4 + i = 68 by omega]
theorem drifts_m (hW : Wf w) (hL : LR w g) (hw : rd σ 85 = w) (hp : isP w p) (hq : isP w q) (hx : isF w x) (hn1 : w 1 ≤ 900000000) : wp (fX11_drifts p q x σ) (fun r => r.1 = sumN (dnW w p q x) 64 ∧ rd r.2 85 = driftW w p q x ∧ Fr [85, 93, 94, 95] σ r.2) := by
  have hw1 := hW.1.2.2.2.2.2.2.2.1
  have hu := dnW_r hW p q x
  have hz0 : ∀ c : Int, ¬ isF w c → dnW w p q x c = 0 := fun c hc => by rw [dnW, if_neg hc]
  have hR := drS_r (wind := w 82) hW hu hz0
  unfold fX11_drifts
  rw [wp_bind]
  refine wp_mono (lifts_m hW hL hw hp hq hx (k := 2) (Or.inr rfl) (l := dnW w p q x) (fun c => by rw [dnW]) (fun c => ⟨(hu c).1, (hu c).2.1⟩)) (fun r hr => ?_)
  obtain ⟨k1, k2, k3⟩ := hr
  have e85 : rd r.2 85 = w := (funext fun j => k2 85 j (by decide)).trans hw
  rw [k1]
  refine loopM (F := fun n s => fX11_drifts_L13 _ (sumN (dnW w p q x) 64) n s.1 s.2) (fun s : Int × Sg => (0 ≤ s.1 ∧ s.1 ≤ 64) ∧ Fr [85] r.2 s.2 ∧ rd s.2 85 = drS w (dnW w p q x) (w 82) s.1.toNat) (fun s => (64 - s.1).toNat) ?_ FU (0, r.2) (by unfold FU; simp only; omega) ⟨by simp only; omega, Fr.rf, e85⟩
  rintro n ⟨i, τ⟩ ⟨hi, hF, hz⟩ ih
  show wp (fX11_drifts_L13 _ _ (n + 1) i τ) _
  simp only at hi hF hz
  rw [fX11_drifts_L13]
  by_cases h64 : i < 64
  · have hui := hu i
    have hD : drS w (dnW w p q x) (w 82) (i + 1).toNat = if dnW w p q x i = 0 then drS w (dnW w p q x) (w 82) i.toNat else if goW w i (w 82) = -1 then upz (upz (drS w (dnW w p q x) (w 82) i.toNat) (4 + i) (drS w (dnW w p q x) (w 82) i.toNat (4 + i) - dnW w p q x i)) 1 (drS w (dnW w p q x) (w 82) i.toNat 1 + dnW w p q x i) else upz (upz (drS w (dnW w p q x) (w 82) i.toNat) (4 + i) (drS w (dnW w p q x) (w 82) i.toNat (4 + i) - dnW w p q x i)) (4 + goW w i (w 82)) (upz (drS w (dnW w p q x) (w 82) i.toNat) (4 + i) (drS w (dnW w p q x) (w 82) i.toNat (4 + i) - dnW w p q x i) (4 + goW w i (w 82)) + dnW w p q x i) := by
      rw [show (i + 1).toNat = i.toNat + 1 by omega, drS, show ((i.toNat : Nat) : Int) = i by omega]
    have hRi := hR i.toNat (by omega)
    have hlo : ∀ j : Int, j ≠ 1 → ¬ isF w (j - 4) → drS w (dnW w p q x) (w 82) i.toNat j = w j := fun j a1 a2 => drS_lo hW i.toNat (by omega) hz0 j a1 a2
    generalize hu0 : drS w (dnW w p q x) (w 82) i.toNat = u at hz hD hRi hlo
    have e95 : ∀ v : Int, rd (wr τ 85 (4 + i) v) 95 i = dnW w p q x i := fun v => (rq_c (by decide)).trans ((hF 95 i (by decide)).trans (k3 i hi.1 h64))
    have e95' : rd τ 95 i = dnW w p q x i := (hF 95 i (by decide)).trans (k3 i hi.1 h64)
    have hun : bw (u (4 + i)) = u (4 + i) := by rw [← hz, rd_bw]
    rw [if_pos h64, bw_id (z := 4 + i) (by omega) (by omega), grd_pos (by omega), grd_pos (by omega), grd_pos (by omega), grd_pos (by omega), bw_id (z := i + 1) (by omega) (by omega), e95, e95', hz]
    by_cases hz1 : dnW w p q x i = 0
    · rw [if_pos hz1, hz1, Int.sub_zero, hun]
      rw [if_pos hz1] at hD
      refine ih (i + 1, wr τ 85 (4 + i) (u (4 + i))) ⟨by simp only; omega, hF.wr (by decide), ?_⟩ (by simp only; omega)
      show rd (wr τ 85 (4 + i) (u (4 + i))) 85 = drS w (dnW w p q x) (w 82) (i + 1).toNat
      rw [wr_row, hz, hun, upz_self, hD]
    · rw [if_neg hz1]
      rw [if_neg hz1] at hD
      have hFi : isF w i := Decidable.not_not.mp (fun z => hz1 (hz0 i z))
      have hui2 := hui.2.2 hFi
      have hri := hRi.1 i hFi
      have hbu : bw (u (4 + i) - dnW w p q x i) = u (4 + i) - dnW w p q x i := bw_id (by omega) (by omega)
      have e82 : upz u (4 + i) (u (4 + i) - dnW w p q x i) 82 = w 82 := by rw [upz_n (by omega)]; exact hlo 82 (by decide) (fun z => by have := isF_b z; omega)
      have hrow : rd (wr τ 85 (4 + i) (u (4 + i) - dnW w p q x i)) 85 = upz u (4 + i) (u (4 + i) - dnW w p q x i) := by rw [wr_row, hz, hbu]
      have hst : ∀ j : Int, 80 ≤ j → upz u (4 + i) (u (4 + i) - dnW w p q x i) j = w j := fun j hj => by rw [upz_n (by omega)]; exact hlo j (by omega) (fun z => by have := isF_b z; omega)
      have hgo : ∀ way, fX11_wentTo i way (wr τ 85 (4 + i) (u (4 + i) - dnW w p q x i)) = goW w i way := by
        intro way
        have on : ∀ a c : Int, fX11_isOn a c (wr τ 85 (4 + i) (u (4 + i) - dnW w p q x i)) = fX11_isOn a c r.2 := by
          intro a c
          unfold fX11_isOn
          rw [hrow, e85, hst 80 (by decide), hst 81 (by decide)]
        have : fX11_wentTo i way (wr τ 85 (4 + i) (u (4 + i) - dnW w p q x i)) = fX11_wentTo i way r.2 := by
          unfold fX11_wentTo fX11_wentTo_J23 fX11_wentTo_J47
          simp only [on]
        rw [this]
        exact wentTo_m way hW e85 (by omega)
      rw [hbu, hrow, e82, hgo]
      by_cases hg1 : goW w i (w 82) = -1
      · rw [if_pos hg1, grd_pos (by omega)]
        rw [if_pos hg1] at hD
        refine ih (i + 1, _) ⟨by simp only; omega, (hF.wr (c := 85) (by decide)).wr (c := 85) (by decide), ?_⟩ (by simp only; omega)
        show rd (wr (wr τ 85 (4 + i) (u (4 + i) - dnW w p q x i)) 85 1 _) 85 = drS w (dnW w p q x) (w 82) (i + 1).toNat
        rw [wr_row, hrow, hD, bw_bw, upz_n (by omega), bw_id (z := u 1 + dnW w p q x i) (by omega) (by omega)]
      · rw [if_neg hg1]
        rw [if_neg hg1] at hD
        have hGF := (goW_F hW.1.1.2 hW.1.2.1.2 i (w 82)).resolve_left hg1
        have hGb := isF_b hGF
        have hrg := hRi.1 _ hGF
        rw [bw_id (z := 4 + goW w i (w 82)) (by omega) (by omega), grd_pos (by omega), grd_pos (by omega), grd_pos (by omega)]
        refine ih (i + 1, _) ⟨by simp only; omega, (hF.wr (c := 85) (by decide)).wr (c := 85) (by decide), ?_⟩ (by simp only; omega)
        show rd (wr (wr τ 85 (4 + i) (u (4 + i) - dnW w p q x i)) 85 (4 + goW w i (w 82)) _) 85 = drS w (dnW w p q x) (w 82) (i + 1).toNat
        have hub : upz u (4 + i) (u (4 + i) - dnW w p q x i) (4 + goW w i (w 82)) ≤ 6536 ∧ 0 ≤ upz u (4 + i) (u (4 + i) - dnW w p q x i) (4 + goW w i (w 82)) := by
          by_cases e : goW w i (w 82) = i
          · rw [e, upz_s]; omega
          · rw [upz_n (by omega)]; omega
        rw [wr_row, hrow, hD, bw_bw, bw_id (z := upz u (4 + i) (u (4 + i) - dnW w p q x i) (4 + goW w i (w 82)) + dnW w p q x i) (by omega) (by omega)]
  · rw [if_neg h64]
    have hi64 : i.toNat = 64 := by omega
    rw [hi64] at hz
    generalize hu0 : drS w (dnW w p q x) (w 82) 64 = u at hz
    clear ih
    refine loopM (F := fun n s => fX11_drifts_L105 (sumN (dnW w p q x) 64) n s.1 s.2) (fun s : Int × Sg => (0 ≤ s.1 ∧ s.1 ≤ 64) ∧ Fr [85] τ s.2 ∧ ∀ j : Int, rd s.2 85 j = if 4 ≤ j ∧ j < 4 + s.1 then min 99 (u j) else u j) (fun s => (64 - s.1).toNat) ?_ FU (0, τ) (by unfold FU; simp only; omega) ⟨by simp only; omega, Fr.rf, fun j => by simp only; rw [if_neg (by omega), hz]⟩
    rintro n ⟨i, κ⟩ ⟨hi, hK, hy⟩ ih
    show wp (fX11_drifts_L105 _ (n + 1) i κ) _
    simp only at hi hK hy
    rw [fX11_drifts_L105]
    by_cases h64 : i < 64
    · have ew : rd κ 85 (4 + i) = u (4 + i) := by rw [hy, if_neg (by omega)]
      have hur := bw_of (z := u (4 + i)) (by rw [← hz, rd_bw])
      rw [if_pos h64, bw_id (z := 4 + i) (by omega) (by omega), grd_pos (by omega), grd_pos (by omega), ew, les_eq, bw_id (z := i + 1) (by omega) (by omega)]
      refine ih (i + 1, wr κ 85 (4 + i) (min 99 (u (4 + i)))) ⟨by simp only; omega, hK.wr (by decide), fun j => ?_⟩ (by simp only; omega)
      show rd (wr κ 85 (4 + i) (min 99 (u (4 + i)))) 85 j = if 4 ≤ j ∧ j < 4 + (i + 1) then _ else _
      rw [wr_row, bw_id (z := min 99 (u (4 + i))) (by omega) (by omega)]
      by_cases e : j = 4 + i
      · subst e
        rw [upz_s, if_pos (by omega)]
      · rw [upz_n e, hy]
        by_cases e3 : 4 ≤ j ∧ j < 4 + i
        · rw [if_pos e3, if_pos (by omega)]
        · rw [if_neg e3, if_neg (by omega)]
    · rw [if_neg h64, wp_some]
      refine ⟨rfl, ?_, (k2.mo (by decide)).tr ((hF.tr hK).mo (by decide))⟩
      funext j
      rw [hy j]
      unfold driftW capW
      rw [hu0, show 4 + i = 68 by omega]
theorem vows_m (hW : Wf w) (hL : LR w g) (hw : rd σ 85 = w) (hp : isP w p) (hq : isP w q) (hx : isF w x) (hn1 : w 1 ≤ 900000000) : wp (fX11_vows p q x σ) (fun r => r.1 = foundW w p q ∧ rd r.2 85 = vowW (rd σ 84 26) w p q x ∧ Fr [85, 93, 94, 95] σ r.2) := by
  have hr := hW.1.2.2.2.2.2.1
  have hb3 := hW.1.2.2.2.2.2.2.2.2
  have hd := hW.1.2.2.2.2.2.2.1
  have hp2 := hp.2
  have hp1 := hp.1
  have hq2 := hq.2
  have hq1 := hq.1
  have hfr := foundW_r w p q
  have last : ∀ (u : Int → Int) (τ : Sg) (what much : Int), rd τ 85 = u → Fr [85, 93, 94, 95] σ τ → u 0 = w 0 → u 3 = w 3 → bw what = what → bw much = much → wp (fX11_vows_J67 p q (foundW w p q) much what τ) (fun r => r.1 = foundW w p q ∧ rd r.2 85 = upz (upz (noteW (rd σ 84 26) u what p much) (68 + p) q) (68 + q) p ∧ Fr [85, 93, 94, 95] σ r.2) := by
    intro u τ what much hu hτ h0 h3 hwh hmu
    unfold fX11_vows_J67
    rw [wp_bind]
    refine wp_mono (notes_m hu (by omega) (bw_id (by omega) (by omega)) hwh (bw_id (by omega) (by omega)) hmu) (fun ρ hρ => ?_)
    rw [bw_id (z := 68 + p) (by omega) (by omega), bw_id (z := 68 + q) (by omega) (by omega), grd_pos (by omega), grd_pos (by omega), wp_some]
    refine ⟨rfl, ?_, ((hτ.tr (hρ.2.mo (by decide))).wr (c := 85) (by decide)).wr (c := 85) (by decide)⟩
    rw [wr_row, wr_row, hρ.1, bw_id (z := p) (by omega) (by omega), bw_id (z := q) (by omega) (by omega), hτ 84 26 (by decide)]
  unfold fX11_vows
  rw [wp_bind]
  refine wp_mono (foundOf_m hW hL hw hp hq) (fun r hr' => ?_)
  have e85 : rd r.2 85 = w := (funext fun j => hr'.2 85 j (by decide)).trans hw
  have hF0 : Fr [85, 93, 94, 95] σ r.2 := hr'.2.mo (by decide)
  have e26 : rd r.2 84 26 = rd σ 84 26 := hr'.2 84 26 (by decide)
  rw [hr'.1]
  unfold fX11_vows_J42 vowW vow0W whatW muchW
  by_cases f6 : foundW w p q < 6
  · by_cases f3 : foundW w p q < 3
    · rw [if_pos f6, if_pos f3, if_pos f6, if_pos f3, if_neg (by omega), if_neg (by omega), if_neg (by omega), if_neg (by omega), if_neg (by omega), if_neg (by omega)]
      exact last w r.2 2 0 e85 hF0 rfl rfl rfl rfl
    · have hz0 : ∀ c : Int, ¬ isF w c → dnW w p q x c = 0 := fun c hc => by rw [dnW, if_neg hc]
      have hd2 := dnW_r hW p q x
      have hsm := sumN_r (f := dnW w p q x) (k := 99) (fun i _ => ⟨(hd2 i).1, (hd2 i).2.1⟩) 64
      rw [if_pos f6, if_neg f3, wp_bind, if_neg (by omega), if_pos (by omega), if_neg (by omega), if_pos (by omega), if_neg (by omega), if_pos (by omega)]
      refine wp_mono (drifts_m hW hL e85 hp hq hx hn1) (fun r2 hr2 => ?_)
      rw [hr2.1, if_pos f6, if_neg f3]
      refine last (driftW w p q x) r2.2 1 _ hr2.2.1 (hF0.tr hr2.2.2) ?_ ?_ rfl (bw_id (by omega) (by omega))
      · unfold driftW capW
        rw [if_neg (by decide)]
        exact drS_lo hW 64 (by omega) hz0 0 (by decide) (fun z => by have := isF_b z; omega)
      · unfold driftW capW
        rw [if_neg (by decide)]
        exact drS_lo hW 64 (by omega) hz0 3 (by decide) (fun z => by have := isF_b z; omega)
  · have hd2 := upW_r hW p q x
    have hsm := sumN_r (f := upW w p q x) (k := 99) (fun i _ => ⟨(hd2 i).1, (hd2 i).2.1⟩) 64
    rw [if_neg f6, wp_bind, if_pos (by omega), if_pos (by omega), if_pos (by omega)]
    refine wp_mono (rises_m hW hL e85 hp hq hx hn1) (fun r2 hr2 => ?_)
    rw [hr2.1, if_neg f6]
    refine last (riseW w p q x) r2.2 0 _ hr2.2.1 (hF0.tr hr2.2.2) ?_ ?_ rfl (bw_id (by omega) (by omega))
    · unfold riseW
      rw [upz_n (by decide)]
      exact if_neg (by decide)
    · unfold riseW
      rw [upz_n (by decide)]
      exact if_neg (by decide)
end MVow
