/-! the relation of the class's world to the row; match, FOUND, lift, melt on both sides -/
def Wf (w : Int → Int) : Prop := ((3 ≤ w 80 ∧ w 80 ≤ 8) ∧ (3 ≤ w 81 ∧ w 81 ≤ 7) ∧ (0 ≤ w 82 ∧ w 82 ≤ 3) ∧ (1 ≤ w 83 ∧ w 83 ≤ 99) ∧ (0 ≤ w 84 ∧ w 84 ≤ 1000) ∧ (0 ≤ w 85 ∧ w 85 ≤ 12) ∧ (0 ≤ w 0 ∧ w 0 ≤ 20000) ∧ (0 ≤ w 1 ∧ w 1 ≤ 1000000000) ∧ (0 ≤ w 3 ∧ w 3 ≤ 150)) ∧
  (∀ f, isF w f → 0 ≤ w (4 + f) ∧ w (4 + f) ≤ 99) ∧
  (∀ p, isP w p → (w (91 + p) = 0 ∨ w (91 + p) = 1) ∧ (0 ≤ w (103 + p) ∧ w (103 + p) ≤ 9) ∧ (0 ≤ w (115 + p) ∧ w (115 + p) ≤ 9) ∧ isF w (w (127 + p)) ∧ (w (68 + p) = -1 ∨ isP w (w (68 + p))) ∧ (0 ≤ w (139 + p) ∧ w (139 + p) < 4096)) ∧
  ((0 ≤ w 87 ∧ w 87 ≤ 16) ∧ ∀ i, 0 ≤ i → i < w 87 → (0 ≤ w (151 + 4 * i) ∧ w (151 + 4 * i) ≤ 999) ∧ isP w (w (152 + 4 * i)) ∧ isP w (w (153 + 4 * i)) ∧ w (91 + w (152 + 4 * i)) ≠ w (91 + w (153 + 4 * i)) ∧ isF w (w (154 + 4 * i))) ∧
  ((0 ≤ w 88 ∧ w 88 ≤ 12) ∧ ∀ i, 0 ≤ i → i < w 88 → (1 ≤ w (215 + 2 * i) ∧ w (215 + 2 * i) ≤ 60) ∧ 0 ≤ w (216 + 2 * i) ∧ w (216 + 2 * i) ≤ 30) ∧
  ((0 ≤ w 89 ∧ w 89 ≤ 12) ∧ ∀ i, 0 ≤ i → i < w 89 → isF w (w (239 + 3 * i)) ∧ (0 ≤ w (240 + 3 * i) ∧ w (240 + 3 * i) ≤ 999) ∧ 1 ≤ w (241 + 3 * i) ∧ w (241 + 3 * i) ≤ 99) ∧
  ((0 ≤ w 90 ∧ w 90 ≤ 12) ∧ ∀ i, 0 ≤ i → i < w 90 → isP w (w (275 + 3 * i)) ∧ (0 ≤ w (276 + 3 * i) ∧ w (276 + 3 * i) ≤ 9) ∧ (w (277 + 3 * i) = 0 ∨ w (277 + 3 * i) = 1))
def RS (m : Int) (w : Int → Int) (g : Nat → Int → Int) : Prop := g 0 0 = w 80 ∧ g 0 1 = w 81 ∧ g 0 2 = w 82 ∧ g 0 3 = w 83 ∧ (g 0 4 = if m = 0 then 0 else w 84) ∧ g 0 5 = w 1 ∧ g 0 6 = w 0 ∧ g 0 7 = w 2
def RF (w : Int → Int) (g : Nat → Int → Int) : Prop := (∀ f, isF w f → g 1 f = w (4 + f)) ∧ ∀ f : Int, 0 ≤ f → f < 56 → 0 ≤ g 1 f ∧ g 1 f ≤ 99
def RP (w : Int → Int) (g : Nat → Int → Int) : Prop := g 3 6 = w 85 ∧ ∀ p, isP w p → g 4 p = w (91 + p) ∧ g 5 p = w (103 + p) ∧ g 6 p = w (115 + p) ∧ g 7 p = w (127 + p) ∧ g 8 p = w (68 + p) ∧ g 9 p = w (139 + p)
def RT (w : Int → Int) (g : Nat → Int → Int) : Prop :=
  (g 17 1 = 16 ∧ g 17 2 = w 87 ∧ ∀ i, 0 ≤ i → i < w 87 → g 18 (4 * i) = w (151 + 4 * i) ∧ g 18 (4 * i + 1) = w (152 + 4 * i) ∧ g 18 (4 * i + 2) = w (153 + 4 * i) ∧ g 18 (4 * i + 3) = w (154 + 4 * i)) ∧
  (g 19 1 = 12 ∧ g 19 2 = w 88 ∧ ∀ i, 0 ≤ i → i < w 88 → g 20 (4 * i) = w (215 + 2 * i) ∧ g 20 (4 * i + 1) = w (216 + 2 * i)) ∧
  (g 21 1 = 12 ∧ g 21 2 = w 89 ∧ ∀ i, 0 ≤ i → i < w 89 → g 22 (4 * i) = w (239 + 3 * i) ∧ g 22 (4 * i + 1) = w (240 + 3 * i) ∧ g 22 (4 * i + 2) = w (241 + 3 * i)) ∧
  (g 23 1 = 12 ∧ g 23 2 = w 90 ∧ ∀ i, 0 ≤ i → i < w 90 → g 24 (4 * i) = w (275 + 3 * i) ∧ g 24 (4 * i + 1) = w (276 + 3 * i) ∧ g 24 (4 * i + 2) = w (277 + 3 * i))
def RB (m : Int) (w : Int → Int) (g : Nat → Int → Int) : Prop := g 25 1 = m ∧ ((m = 0 ∧ g 25 2 = 0) ∨ (m = 150 ∧ g 25 2 = w 3 ∧ ∀ i, 0 ≤ i → i < w 3 → g 26 (4 * i) = w (311 + 4 * i) ∧ g 26 (4 * i + 1) = w (312 + 4 * i) ∧ g 26 (4 * i + 2) = w (313 + 4 * i) ∧ g 26 (4 * i + 3) = w (314 + 4 * i)))
def CG (m : Int) (w : Int → Int) (g : Nat → Int → Int) : Prop := Wf w ∧ RS m w g ∧ RF w g ∧ RP w g ∧ RT w g ∧ RB m w g ∧ LR w g
def CW (m : Int) (w : Int → Int) (σ : Sg) (b : Nat) : Prop := CG m w (vw σ b)
theorem vw_fr {l : List Nat} {σ τ : Sg} {b : Nat} (h : Fr l σ τ) (hl : ∀ c ∈ l, c = b + 2 ∨ c = b + 15 ∨ c = b + 16 ∨ c < b ∨ b + 27 ≤ c) : vw τ b = vw σ b := by
  funext k i
  unfold vw
  split
  · rfl
  · next hk =>
    refine h _ _ (fun hc => ?_)
    have := hl _ hc
    omega
theorem CW.fr {m : Int} {w : Int → Int} {l : List Nat} {σ τ : Sg} {b : Nat} (k : CW m w σ b) (h : Fr l σ τ) (hl : ∀ c ∈ l, c = b + 2 ∨ c = b + 15 ∨ c = b + 16 ∨ c < b ∨ b + 27 ≤ c) : CW m w τ b := by
  rw [CW, vw_fr h hl]
  exact k
def kinW (w : Int → Int) (a b : Int) : Int := band (bshr (w (139 + a)) b) 1
def fM (w : Int → Int) (a b ta tb : Int) : Int → Int := fun s => if s = 1 then ta else if s = 2 then w (115 + a) else if s = 3 then tb else if s = 4 then w (115 + b) else if s = 5 then kinW w a b else if s = 6 then ab (ta - tb) else if s = 10 then w 0 else 0
def matW (w : Int → Int) (a b ta tb : Int) : Int := sayW w (fM w a b ta tb) 20 (9 - ab (ta - tb)) 9
def matchW (w : Int → Int) (a b : Int) : Int := matW w a b (w (103 + a)) (w (103 + b))
def foundW (w : Int → Int) (a b : Int) : Int := min (matchW w a b) (matchW w b a)
def apW (x y : Int) : Int := ab (x % 8 - y % 8) + ab (x / 8 - y / 8)
def fLi (w : Int → Int) (a b found far deep : Int) : Int → Int := fun s => if s = 5 then kinW w a b else if s = 6 then ab (w (103 + a) - w (103 + b)) else if s = 7 then far else if s = 8 then deep else if s = 9 then found else if s = 10 then w 0 else 0
def liftW (w : Int → Int) (a b found far deep : Int) : Int := sayW w (fLi w a b found far deep) 21 (2 * found - far) 99
def fMe (w : Int → Int) (deep : Int) : Int → Int := fun s => if s = 8 then deep else if s = 10 then w 0 else 0
def meltW (w : Int → Int) (deep : Int) : Int := sayW w (fMe w deep) 22 0 99
theorem sayW_r (w fc : Int → Int) (a b : Int) {m : Int} (hm : 0 ≤ m) : 0 ≤ sayW w fc a b m ∧ sayW w fc a b m ≤ m := by unfold sayW; omega
theorem matW_r (w : Int → Int) (a b x y : Int) : 0 ≤ matW w a b x y ∧ matW w a b x y ≤ 9 := sayW_r _ _ _ _ (by decide)
theorem matchW_r (w : Int → Int) (a b : Int) : 0 ≤ matchW w a b ∧ matchW w a b ≤ 9 := sayW_r _ _ _ _ (by decide)
theorem foundW_r (w : Int → Int) (a b : Int) : 0 ≤ foundW w a b ∧ foundW w a b ≤ 9 := by
  have h1 := matchW_r w a b
  have h2 := matchW_r w b a
  unfold foundW; omega
theorem liftW_r (w : Int → Int) (a b f x y : Int) : 0 ≤ liftW w a b f x y ∧ liftW w a b f x y ≤ 99 := sayW_r _ _ _ _ (by decide)
theorem meltW_r (w : Int → Int) (x : Int) : 0 ≤ meltW w x ∧ meltW w x ≤ 99 := sayW_r _ _ _ _ (by decide)
theorem kinW_01 (w : Int → Int) (a b : Int) : kinW w a b = 0 ∨ kinW w a b = 1 := band01 _
theorem fM_nr {w : Int → Int} {a b x y : Int} (hW : Wf w) (ha : isP w a) (hb : isP w b) (hx : 0 ≤ x ∧ x ≤ 9) (hy : 0 ≤ y ∧ y ≤ 9) : ∀ i, bw (fM w a b x y i) = fM w a b x y i := by
  intro i
  have h1 := (hW.2.2.1 a ha).2.2.1
  have h2 := (hW.2.2.1 b hb).2.2.1
  have h3 := hW.1.2.2.2.2.2.2.1
  have h4 := kinW_01 w a b
  have h5 : ab (x - y) ≤ 9 ∧ 0 ≤ ab (x - y) := by unfold ab; split <;> omega
  apply bw_id <;> unfold fM <;> (repeat' split) <;> omega
theorem fLi_nr {w : Int → Int} {a b f x y : Int} (hW : Wf w) (ha : isP w a) (hb : isP w b) (hf : 0 ≤ f ∧ f ≤ 9) (hx : 0 ≤ x ∧ x ≤ 20) (hy : 0 ≤ y ∧ y ≤ 99) : ∀ i, bw (fLi w a b f x y i) = fLi w a b f x y i := by
  intro i
  have h1 := (hW.2.2.1 a ha).2.1
  have h2 := (hW.2.2.1 b hb).2.1
  have h3 := hW.1.2.2.2.2.2.2.1
  have h4 := kinW_01 w a b
  have h5 : ab (w (103 + a) - w (103 + b)) ≤ 9 ∧ 0 ≤ ab (w (103 + a) - w (103 + b)) := by unfold ab; split <;> omega
  apply bw_id <;> unfold fLi <;> (repeat' split) <;> omega
theorem fMe_nr {w : Int → Int} {y : Int} (hW : Wf w) (hy : 0 ≤ y ∧ y ≤ 99) : ∀ i, bw (fMe w y i) = fMe w y i := by
  intro i
  have h3 := hW.1.2.2.2.2.2.2.1
  apply bw_id <;> unfold fMe <;> (repeat' split) <;> omega
theorem name_eq {c : Nat} {x v : Int} {σ : Sg} (h1 : 10 ≤ x) (h2 : x ≤ 19) : fX2_name c x v σ = some (wr σ (c + 5) (x - 10) v) := by
  unfold fX2_name
  rw [bw_id (z := x - 10) (by omega) (by omega), if_neg (by omega), if_pos (by omega), grd_pos (by omega)]
theorem forget_c {c : Nat} {σ : Sg} : wp (fX2_forgetNames c σ) (fun τ => Fr [c + 5] σ τ ∧ ∀ j : Int, 0 ≤ j → j < 10 → rd τ (c + 5) j = 0) := by
  unfold fX2_forgetNames
  refine loopM (F := fun n s => fX2_forgetNames_L2 c n s.1 s.2) (fun s : Int × Sg => (0 ≤ s.1 ∧ s.1 ≤ 10) ∧ Fr [c + 5] σ s.2 ∧ ∀ j : Int, 0 ≤ j → j < s.1 → rd s.2 (c + 5) j = 0) (fun s => (10 - s.1).toNat) ?_ FU (0, σ) (by unfold FU; simp only; omega) ⟨by simp only; omega, Fr.rf, fun j h1 h2 => absurd h2 (by omega)⟩
  rintro n ⟨i, τ⟩ ⟨hi, hF, hz⟩ ih
  show wp (fX2_forgetNames_L2 c (n + 1) i τ) _
  simp only at hi hF hz
  rw [fX2_forgetNames_L2]
  by_cases h : i < 10
  · rw [if_pos h, grd_pos ⟨hi.1, h⟩, bw_id (z := i + 1) (by omega) (by omega)]
    refine ih (i + 1, wr τ (c + 5) i 0) ⟨by simp only; omega, hF.wr (List.mem_singleton.mpr rfl), fun j h1 h2 => ?_⟩ (by simp only; omega)
    have h2 : j < i + 1 := h2
    show rd (wr τ (c + 5) i 0) (c + 5) j = 0
    rw [rd_wr]
    split
    · rfl
    · exact hz j h1 (by omega)
  · rw [if_neg h, wp_some]
    exact ⟨hF, fun j h1 h2 => hz j h1 (by omega)⟩
theorem areKin_c {w : Int → Int} {c : Nat} {a b : Int} {σ : Sg} (h : 0 ≤ a ∧ a < 12) (hk : rd σ (c + 6) a = w (139 + a)) : fX1_areKin c a b σ = some (kinW w a b) := by
  unfold fX1_areKin
  rw [grd_pos h, hk]
  have := kinW_01 w a b
  show (if kinW w a b = 1 then some 1 else some 0) = _
  split
  · next q => rw [q]
  · next q => rw [this.resolve_right q]
theorem name_c {c : Nat} {x v : Int} {σ s : Sg} {f : Int → Int} (h1 : 10 ≤ x) (h2 : x ≤ 19) (hv : bw v = v) (hF : Fr [c + 5] σ s) (hT : ∀ j : Int, 0 ≤ j → j < 10 → rd s (c + 5) j = f j) : wp (fX2_name c x v s) (fun τ => Fr [c + 5] σ τ ∧ ∀ j : Int, 0 ≤ j → j < 10 → rd τ (c + 5) j = if j = x - 10 then v else f j) := by
  rw [name_eq h1 h2, wp_some]
  refine ⟨hF.wr (List.mem_singleton.mpr rfl), fun j h3 h4 => ?_⟩
  rw [rd_wr]
  by_cases h : j = x - 10
  · rw [if_pos ⟨rfl, h⟩, if_pos h, hv]
  · rw [if_neg (fun z => h z.2), if_neg h]
    exact hT j h3 h4
section CMatch
variable {m : Int} {w : Int → Int} {σ : Sg} {b : Nat}
theorem matchBy_c (h : CW m w σ b) {p q x y : Int} (hp : isP w p) (hq : isP w q) (hx : 0 ≤ x ∧ x ≤ 9) (hy : 0 ≤ y ∧ y ≤ 9) : wp (fX9_matchBy b p q x y σ) (fun r => r.1 = matW w p q x y ∧ Fr [b + 15, b + 16] σ r.2) := by
  obtain ⟨hW, hS, -, hP, -, -, hL⟩ := h
  have hr := hW.1.2.2.2.2.2.1
  have hd := hW.1.2.2.2.2.2.2.1
  have hpa := (hW.2.2.1 p hp).2.2.1
  have hqa := (hW.2.2.1 q hq).2.2.1
  have hap : ab (x - y) ≤ 9 ∧ 0 ≤ ab (x - y) := by unfold ab; split <;> omega
  unfold fX9_matchBy
  rw [bw_id (z := x - y) (by omega) (by omega), abs_eq (by omega) (by omega), wp_bind]
  refine wp_mono forget_c (fun s2 hs2 => ?_)
  rw [wp_bind]
  refine wp_mono (name_c (f := fun _ => 0) (by omega) (by omega) (bw_id (by omega) (by omega)) hs2.1 hs2.2) (fun s3 hs3 => ?_)
  have e3 : rd s3 (b + 6) p = w (115 + p) := (hs3.1 (b + 6) p (by simp)).trans (hP.2 p hp).2.2.1
  rw [wp_grd, e3, wp_bind]
  refine ⟨⟨hp.1, by omega⟩, ?_⟩
  refine wp_mono (name_c (by omega) (by omega) (bw_id (by omega) (by omega)) hs3.1 hs3.2) (fun s4 hs4 => ?_)
  rw [wp_bind]
  refine wp_mono (name_c (by omega) (by omega) (bw_id (by omega) (by omega)) hs4.1 hs4.2) (fun s5 hs5 => ?_)
  have e5 : rd s5 (b + 6) q = w (115 + q) := (hs5.1 (b + 6) q (by simp)).trans (hP.2 q hq).2.2.1
  rw [wp_grd, e5, wp_bind]
  refine ⟨⟨hq.1, by omega⟩, ?_⟩
  refine wp_mono (name_c (by omega) (by omega) (bw_id (by omega) (by omega)) hs5.1 hs5.2) (fun s6 hs6 => ?_)
  have e6 : rd s6 (b + 3 + 6) p = w (139 + p) := (hs6.1 (b + 9) p (by simp)).trans (hP.2 p hp).2.2.2.2.2
  rw [areKin_c ⟨hp.1, by omega⟩ e6, wp_bind, wp_some]
  have go : ∀ z : Int, z = kinW w p q → wp (fX9_matchBy_J96 b (ab (x - y)) z s6) (fun r => r.1 = matW w p q x y ∧ Fr [b + 15, b + 16] σ r.2) := by
    rintro z hz
    have hz2 := kinW_01 w p q
    unfold fX9_matchBy_J96
    rw [wp_bind]
    refine wp_mono (name_c (by omega) (by omega) (bw_id (by omega) (by omega)) hs6.1 hs6.2) (fun s7 hs7 => ?_)
    rw [wp_bind]
    refine wp_mono (name_c (by omega) (by omega) (bw_id (by omega) (by omega)) hs7.1 hs7.2) (fun s8 hs8 => ?_)
    have e8 : rd s8 b 6 = w 0 := (hs8.1 b 6 (by simp <;> omega)).trans hS.2.2.2.2.2.2.1
    rw [wp_bind, e8]
    refine wp_mono (name_c (by omega) (by omega) (bw_id (by omega) (by omega)) hs8.1 hs8.2) (fun s9 hs9 => ?_)
    rw [wp_bind, bw_id (z := 9 - ab (x - y)) (by omega) (by omega)]
    have hvw : vw s9 b = vw σ b := vw_fr hs9.1 (by simp)
    refine wp_mono (tell_c (word := 20) (fM_nr hW hp hq hx hy) (by rw [hvw]; exact hL) (fun j h1 h2 => ?_)) (fun r hr2 => ?_)
    · rw [hs9.2 j h1 h2, hz]
      unfold fM
      repeat' split
      all_goals first | rfl | omega
    · rw [wp_some]
      refine ⟨?_, (hs9.1.mo (by simp)).tr (hr2.2.mo (by simp))⟩
      rw [held_eq, hr2.1]
      unfold matW sayW
      omega
  split
  · next q0 => exact go 0 q0.symm
  · next q0 => exact go 1 ((kinW_01 w p q).resolve_left q0).symm
theorem matchOf_c (h : CW m w σ b) {p q : Int} (hp : isP w p) (hq : isP w q) : wp (fX9_matchOf b p q σ) (fun r => r.1 = matchW w p q ∧ Fr [b + 15, b + 16] σ r.2) := by
  have hr := h.1.1.2.2.2.2.2.1
  have h1 := (h.1.2.2.1 p hp).2.1
  have h2 := (h.1.2.2.1 q hq).2.1
  have e1 : rd σ (b + 5) p = w (103 + p) := (h.2.2.2.1.2 p hp).2.1
  have e2 : rd σ (b + 5) q = w (103 + q) := (h.2.2.2.1.2 q hq).2.1
  unfold fX9_matchOf
  rw [e1, e2, grd_pos ⟨hp.1, by omega⟩, grd_pos ⟨hq.1, by omega⟩, wp_bind]
  exact wp_mono (matchBy_c h hp hq h1 h2) (fun r hr => wp_some.mpr hr)
theorem foundOf_c (h : CW m w σ b) {p q : Int} (hp : isP w p) (hq : isP w q) : wp (fX9_foundOf b p q σ) (fun r => r.1 = foundW w p q ∧ Fr [b + 15, b + 16] σ r.2) := by
  have hr := h.1.1.2.2.2.2.2.1
  have h1 := (h.1.2.2.1 p hp).2.1
  have h2 := (h.1.2.2.1 q hq).2.1
  have e1 : rd σ (b + 5) p = w (103 + p) := (h.2.2.2.1.2 p hp).2.1
  have e2 : rd σ (b + 5) q = w (103 + q) := (h.2.2.2.1.2 q hq).2.1
  unfold fX9_foundOf
  rw [e1, e2, grd_pos ⟨hp.1, by omega⟩, grd_pos ⟨hq.1, by omega⟩, wp_bind]
  refine wp_mono (matchBy_c h hp hq h1 h2) (fun r hr => ?_)
  rw [wp_bind]
  refine wp_mono (matchBy_c (h.fr hr.2 (by simp)) hq hp h2 h1) (fun r2 hr2 => ?_)
  rw [wp_some, min_eq, hr.1, hr2.1]
  exact ⟨rfl, hr.2.tr hr2.2⟩
theorem liftOf_c (h : CW m w σ b) {p q f x y : Int} (hp : isP w p) (hq : isP w q) (hf : 0 ≤ f ∧ f ≤ 9) (hx : 0 ≤ x ∧ x ≤ 20) (hy : 0 ≤ y ∧ y ≤ 99) : wp (fX9_liftOf b p q f x y σ) (fun r => r.1 = liftW w p q f x y ∧ Fr [b + 15, b + 16] σ r.2) := by
  obtain ⟨hW, hS, -, hP, -, -, hL⟩ := h
  have hr := hW.1.2.2.2.2.2.1
  have hd := hW.1.2.2.2.2.2.2.1
  have hpa := (hW.2.2.1 p hp).2.1
  have hqa := (hW.2.2.1 q hq).2.1
  have hap : ab (w (103 + p) - w (103 + q)) ≤ 9 ∧ 0 ≤ ab (w (103 + p) - w (103 + q)) := by unfold ab; split <;> omega
  unfold fX9_liftOf
  rw [wp_bind]
  refine wp_mono forget_c (fun s2 hs2 => ?_)
  rw [wp_bind]
  refine wp_mono (name_c (f := fun _ => 0) (by omega) (by omega) (bw_id (by omega) (by omega)) hs2.1 hs2.2) (fun s3 hs3 => ?_)
  rw [wp_bind]
  refine wp_mono (name_c (by omega) (by omega) (bw_id (by omega) (by omega)) hs3.1 hs3.2) (fun s4 hs4 => ?_)
  rw [wp_bind]
  refine wp_mono (name_c (by omega) (by omega) (bw_id (by omega) (by omega)) hs4.1 hs4.2) (fun s6 hs6 => ?_)
  have e6 : rd s6 (b + 3 + 6) p = w (139 + p) := (hs6.1 (b + 9) p (by simp)).trans (hP.2 p hp).2.2.2.2.2
  rw [areKin_c ⟨hp.1, by omega⟩ e6, wp_bind, wp_some]
  have go : ∀ z : Int, z = kinW w p q → wp (fX9_liftOf_J62 b p q f x z s6) (fun r => r.1 = liftW w p q f x y ∧ Fr [b + 15, b + 16] σ r.2) := by
    rintro z hz
    have hz2 := kinW_01 w p q
    unfold fX9_liftOf_J62
    rw [wp_bind]
    refine wp_mono (name_c (by omega) (by omega) (bw_id (by omega) (by omega)) hs6.1 hs6.2) (fun s7 hs7 => ?_)
    have e7 : rd s7 (b + 5) p = w (103 + p) := (hs7.1 (b + 5) p (by simp)).trans (hP.2 p hp).2.1
    have e8 : rd s7 (b + 5) q = w (103 + q) := (hs7.1 (b + 5) q (by simp)).trans (hP.2 q hq).2.1
    rw [e7, e8, bw_id (z := w (103 + p) - w (103 + q)) (by omega) (by omega), abs_eq (by omega) (by omega), grd_pos ⟨hp.1, by omega⟩, grd_pos ⟨hq.1, by omega⟩, wp_bind]
    refine wp_mono (name_c (by omega) (by omega) (bw_id (by omega) (by omega)) hs7.1 hs7.2) (fun s8 hs8 => ?_)
    have e9 : rd s8 b 6 = w 0 := (hs8.1 b 6 (by simp <;> omega)).trans hS.2.2.2.2.2.2.1
    rw [wp_bind, e9]
    refine wp_mono (name_c (by omega) (by omega) (bw_id (by omega) (by omega)) hs8.1 hs8.2) (fun s9 hs9 => ?_)
    rw [wp_bind, bw_id (z := f * 2) (by omega) (by omega), bw_id (z := f * 2 - x) (by omega) (by omega)]
    have hvw : vw s9 b = vw σ b := vw_fr hs9.1 (by simp)
    refine wp_mono (tell_c (word := 21) (fLi_nr hW hp hq hf hx hy) (by rw [hvw]; exact hL) (fun j h1 h2 => ?_)) (fun r hr2 => ?_)
    · rw [hs9.2 j h1 h2, hz]
      unfold fLi
      repeat' split
      all_goals first | rfl | omega
    · rw [wp_some]
      refine ⟨?_, (hs9.1.mo (by simp)).tr (hr2.2.mo (by simp))⟩
      rw [held_eq, hr2.1, show f * 2 - x = 2 * f - x by omega]
      unfold liftW sayW
      omega
  split
  · next q0 => exact go 0 q0.symm
  · next q0 => exact go 1 ((kinW_01 w p q).resolve_left q0).symm
theorem meltOf_c (h : CW m w σ b) {y : Int} (hy : 0 ≤ y ∧ y ≤ 99) : wp (fX9_meltOf b y σ) (fun r => r.1 = meltW w y ∧ Fr [b + 15, b + 16] σ r.2) := by
  obtain ⟨hW, hS, -, hP, -, -, hL⟩ := h
  have hd := hW.1.2.2.2.2.2.2.1
  unfold fX9_meltOf
  rw [wp_bind]
  refine wp_mono forget_c (fun s2 hs2 => ?_)
  rw [wp_bind]
  refine wp_mono (name_c (f := fun _ => 0) (by omega) (by omega) (bw_id (by omega) (by omega)) hs2.1 hs2.2) (fun s8 hs8 => ?_)
  have e9 : rd s8 b 6 = w 0 := (hs8.1 b 6 (by simp <;> omega)).trans hS.2.2.2.2.2.2.1
  rw [wp_bind, e9]
  refine wp_mono (name_c (by omega) (by omega) (bw_id (by omega) (by omega)) hs8.1 hs8.2) (fun s9 hs9 => ?_)
  rw [wp_bind]
  have hvw : vw s9 b = vw σ b := vw_fr hs9.1 (by simp)
  refine wp_mono (tell_c (word := 22) (fMe_nr hW hy) (by rw [hvw]; exact hL) (fun j h1 h2 => ?_)) (fun r hr2 => ?_)
  · rw [hs9.2 j h1 h2]
    unfold fMe
    repeat' split
    all_goals first | rfl | omega
  · rw [wp_some]
    refine ⟨?_, (hs9.1.mo (by simp)).tr (hr2.2.mo (by simp))⟩
    rw [held_eq, hr2.1]
    unfold meltW sayW
    omega
theorem hasField_c (h : CW m w σ b) (f : Int) : fX9_hasField b f σ = if isF w f then 1 else 0 := by
  have e0 : rd σ b 0 = w 80 := h.2.1.1
  have e1 : rd σ b 1 = w 81 := h.2.1.2.1
  unfold fX9_hasField isF
  rw [e0, e1]
  by_cases h0 : f < 0
  · rw [if_pos h0, if_neg (by omega)]
  · rw [if_neg h0]
    by_cases h1 : f < 56
    · rw [if_pos h1, band_7 (bw_id (by omega) (by omega)), bshr_3 (bw_id (by omega) (by omega))]
      repeat' split
      all_goals first | rfl | omega
    · rw [if_neg h1, if_neg (by omega)]
end CMatch
theorem isF_b {w : Int → Int} {f : Int} (h : isF w f) : 0 ≤ f ∧ f < 56 := ⟨h.1, h.2.1⟩
theorem steps_eq {f g : Int} (hf : 0 ≤ f ∧ f < 64) (hg : 0 ≤ g ∧ g < 64) : fX10_steps f g = apW f g := by
  unfold fX10_steps apW
  rw [band_7 (x := f) (bw_id (by omega) (by omega)), band_7 (x := g) (bw_id (by omega) (by omega)), bshr_3 (x := f) (bw_id (by omega) (by omega)), bshr_3 (x := g) (bw_id (by omega) (by omega)), bw_id (z := f % 8 - g % 8) (by omega) (by omega), bw_id (z := f / 8 - g / 8) (by omega) (by omega), abs_eq (by omega) (by omega), abs_eq (by omega) (by omega)]
  exact bw_id (by unfold ab; (repeat' split) <;> omega) (by unfold ab; (repeat' split) <;> omega)
theorem apart_eq {f g : Int} (hf : 0 ≤ f ∧ f < 64) (hg : 0 ≤ g ∧ g < 64) : fX11_apart f g = apW f g := by
  unfold fX11_apart apW
  rw [trm_pos (by omega) (by omega) (by omega) (by omega), trm_pos (by omega) (by omega) (by omega) (by omega), tdv_pos (by omega) (by omega) (by omega) (by omega), tdv_pos (by omega) (by omega) (by omega) (by omega), bw_id (z := f % 8 - g % 8) (by omega) (by omega), bw_id (z := f / 8 - g / 8) (by omega) (by omega), size_eq (by omega) (by omega), size_eq (by omega) (by omega)]
  exact bw_id (by unfold ab; (repeat' split) <;> omega) (by unfold ab; (repeat' split) <;> omega)
theorem apW_r {f g : Int} (hf : 0 ≤ f ∧ f < 56) (hg : 0 ≤ g ∧ g < 56) : 0 ≤ apW f g ∧ apW f g ≤ 13 := by
  unfold apW ab
  (repeat' split) <;> omega
theorem apW_c (f g : Int) : apW f g = apW g f := by
  unfold apW ab
  (repeat' split) <;> omega
/-! the model's side -/
section MMatch
variable {w : Int → Int} {σ : Sg} {g : Nat → Int → Int}
theorem clears_m (hw : rd σ 85 = w) (hn : bw (w 0) = w 0) : wp (fX11_clears σ) (fun τ => Fr [94] σ τ ∧ ∀ j : Int, 0 ≤ j → j ≤ 10 → rd τ 94 j = if j = 10 then w 0 else 0) := by
  unfold fX11_clears
  refine loopM (F := fun n s => fX11_clears_L2 n s.1 s.2) (fun s : Int × Sg => (0 ≤ s.1 ∧ s.1 ≤ 11) ∧ Fr [94] σ s.2 ∧ ∀ j : Int, 0 ≤ j → j < s.1 → rd s.2 94 j = 0) (fun s => (11 - s.1).toNat) ?_ FU (0, σ) (by unfold FU; simp only; omega) ⟨by simp only; omega, Fr.rf, fun j h1 h2 => absurd h2 (by omega)⟩
  rintro n ⟨i, τ⟩ ⟨hi, hF, hz⟩ ih
  show wp (fX11_clears_L2 (n + 1) i τ) _
  simp only at hi hF hz
  rw [fX11_clears_L2]
  by_cases h : i < 11
  · rw [if_pos h, grd_pos ⟨hi.1, h⟩, bw_id (z := i + 1) (by omega) (by omega)]
    refine ih (i + 1, wr τ 94 i 0) ⟨by simp only; omega, hF.wr (List.mem_singleton.mpr rfl), fun j h1 h2 => ?_⟩ (by simp only; omega)
    have h2 : j < i + 1 := h2
    show rd (wr τ 94 i 0) 94 j = 0
    rw [rd_wr]
    split
    · rfl
    · exact hz j h1 (by omega)
  · rw [if_neg h, wp_some]
    refine ⟨hF.wr (List.mem_singleton.mpr rfl), fun j h1 h2 => ?_⟩
    have e : rd τ 85 0 = w 0 := (hF 85 0 (by decide)).trans (congrFun hw 0)
    rw [rd_wr, e]
    by_cases h3 : j = 10
    · rw [if_pos ⟨rfl, h3⟩, if_pos h3, hn]
    · rw [if_neg (fun z => h3 z.2), if_neg h3]
      exact hz j h1 (by omega)
theorem fact_m {i v : Int} {s : Sg} {f : Int → Int} (hv : bw v = v) (hT : ∀ j : Int, 0 ≤ j → j ≤ 10 → rd s 94 j = f j) : ∀ j : Int, 0 ≤ j → j ≤ 10 → rd (wr s 94 i v) 94 j = if j = i then v else f j := by
  intro j h1 h2
  rw [rd_wr]
  by_cases h : j = i
  · rw [if_pos ⟨rfl, h⟩, if_pos h, hv]
  · rw [if_neg (fun z => h z.2), if_neg h]
    exact hT j h1 h2
theorem laysTwo_m (hW : Wf w) (hw : rd σ 85 = w) {p q : Int} (hp : isP w p) (hq : isP w q) : wp (fX11_laysTwo p q σ) (fun τ => Fr [94] σ τ ∧ ∀ j : Int, 0 ≤ j → j ≤ 10 → rd τ 94 j = if j = 6 then ab (w (103 + p) - w (103 + q)) else if j = 5 then kinW w p q else if j = 10 then w 0 else 0) := by
  have hr := hW.1.2.2.2.2.2.1
  have hd := hW.1.2.2.2.2.2.2.1
  have h1 := (hW.2.2.1 p hp).2.1
  have h2 := (hW.2.2.1 q hq).2.1
  have hk := kinW_01 w p q
  unfold fX11_laysTwo
  rw [wp_bind]
  refine wp_mono (clears_m hw (bw_id (by omega) (by omega))) (fun s hs => ?_)
  have e85 : rd s 85 = w := (funext fun j => hs.1 85 j (by decide)).trans hw
  have e85b : ∀ i z, rd (wr s 94 i z) 85 = w := fun i z => (funext fun j => rq_c (by decide)).trans e85
  rw [bw_id (z := 139 + p) (by omega) (by omega), bw_id (z := 103 + p) (by omega) (by omega), bw_id (z := 103 + q) (by omega) (by omega), grd_pos (by omega), grd_pos (by omega), grd_pos (by omega), wp_some, e85, e85b, bw_id (z := w (103 + p) - w (103 + q)) (by omega) (by omega), size_eq (by omega) (by omega)]
  refine ⟨(hs.1.wr (by decide)).wr (by decide), fact_m (bw_id ?_ ?_) (fact_m (v := kinW w p q) (bw_id (by omega) (by omega)) hs.2)⟩ <;> (unfold ab; split <;> omega)
theorem matchOf_m (hW : Wf w) (hL : LR w g) (hw : rd σ 85 = w) {p q : Int} (hp : isP w p) (hq : isP w q) : wp (fX11_matchOf p q σ) (fun r => r.1 = matchW w p q ∧ Fr [93, 94] σ r.2) := by
  have hr := hW.1.2.2.2.2.2.1
  have h1 := (hW.2.2.1 p hp).2
  have h2 := (hW.2.2.1 q hq).2
  have hap : ab (w (103 + p) - w (103 + q)) ≤ 9 ∧ 0 ≤ ab (w (103 + p) - w (103 + q)) := by unfold ab; split <;> omega
  unfold fX11_matchOf
  rw [wp_bind]
  refine wp_mono (laysTwo_m hW hw hp hq) (fun s hs => ?_)
  have e85 : rd s 85 = w := (funext fun j => hs.1 85 j (by decide)).trans hw
  have e85b : ∀ (t : Sg) (i z : Int), rd (wr t 94 i z) 85 = rd t 85 := fun t i z => (funext fun j => rq_c (by decide))
  rw [bw_id (z := 103 + p) (by omega) (by omega), bw_id (z := 103 + q) (by omega) (by omega), bw_id (z := 115 + p) (by omega) (by omega), bw_id (z := 115 + q) (by omega) (by omega), grd_pos (by omega), grd_pos (by omega), grd_pos (by omega), grd_pos (by omega)]
  simp only [e85b, e85]
  have hF := fact_m (i := 4) (v := w (115 + q)) (bw_id (by omega) (by omega)) (fact_m (i := 3) (v := w (103 + q)) (bw_id (by omega) (by omega)) (fact_m (i := 2) (v := w (115 + p)) (bw_id (by omega) (by omega)) (fact_m (i := 1) (v := w (103 + p)) (bw_id (by omega) (by omega)) hs.2)))
  rw [hF 6 (by decide) (by decide), if_neg (by decide), if_neg (by decide), if_neg (by decide), if_neg (by decide), if_pos rfl, bw_id (z := 9 - ab (w (103 + p) - w (103 + q))) (by omega) (by omega), wp_bind]
  refine wp_mono (says_m (fM_nr hW hp hq h1.1 h2.1) ((e85b _ _ _).trans ((e85b _ _ _).trans ((e85b _ _ _).trans ((e85b _ _ _).trans e85)))) hL (fun j hj1 hj2 => ?_)) (fun r hr => ?_)
  · rw [hF j (by omega) hj2]
    unfold fM
    repeat' split
    all_goals first | rfl | omega
  · rw [wp_some]
    exact ⟨hr.1, (((((hs.1.wr (by decide)).wr (by decide)).wr (by decide)).wr (by decide)).mo (by decide)).tr (hr.2.mo (by decide))⟩
theorem foundOf_m (hW : Wf w) (hL : LR w g) (hw : rd σ 85 = w) {p q : Int} (hp : isP w p) (hq : isP w q) : wp (fX11_foundOf p q σ) (fun r => r.1 = foundW w p q ∧ Fr [93, 94] σ r.2) := by
  unfold fX11_foundOf
  rw [wp_bind]
  refine wp_mono (matchOf_m hW hL hw hp hq) (fun r hr => ?_)
  rw [wp_bind]
  refine wp_mono (matchOf_m hW hL ((funext fun j => hr.2 85 j (by decide)).trans hw) hq hp) (fun r2 hr2 => ?_)
  rw [wp_some, les_eq, hr.1, hr2.1]
  exact ⟨rfl, hr.2.tr hr2.2⟩
theorem liftOf_m (hW : Wf w) (hL : LR w g) (hw : rd σ 85 = w) {p q x c : Int} (hp : isP w p) (hq : isP w q) (hx : isF w x) (hc : isF w c) : wp (fX11_liftOf p q x c σ) (fun r => r.1 = liftW w p q (foundW w p q) (apW x c) (w (4 + c)) ∧ Fr [93, 94] σ r.2) := by
  have hf := foundW_r w p q
  have hy := hW.2.1 c hc
  have ha := apW_r (isF_b hx) (isF_b hc)
  have hxb := isF_b hx
  have hcb := isF_b hc
  unfold fX11_liftOf
  rw [wp_bind]
  refine wp_mono (foundOf_m hW hL hw hp hq) (fun r hr => ?_)
  have e85r : rd r.2 85 = w := (funext fun j => hr.2 85 j (by decide)).trans hw
  rw [wp_bind]
  refine wp_mono (laysTwo_m hW e85r hp hq) (fun s hs => ?_)
  have e85 : rd s 85 = w := (funext fun j => hs.1 85 j (by decide)).trans e85r
  have e85b : ∀ (t : Sg) (i z : Int), rd (wr t 94 i z) 85 = rd t 85 := fun t i z => (funext fun j => rq_c (by decide))
  rw [hr.1, apart_eq (by omega) (by omega), bw_id (z := 4 + c) (by omega) (by omega), grd_pos (by omega)]
  simp only [e85b, e85]
  have hF := fact_m (i := 8) (v := w (4 + c)) (bw_id (by omega) (by omega)) (fact_m (i := 7) (v := apW x c) (bw_id (by omega) (by omega)) (fact_m (i := 9) (v := foundW w p q) (bw_id (by omega) (by omega)) hs.2))
  rw [bw_id (z := 2 * foundW w p q) (by omega) (by omega), bw_id (z := 2 * foundW w p q - apW x c) (by omega) (by omega), wp_bind]
  refine wp_mono (says_m (fLi_nr hW hp hq hf (by omega : 0 ≤ apW x c ∧ apW x c ≤ 20) hy) ((e85b _ _ _).trans ((e85b _ _ _).trans ((e85b _ _ _).trans e85))) hL (fun j hj1 hj2 => ?_)) (fun r2 hr2 => ?_)
  · rw [hF j (by omega) hj2]
    unfold fLi
    repeat' split
    all_goals first | rfl | omega
  · rw [wp_some]
    exact ⟨hr2.1, hr.2.tr ((((((hs.1.wr (by decide)).wr (by decide)).wr (by decide))).mo (by decide)).tr (hr2.2.mo (by decide)))⟩
theorem meltOf_m (hW : Wf w) (hL : LR w g) (hw : rd σ 85 = w) {c : Int} (hc : isF w c) : wp (fX11_meltOf c σ) (fun r => r.1 = meltW w (w (4 + c)) ∧ Fr [93, 94] σ r.2) := by
  have hy := hW.2.1 c hc
  have hcb := isF_b hc
  have hd := hW.1.2.2.2.2.2.2.1
  unfold fX11_meltOf
  rw [wp_bind]
  refine wp_mono (clears_m hw (bw_id (by omega) (by omega))) (fun s hs => ?_)
  have e85 : rd s 85 = w := (funext fun j => hs.1 85 j (by decide)).trans hw
  have e85b : rd (wr s 94 8 (w (4 + c))) 85 = w := (funext fun j => rq_c (by decide)).trans e85
  rw [bw_id (z := 4 + c) (by omega) (by omega), grd_pos (by omega), e85, wp_bind]
  refine wp_mono (says_m (fMe_nr hW hy) e85b hL (fun j hj1 hj2 => ?_)) (fun r hr => ?_)
  · rw [fact_m (bw_id (by omega) (by omega)) hs.2 j (by omega) hj2]
    unfold fMe
    repeat' split
    all_goals first | rfl | omega
  · rw [wp_some]
    exact ⟨hr.1, ((hs.1.wr (by decide)).mo (by decide)).tr (hr.2.mo (by decide))⟩
theorem isIn_m {x a c : Int} : fX11_isIn x a c = if a ≤ x ∧ x ≤ c then 1 else 0 := by
  unfold fX11_isIn
  repeat' split
  all_goals first | rfl | omega
theorem isOn_m (hW : Wf w) (hw : rd σ 85 = w) (x y : Int) : fX11_isOn x y σ = if (0 ≤ x ∧ x < w 80) ∧ 0 ≤ y ∧ y < w 81 then 1 else 0 := by
  have h1 := hW.1.1
  have h2 := hW.1.2.1
  unfold fX11_isOn
  rw [hw, bw_id (z := w 80 - 1) (by omega) (by omega), bw_id (z := w 81 - 1) (by omega) (by omega), isIn_m, isIn_m]
  repeat' split
  all_goals first | rfl | omega
theorem isField_m (hW : Wf w) (hw : rd σ 85 = w) (c : Int) : fX11_isField c σ = if isF w c then 1 else 0 := by
  have h1 := hW.1.1
  have h2 := hW.1.2.1
  unfold fX11_isField isF
  rw [isIn_m]
  by_cases h : 0 ≤ c ∧ c ≤ 63
  · rw [if_pos h, if_neg (by decide), trm_pos (by omega) (by omega) (by omega) (by omega), tdv_pos (by omega) (by omega) (by omega) (by omega), isOn_m hW hw]
    repeat' split
    all_goals first | rfl | omega
  · rw [if_neg h, if_pos rfl, if_neg (by omega)]
theorem isPerson_m (hW : Wf w) (hw : rd σ 85 = w) (p : Int) : fX11_isPerson p σ = if isP w p then 1 else 0 := by
  have h1 := hW.1.2.2.2.2.2.1
  unfold fX11_isPerson isP
  rw [hw, bw_id (z := w 85 - 1) (by omega) (by omega), isIn_m]
  repeat' split
  all_goals first | rfl | omega
theorem isFree_m (hw : rd σ 85 = w) {p : Int} (h : 0 ≤ p ∧ p < 12) : fX11_isFree p σ = some (if w (68 + p) = -1 then 1 else 0) := by
  unfold fX11_isFree
  rw [hw, bw_id (z := 68 + p) (by omega) (by omega), grd_pos (by omega)]
  split <;> rfl
theorem areUnlike_m (hW : Wf w) (hw : rd σ 85 = w) (p q : Int) : fX11_areUnlike p q σ = some (if isP w p ∧ isP w q ∧ w (91 + p) ≠ w (91 + q) then 1 else 0) := by
  have h1 := hW.1.2.2.2.2.2.1
  unfold fX11_areUnlike
  rw [isPerson_m hW hw, isPerson_m hW hw]
  by_cases hp : isP w p
  · by_cases hq : isP w q
    · rw [if_pos hp, if_neg (by decide), if_pos hq, if_neg (by decide), hw, bw_id (z := 91 + p) (by omega) (by omega), bw_id (z := 91 + q) (by omega) (by omega), grd_pos (by omega), grd_pos (by omega)]
      by_cases h : w (91 + p) = w (91 + q)
      · rw [if_pos h, if_neg (fun z => z.2.2 h)]
      · rw [if_neg h, if_pos ⟨hp, hq, h⟩]
    · rw [if_pos hp, if_neg (by decide), if_neg hq, if_pos rfl, if_neg (fun z => hq z.2.1)]
  · rw [if_neg hp, if_pos rfl, if_neg (fun z => hp z.1)]
end MMatch
