/-! the model reads THE LAW's text -/
theorem mk0_0 : ∀ c : Nat, c < 63 → (mkK 0 (c : Int) = 0 ↔ (c : Int) = 0) := by decide +kernel
theorem mk0_1 : ∀ c : Nat, c < 63 → (mkK 0 (c : Int) = 2 ↔ (c : Int) = 1) := by decide +kernel
theorem mk0_2 : ∀ c : Nat, c < 63 → (mkK 0 (c : Int) = 3 ↔ (c : Int) = 6) := by decide +kernel
theorem mk0_3 : ∀ c : Nat, c < 63 → (mkK 0 (c : Int) = 4 ↔ (c : Int) = 7) := by decide +kernel
theorem mk0_4 : ∀ c : Nat, c < 63 → (mkK 0 (c : Int) = 5 ↔ (c : Int) = 8) := by decide +kernel
theorem mk0_5 : ∀ c : Nat, c < 63 → (mkK 0 (c : Int) = 6 ↔ (c : Int) = 9) := by decide +kernel
theorem mk0_6 : ∀ c : Nat, c < 63 → (mkK 0 (c : Int) = 140 ↔ (c : Int) = 40) := by decide +kernel
theorem mk0_7 : ∀ c : Nat, c < 63 → (mkK 0 (c : Int) = 141 ↔ (c : Int) = 41) := by decide +kernel
theorem mk0_8 : ∀ c : Nat, c < 63 → (mkK 0 (c : Int) = 142 ↔ (c : Int) = 42) := by decide +kernel
theorem mk0_9 : ∀ c : Nat, c < 63 → (mkK 0 (c : Int) = 143 ↔ (c : Int) = 43) := by decide +kernel
theorem mk0_10 : ∀ c : Nat, c < 63 → (mkK 0 (c : Int) = 145 ↔ (c : Int) = 45) := by decide +kernel
theorem mk0_11 : ∀ c : Nat, c < 63 → (mkK 0 (c : Int) = 147 ↔ (c : Int) = 47) := by decide +kernel
theorem mk0_12 : ∀ c : Nat, c < 63 → (mkK 0 (c : Int) = 159 ↔ (c : Int) = 59) := by decide +kernel
theorem mk0_13 : ∀ c : Nat, c < 63 → (mkK 0 (c : Int) = 160 ↔ (c : Int) = 60) := by decide +kernel
theorem mk0_14 : ∀ c : Nat, c < 63 → (mkK 0 (c : Int) = 161 ↔ (c : Int) = 61) := by decide +kernel
theorem mk0_15 : ∀ c : Nat, c < 63 → (mkK 0 (c : Int) = 162 ↔ (c : Int) = 62) := by decide +kernel
theorem mk0_16 : ∀ c : Nat, c < 63 → (20 ≤ mkK 0 (c : Int) ∧ mkK 0 (c : Int) ≤ 22 ↔ 3 ≤ (c : Int) ∧ (c : Int) ≤ 5) := by decide +kernel
theorem mk0_17 : ∀ c : Nat, c < 63 → (3 ≤ (c : Int) ∧ (c : Int) ≤ 5 → mkK 0 (c : Int) = 17 + (c : Int)) := by decide +kernel
theorem mk0_18 : ∀ c : Nat, c < 63 → (41 ≤ mkK 0 (c : Int) ∧ mkK 0 (c : Int) ≤ 50 ↔ 10 ≤ (c : Int) ∧ (c : Int) ≤ 19) := by decide +kernel
theorem mk0_19 : ∀ c : Nat, c < 63 → (10 ≤ (c : Int) ∧ (c : Int) ≤ 19 → mkK 0 (c : Int) = 31 + (c : Int)) := by decide +kernel
theorem mk0 {c : Int} (h : 0 ≤ c ∧ c ≤ 62) : ((mkK 0 c = 0 ↔ c = 0) ∧ (mkK 0 c = 2 ↔ c = 1) ∧ (mkK 0 c = 3 ↔ c = 6) ∧ (mkK 0 c = 4 ↔ c = 7) ∧ (mkK 0 c = 5 ↔ c = 8) ∧ (mkK 0 c = 6 ↔ c = 9)) ∧ ((mkK 0 c = 140 ↔ c = 40) ∧ (mkK 0 c = 141 ↔ c = 41) ∧ (mkK 0 c = 142 ↔ c = 42) ∧ (mkK 0 c = 143 ↔ c = 43) ∧ (mkK 0 c = 145 ↔ c = 45) ∧ (mkK 0 c = 147 ↔ c = 47) ∧ (mkK 0 c = 159 ↔ c = 59) ∧ (mkK 0 c = 160 ↔ c = 60) ∧ (mkK 0 c = 161 ↔ c = 61) ∧ (mkK 0 c = 162 ↔ c = 62)) ∧ ((20 ≤ mkK 0 c ∧ mkK 0 c ≤ 22 ↔ 3 ≤ c ∧ c ≤ 5) ∧ (3 ≤ c ∧ c ≤ 5 → mkK 0 c = 17 + c) ∧ (41 ≤ mkK 0 c ∧ mkK 0 c ≤ 50 ↔ 10 ≤ c ∧ c ≤ 19) ∧ (10 ≤ c ∧ c ≤ 19 → mkK 0 c = 31 + c)) := by
  have hc : c.toNat < 63 := by omega
  have e : ((c.toNat : Nat) : Int) = c := by omega
  have k0 := mk0_0 c.toNat hc
  have k1 := mk0_1 c.toNat hc
  have k2 := mk0_2 c.toNat hc
  have k3 := mk0_3 c.toNat hc
  have k4 := mk0_4 c.toNat hc
  have k5 := mk0_5 c.toNat hc
  have k6 := mk0_6 c.toNat hc
  have k7 := mk0_7 c.toNat hc
  have k8 := mk0_8 c.toNat hc
  have k9 := mk0_9 c.toNat hc
  have k10 := mk0_10 c.toNat hc
  have k11 := mk0_11 c.toNat hc
  have k12 := mk0_12 c.toNat hc
  have k13 := mk0_13 c.toNat hc
  have k14 := mk0_14 c.toNat hc
  have k15 := mk0_15 c.toNat hc
  have k16 := mk0_16 c.toNat hc
  have k17 := mk0_17 c.toNat hc
  have k18 := mk0_18 c.toNat hc
  have k19 := mk0_19 c.toNat hc
  rw [e] at k0 k1 k2 k3 k4 k5 k6 k7 k8 k9 k10 k11 k12 k13 k14 k15 k16 k17 k18 k19
  exact ⟨⟨k0, k1, k2, k3, k4, k5⟩, ⟨k6, k7, k8, k9, k10, k11, k12, k13, k14, k15⟩, k16, k17, k18, k19⟩
def FrM (σ0 τ : Sg) : Prop := ∀ (c : Nat) (i : Int), c ≠ 90 → ¬ (c = 84 ∧ (i = 14 ∨ (17 ≤ i ∧ i ≤ 22) ∨ i = 24)) → rd τ c i = rd σ0 c i
theorem FrM.rf {σ : Sg} : FrM σ σ := fun _ _ _ _ => rfl
theorem FrM.tr {σ τ ρ : Sg} (h : FrM σ τ) (k : FrM τ ρ) : FrM σ ρ := fun c i a b => (k c i a b).trans (h c i a b)
theorem FrM.fx {σ τ ρ : Sg} (h : FrM σ τ) (k : Fx τ ρ) : FrM σ ρ := fun c i a b => (k c i (by omega)).trans (h c i a b)
theorem FrM.wr {σ τ : Sg} (h : FrM σ τ) {i v : Int} (hi : i = 14 ∨ (17 ≤ i ∧ i ≤ 22) ∨ i = 24) : FrM σ (wr τ 84 i v) := fun c j a b => by
  rw [rd_wr, if_neg (fun q => b ⟨q.1, by rw [q.2]; exact hi⟩)]
  exact h c j a b
theorem frm9 {σ τ : Sg} (h : FrM σ τ) {i v : Int} : FrM σ (wr τ 90 i v) := fun c j a b => by
  rw [rd_wr, if_neg (fun q => a q.1)]
  exact h c j a b
def gS (ls : Ls) (i : Nat) : Int × Int := ls.getD i (0, 0)
theorem gS_l {c d : Ls} {i : Nat} (h : i < c.length) : gS (c ++ d) i = gS c i := by
  unfold gS
  rw [List.getD_eq_getElem?_getD, List.getD_eq_getElem?_getD, List.getElem?_append_left h]
theorem gS_r {c d : Ls} (i : Nat) : gS (c ++ d) (c.length + i) = gS d i := by
  unfold gS
  rw [List.getD_eq_getElem?_getD, List.getD_eq_getElem?_getD, List.getElem?_append_right (Nat.le_add_right _ _), Nat.add_sub_cancel_left]
def LM (ls : Ls) (τ : Sg) : Prop := rd τ 84 14 = ls.length ∧ ∀ i : Nat, i < ls.length → rd τ 90 (2 * (i : Int)) = (gS ls i).1 ∧ ((gS ls i).1 = 0 ∨ (gS ls i).1 = 26 → rd τ 90 (2 * (i : Int) + 1) = (gS ls i).2)
section
variable {t : Int → Int} {z : Int} {K V : Nat → Int} {N : Nat} {σ0 : Sg}
noncomputable def kT (t : Int → Int) (z : Int) (j : Nat) : Int := tK t z (psT t z j)
def vT (t : Int → Int) (z : Int) (j : Nat) : Int := tV t z (psT t z j)
def pT (t : Int → Int) (z : Int) (j : Nat) : Int := tP t z (psT t z j)
theorem kT_r (j : Nat) : 0 ≤ kT t z j ∧ kT t z j ≤ 62 := (tK_r (t := t) (z := z) (p := psT t z j)).2
def AtM (t : Int → Int) (z : Int) (N : Nat) (σ0 : Sg) (d : Int) (j : Nat) (ls : Ls) (τ : Sg) : Prop := FrM σ0 τ ∧ (TPm t z 0 τ ∧ TKm t z 0 (psT t z j) τ ∧ rd τ 84 24 = d) ∧ LM ls τ ∧ j ≤ N
def MRes (t : Int → Int) (z : Int) (N : Nat) (σ0 : Sg) (d : Int) (r : Ps) (o : Option (Int × Sg)) : Prop := match r with
  | .error e => wp o (fun q => q.1 = 0 ∧ FrM σ0 q.2 ∧ rd q.2 84 21 = e.1 ∧ rd q.2 84 22 = pT t z e.2)
  | .ok a => wp o (fun q => q.1 = 1 ∧ AtM t z N σ0 d a.1 a.2 q.2)
theorem MRes_bd {d1 d2 : Int} {r : Ps} {g : Nat → Ls → Ps} {o : Option (Int × Sg)} {k : Int × Sg → Option (Int × Sg)} (h : MRes t z N σ0 d1 r o) (hk0 : ∀ s, k (0, s) = some (0, s)) (hk1 : ∀ j l s, r = .ok (j, l) → AtM t z N σ0 d1 j l s → MRes t z N σ0 d2 (g j l) (k (1, s))) : MRes t z N σ0 d2 (bdP r g) (o.bind k) := by
  cases r with
  | error e =>
    obtain ⟨⟨q1, q2⟩, e1, e2, e3⟩ := h
    have e2 : q1 = 0 := e2
    rw [e1, Option.bind_some, e2, hk0]
    exact ⟨_, rfl, rfl, e3⟩
  | ok a =>
    obtain ⟨⟨q1, q2⟩, e1, e2, e3⟩ := h
    have e2 : q1 = 1 := e2
    rw [e1, Option.bind_some, e2]
    exact hk1 a.1 a.2 q2 rfl e3
theorem MRes_w {d : Int} {r : Ps} {o : Option Sg} {k : Sg → Option (Int × Sg)} {Q : Sg → Prop} (h : wp o Q) (hk : ∀ s, Q s → MRes t z N σ0 d r (k s)) : MRes t z N σ0 d r (o.bind k) := by
  obtain ⟨s, e1, e2⟩ := h
  rw [e1, Option.bind_some]
  exact hk s e2
theorem MRes_done {d : Int} {j : Nat} {ls : Ls} {τ : Sg} (h : AtM t z N σ0 d j ls τ) : MRes t z N σ0 d (.ok (j, ls)) (some (1, τ)) := ⟨_, rfl, rfl, h⟩
theorem bad0_m {d d2 f : Int} {j : Nat} {ls : Ls} {τ : Sg} (hf : 0 ≤ f ∧ f ≤ 9) (h : AtM t z N σ0 d j ls τ) : MRes t z N σ0 d2 (.error (f, j)) (fX11_bad f τ) := by
  have h19 : rd τ 84 19 = pT t z j := h.2.1.2.1.2.2.1
  refine ⟨_, rfl, rfl, (h.1.wr (by omega)).wr (by omega), ?_, ?_⟩
  · rw [rq_i (by decide), rq_s, bw_id (by omega) (by omega)]
  · rw [rq_s, rq_i (by decide), h19, ← h19, rd_bw]
theorem bad_m {d d2 f : Int} {j : Nat} {ls : Ls} {τ : Sg} (hf : 0 ≤ f ∧ f ≤ 9) (h : AtM t z N σ0 d j ls τ) : MRes t z N σ0 d2 (.error (f, j)) ((fX11_bad f τ).bind fun q => some (q.1, q.2)) := by
  obtain ⟨q, e1, e2⟩ := bad0_m (d2 := d2) hf h
  exact ⟨q, by rw [e1]; rfl, e2⟩
theorem next_at (hO : TO t z) {d : Int} {j : Nat} {ls : Ls} {τ : Sg} (h : AtM t z N σ0 d j ls τ) (hj : j < N) : wp (fX11_next0 τ) (AtM t z N σ0 d (j + 1) ls) := by
  obtain ⟨h1, ⟨h2, h3, h4⟩, ⟨h5, h6⟩, h7⟩ := h
  have r := psT_r (t := t) hO.1.1 (j + 1)
  refine wp_mono (nxt_m hO h2 (by decide) (p := psT t z (j + 1)) h3.1 r.1 r.2) (fun s hs => ?_)
  obtain ⟨f, k⟩ := hs
  exact ⟨h1.fx f, ⟨TPm_fx h2 f, k, (f 84 24 (by omega)).trans h4⟩, ⟨(f 84 14 (by omega)).trans h5, fun i hi => by rw [f 90 _ (by omega), f 90 _ (by omega)]; exact h6 i hi⟩, hj⟩
theorem dep_m {d d2 : Int} {j : Nat} {ls : Ls} {τ : Sg} (h : AtM t z N σ0 d j ls τ) (hd : 0 ≤ d2 ∧ d2 ≤ 9) : AtM t z N σ0 d2 j ls (wr τ 84 24 d2) := by
  obtain ⟨h1, ⟨h2, h3, h4⟩, ⟨h5, h6⟩, h7⟩ := h
  refine ⟨h1.wr (by omega), ⟨⟨?_, ?_, fun i a b => ?_⟩, ⟨?_, ?_, ?_, fun q => ?_⟩, ?_⟩, ⟨?_, fun i hi => ?_⟩, h7⟩
  · rw [rq_i (by decide)]; exact h2.1
  · rw [rq_i (by decide)]; exact h2.2.1
  · rw [rq_c (by decide)]; exact h2.2.2 i a b
  · rw [rq_i (by decide)]; exact h3.1
  · rw [rq_i (by decide)]; exact h3.2.1
  · rw [rq_i (by decide)]; exact h3.2.2.1
  · rw [rq_i (by decide)]; exact h3.2.2.2 q
  · rw [rq_s, bw_id (by omega) (by omega)]
  · rw [rq_i (by decide)]; exact h5
  · rw [rq_c (by decide), rq_c (by decide)]; exact h6 i hi
theorem lay_m {d x1 x2 : Int} {s : Int × Int} {j : Nat} {ls : Ls} {τ : Sg} (h : AtM t z N σ0 d j ls τ) (hl : ls.length ≤ 409) (h1 : x1 = s.1) (h1r : 0 ≤ x1 ∧ x1 ≤ 99) (h2 : s.1 = 0 ∨ s.1 = 26 → x2 = s.2) (h2r : bw x2 = x2) : wp (fX11_lay x1 x2 τ) (AtM t z N σ0 d j (ls ++ [s])) := by
  obtain ⟨a1, ⟨a2, a3, a4⟩, ⟨a5, a6⟩, a7⟩ := h
  unfold fX11_lay
  simp only [rq_c (show (84 : Nat) ≠ 90 by decide), a5]
  rw [bw_id (z := 2 * ((ls.length : Nat) : Int)) (by omega) (by omega), bw_id (z := 2 * ((ls.length : Nat) : Int) + 1) (by omega) (by omega), bw_id (z := ((ls.length : Nat) : Int) + 1) (by omega) (by omega), grd_pos (by omega), grd_pos (by omega), wp_some]
  refine ⟨(frm9 (frm9 a1)).wr (by omega), ⟨⟨?_, ?_, fun i a b => ?_⟩, ⟨?_, ?_, ?_, fun q => ?_⟩, ?_⟩, ⟨?_, fun i hi => ?_⟩, a7⟩
  · rw [rq_i (by decide), rq_c (by decide), rq_c (by decide)]; exact a2.1
  · rw [rq_i (by decide), rq_c (by decide), rq_c (by decide)]; exact a2.2.1
  · rw [rq_c (by decide), rq_c (by decide), rq_c (by decide)]; exact a2.2.2 i a b
  · rw [rq_i (by decide), rq_c (by decide), rq_c (by decide)]; exact a3.1
  · rw [rq_i (by decide), rq_c (by decide), rq_c (by decide)]; exact a3.2.1
  · rw [rq_i (by decide), rq_c (by decide), rq_c (by decide)]; exact a3.2.2.1
  · rw [rq_i (by decide), rq_c (by decide), rq_c (by decide)]; exact a3.2.2.2 q
  · rw [rq_i (by decide), rq_c (by decide), rq_c (by decide)]; exact a4
  · rw [rq_s, bw_id (by omega) (by omega), List.length_append]; simp
  · rw [List.length_append] at hi
    simp only [List.length_cons, List.length_nil] at hi
    rw [rq_c (show (90 : Nat) ≠ 84 by decide), rq_c (show (90 : Nat) ≠ 84 by decide)]
    by_cases e : i = ls.length
    · have g : gS (ls ++ [s]) ls.length = s := by
        have g := gS_r (c := ls) (d := [s]) 0
        rw [Nat.add_zero] at g
        rw [g]; rfl
      rw [e, g, rq_i (by omega), rq_s, rq_s, h2r, bw_id (by omega) (by omega)]
      exact ⟨h1, h2⟩
    · rw [gS_l (by omega), rq_i (by omega), rq_i (by omega), rq_i (by omega), rq_i (by omega)]
      exact a6 i (by omega)
theorem need_m (hO : TO t z) (H : HK (kT t z) (vT t z) N) {d x c : Int} {j : Nat} {ls : Ls} {τ : Sg} (h : AtM t z N σ0 d j ls τ) (hx : mkK 0 (kT t z j) = x ↔ kT t z j = c) (hc : c ≠ 0) : MRes t z N σ0 d (clA (kT t z) c j ls) (fX11_need x τ) := by
  unfold fX11_need clA
  have tk : rd τ 84 18 = mkK 0 (kT t z j) := h.2.1.2.1.2.1
  rw [tk]
  by_cases e : kT t z j = c
  · rw [if_pos (hx.mpr e), if_pos e]
    exact MRes_w (next_at hO h (H.lt h.2.2.2 (by rw [e]; exact hc))) (fun s hs => MRes_done hs)
  · rw [if_neg (fun q => e (hx.mp q)), if_neg e]
    exact bad_m (by decide) h
theorem unit_m (hO : TO t z) (H : HK (kT t z) (vT t z) N) {d : Int} {j : Nat} {ls : Ls} {τ : Sg} (h : AtM t z N σ0 d j ls τ) (hb : (encL ls).length ≤ j) : MRes t z N σ0 d (unA (kT t z) (vT t z) j ls) (fX11_unit τ) := by
  have hl := encL_le ls
  have hN := H.1
  have hj := h.2.2.2
  have tk : rd τ 84 18 = mkK 0 (kT t z j) := h.2.1.2.1.2.1
  have kr := kT_r (t := t) (z := z) j
  obtain ⟨⟨-, m2, -⟩, -, -, -, mn, mv⟩ := mk0 kr
  unfold fX11_unit unA
  rw [tk, isIn_m]
  by_cases c1 : kT t z j = 1
  · have hlt := H.lt hj (by omega)
    rw [if_pos (m2.mpr c1), if_pos c1, if_neg (fun q => by have := mn.mp q; omega)]
    unfold fX11_unit_J30 fX11_unit_J46
    rw [if_pos p00]
    refine MRes_w (lay_m (s := (0, vT t z j)) h (by omega) rfl (by decide) (fun _ => h.2.1.2.1.2.2.2 c1) (rd_bw _ _ _)) (fun s hs => ?_)
    exact MRes_w (next_at hO hs hlt) (fun s2 hs2 => MRes_done hs2)
  · rw [if_neg (fun q => c1 (m2.mp q)), if_neg c1]
    by_cases c2 : 10 ≤ kT t z j ∧ kT t z j ≤ 19
    · have hlt := H.lt hj (by omega)
      rw [if_pos (mn.mpr c2), if_neg n10, if_pos c2]
      unfold fX11_unit_J30 fX11_unit_J46
      rw [if_neg n10, tk, mv c2, bw_id (z := 31 + kT t z j - 40) (by omega) (by omega)]
      refine MRes_w (lay_m (s := (kT t z j - 9, 0)) h (by omega) (show 31 + kT t z j - 40 = kT t z j - 9 by omega) (by omega) (fun q => by have q : kT t z j - 9 = 0 ∨ kT t z j - 9 = 26 := q; omega) (rd_bw _ _ _)) (fun s hs => ?_)
      exact MRes_w (next_at hO hs hlt) (fun s2 hs2 => MRes_done hs2)
    · rw [if_neg (fun q => c2 (mn.mp q)), if_pos p00, if_neg c2]
      exact bad_m (by decide) h
theorem prL_m (hO : TO t z) (H : HK (kT t z) (vT t z) N) {d : Int} : ∀ (n j : Nat) (ls : Ls) (τ : Sg), N - j < n → AtM t z N σ0 d j ls τ → (encL ls).length ≤ j → MRes t z N σ0 d (prL (kT t z) (vT t z) j ls) (fX11_product_L9 (fun s15 => (fX11_bad 1 s15).bind fun q16 => some (q16.1, q16.2)) (fun s17 => (fX11_bad 2 s17).bind fun q18 => some (q18.1, q18.2)) n τ)
  | 0, j, ls, τ, hn, h, hb => by omega
  | n + 1, j, ls, τ, hn, h, hb => by
    have hN := H.1
    have hj := h.2.2.2
    have tk : rd τ 84 18 = mkK 0 (kT t z j) := h.2.1.2.1.2.1
    obtain ⟨-, ⟨-, -, m42, -, -, m47, -⟩, -⟩ := mk0 (kT_r (t := t) (z := z) j)
    rw [prL_unf H ls hj, fX11_product_L9, tk]
    by_cases c1 : kT t z j = 42
    · have hlt := H.lt hj (by omega)
      rw [if_pos (m42.mpr c1), if_pos (show isPr (kT t z j) = true from decide_eq_true (Or.inl c1)), prG, if_pos c1, bdP_assoc]
      unfold fX11_product_J29 fX11_product_J44
      rw [tk, if_neg (fun q => by have := m47.mp q; omega)]
      refine MRes_w (next_at hO h hlt) (fun s hs => ?_)
      rw [if_pos p00]
      refine MRes_bd (unit_m hO H hs (by omega)) (fun s => rfl) (fun j1 l1 s1 e1 hs1 => ?_)
      have tl := TyA_len (TyA_unA H hlt ls) e1
      have ll := encL_le l1
      show MRes t z N σ0 d (prL (kT t z) (vT t z) j1 (l1 ++ [(25, 0)])) (if (1 : Int) = 0 then _ else (fX11_lay 25 0 s1).bind _)
      rw [if_neg n10]
      refine MRes_w (lay_m (s := (25, 0)) hs1 (by omega) rfl (by decide) (fun _ => rfl) rfl) (fun s2 hs2 => ?_)
      refine prL_m hO H n j1 _ s2 (by omega) hs2 ?_
      rw [encL_app, List.length_append, encL_one, encS_len, if_neg (by decide)]; omega
    rw [if_neg (fun q => c1 (m42.mp q))]
    by_cases c2 : kT t z j = 47
    · have hlt := H.lt hj (by omega)
      rw [if_pos (m47.mpr c2), if_pos (show isPr (kT t z j) = true from decide_eq_true (Or.inr c2)), prG, if_neg c1]
      unfold fX11_product_J29 fX11_product_J44
      rw [tk, if_pos (m47.mpr c2)]
      refine MRes_w (next_at hO h hlt) (fun s hs => ?_)
      have tk2 : rd s 84 18 = mkK 0 (kT t z (j + 1)) := hs.2.1.2.1.2.1
      obtain ⟨⟨-, m2, -⟩, -⟩ := mk0 (kT_r (t := t) (z := z) (j + 1))
      rw [if_neg n10, tk2, dvA]
      by_cases c3 : kT t z (j + 1) = 1
      · have hlt2 := H.lt (j := j + 1) hlt (by rw [c3]; decide)
        have hv : rd s 84 20 = vT t z (j + 1) := hs.2.1.2.1.2.2.2 c3
        have hvb : bw (vT t z (j + 1)) = vT t z (j + 1) := by rw [← hv]; exact rd_bw _ _ _
        rw [if_pos (m2.mpr c3), if_pos c3, hv]
        by_cases c4 : vT t z (j + 1) = 0
        · rw [if_pos c4, if_pos c4]
          exact bad_m (by decide) hs
        · rw [if_neg c4, if_neg c4, bdP_ok]
          refine MRes_w (next_at hO hs hlt2) (fun s2 hs2 => ?_)
          have ll := encL_le ls
          refine MRes_w (lay_m (s := (26, vT t z (j + 1))) hs2 (by omega) rfl (by decide) (fun _ => rfl) hvb) (fun s3 hs3 => ?_)
          refine prL_m hO H n (j + 1 + 1) _ s3 (by omega) hs3 ?_
          rw [encL_app, List.length_append, encL_one, encS_len, if_pos rfl]; omega
      · rw [if_neg (fun q => c3 (m2.mp q)), if_neg c3]
        exact bad_m (by decide) hs
    · rw [if_neg (fun q => c2 (m47.mp q)), if_neg (show ¬ isPr (kT t z j) = true from fun q => (of_decide_eq_true q).elim c1 c2)]
      exact MRes_done h
theorem prA_m (hO : TO t z) (H : HK (kT t z) (vT t z) N) {d : Int} {j : Nat} {ls : Ls} {τ : Sg} (h : AtM t z N σ0 d j ls τ) (hb : (encL ls).length ≤ j) : MRes t z N σ0 d (prA (kT t z) (vT t z) j ls) (fX11_product τ) := by
  unfold fX11_product prA
  refine MRes_bd (unit_m hO H h hb) (fun s => rfl) (fun j1 l1 s1 e1 hs1 => ?_)
  have tl := TyA_len (TyA_unA H h.2.2.2 ls) e1
  have hN := H.1
  exact prL_m hO H FU j1 l1 s1 (by unfold FU; omega) hs1 (by omega)
theorem suL_m (hO : TO t z) (H : HK (kT t z) (vT t z) N) {d : Int} : ∀ (n j : Nat) (ls : Ls) (τ : Sg), N - j < n → AtM t z N σ0 d j ls τ → (encL ls).length ≤ j → MRes t z N σ0 d (suL (kT t z) (vT t z) j ls) (fX11_sumUp_L9 n τ)
  | 0, j, ls, τ, hn, h, hb => by omega
  | n + 1, j, ls, τ, hn, h, hb => by
    have hN := H.1
    have hj := h.2.2.2
    have tk : rd τ 84 18 = mkK 0 (kT t z j) := h.2.1.2.1.2.1
    obtain ⟨-, ⟨-, -, -, m43, m45, -⟩, -⟩ := mk0 (kT_r (t := t) (z := z) j)
    rw [suL_unf H ls hj, fX11_sumUp_L9, tk]
    have go : ∀ y : Int, isSu (kT t z j) = true → (y, 0) = suC (kT t z j) → j < N → MRes t z N σ0 d (bdP (suG (kT t z) (vT t z) (kT t z j) (j + 1) ls) (suL (kT t z) (vT t z))) (fX11_sumUp_J46 (fX11_sumUp_L9 n) y τ) := by
      intro y _ hy hlt
      have y0 : (suC (kT t z j)).1 = y := by rw [← hy]
      have y1 : ¬ (suC (kT t z j)).1 = 26 := by unfold suC; split <;> decide
      have y2 : ¬ (suC (kT t z j)).1 = 0 := by unfold suC; split <;> decide
      have y3 : 0 ≤ (suC (kT t z j)).1 ∧ (suC (kT t z j)).1 ≤ 99 := by unfold suC; split <;> decide
      unfold fX11_sumUp_J46
      rw [suG, bdP_assoc]
      refine MRes_w (next_at hO h hlt) (fun s hs => ?_)
      refine MRes_bd (prA_m hO H hs (by omega)) (fun s => rfl) (fun j1 l1 s1 e1 hs1 => ?_)
      have tl := TyA_len (TyA_prA H hlt ls) e1
      have ll := encL_le l1
      show MRes t z N σ0 d (suL (kT t z) (vT t z) j1 (l1 ++ [suC (kT t z j)])) (if (1 : Int) = 0 then _ else (fX11_lay y 0 s1).bind _)
      rw [if_neg n10]
      refine MRes_w (lay_m (s := suC (kT t z j)) hs1 (by omega) y0.symm (by omega) (fun q => (q.elim y2 y1).elim) rfl) (fun s2 hs2 => ?_)
      refine suL_m hO H n j1 _ s2 (by omega) hs2 ?_
      rw [encL_app, List.length_append, encL_one, encS_len, if_neg y1]; omega
    unfold fX11_sumUp_J29
    rw [tk]
    by_cases c1 : kT t z j = 43
    · have ic : isSu (kT t z j) = true := decide_eq_true (Or.inl c1)
      rw [if_pos (m43.mpr c1), if_pos ic, if_pos (m43.mpr c1)]
      exact go 23 ic (by rw [c1]; rfl) (H.lt hj (by omega))
    rw [if_neg (fun q => c1 (m43.mp q))]
    by_cases c2 : kT t z j = 45
    · have ic : isSu (kT t z j) = true := decide_eq_true (Or.inr c2)
      rw [if_pos (m45.mpr c2), if_pos ic, if_neg (fun q => c1 (m43.mp q))]
      exact go 24 ic (by rw [c2]; rfl) (H.lt hj (by omega))
    · rw [if_neg (fun q => c2 (m45.mp q)), if_neg (show ¬ isSu (kT t z j) = true from fun q => (of_decide_eq_true q).elim c1 c2)]
      exact MRes_done h
theorem suA_m (hO : TO t z) (H : HK (kT t z) (vT t z) N) {d : Int} {j : Nat} {ls : Ls} {τ : Sg} (h : AtM t z N σ0 d j ls τ) (hb : (encL ls).length ≤ j) : MRes t z N σ0 d (suA (kT t z) (vT t z) j ls) (fX11_sumUp τ) := by
  unfold fX11_sumUp suA
  refine MRes_bd (prA_m hO H h hb) (fun s => rfl) (fun j1 l1 s1 e1 hs1 => ?_)
  have tl := TyA_len (TyA_prA H h.2.2.2 ls) e1
  have hN := H.1
  exact suL_m hO H FU j1 l1 s1 (by unfold FU; omega) hs1 (by omega)
/-! a B -/
theorem anL_m (hO : TO t z) (H : HK (kT t z) (vT t z) N) {d : Int} {f : Nat → Ls → Ps} {h0 : Nat} (F : TyF N h0 f) {rA rE rO : Sg → Option (Int × Sg)} (hS : ∀ j ls τ, AtM t z N σ0 d j ls τ → (encL ls).length ≤ j → MRes t z N σ0 d (f j ls) (rO τ)) : ∀ (n j : Nat) (ls : Ls) (τ : Sg), N - j < n → AtM t z N σ0 d j ls τ → (encL ls).length ≤ j → MRes t z N σ0 d (anL (kT t z) f j ls) (fX11_every_L9 rA rE rO n τ)
  | 0, j, ls, τ, hn, h, hb => by omega
  | n + 1, j, ls, τ, hn, h, hb => by
    have hN := H.1
    have hj := h.2.2.2
    have tk : rd τ 84 18 = mkK 0 (kT t z j) := h.2.1.2.1.2.1
    obtain ⟨⟨-, -, -, -, m5, -⟩, -⟩ := mk0 (kT_r (t := t) (z := z) j)
    rw [anL_unf H F ls hj, fX11_every_L9, tk]
    by_cases c : kT t z j = 8
    · have hlt := H.lt hj (by omega)
      rw [if_pos (m5.mpr c), if_pos (show isAn (kT t z j) = true from decide_eq_true c), bdP_assoc]
      refine MRes_w (next_at hO h hlt) (fun s hs => ?_)
      refine MRes_bd (hS _ _ _ hs (by omega)) (fun s => rfl) (fun j1 l1 s1 e1 hs1 => ?_)
      have tl := TyA_len (F (j + 1) ls hlt) e1
      have ll := encL_le l1
      show MRes t z N σ0 d (anL (kT t z) f j1 (l1 ++ [(31, 0)])) (if (1 : Int) = 0 then _ else (fX11_lay 31 0 s1).bind _)
      rw [if_neg n10]
      refine MRes_w (lay_m (s := (31, 0)) hs1 (by omega) rfl (by decide) (fun _ => rfl) rfl) (fun s2 hs2 => ?_)
      refine anL_m hO H F hS n j1 _ s2 (by omega) hs2 ?_
      rw [encL_app, List.length_append, encL_one, encS_len, if_neg (by decide)]; omega
    · rw [if_neg (fun q => c (m5.mp q)), if_neg (show ¬ isAn (kT t z j) = true from fun q => c (of_decide_eq_true q))]
      exact MRes_done h
theorem evA_m (hO : TO t z) (H : HK (kT t z) (vT t z) N) {d : Int} {f : Nat → Ls → Ps} {h0 : Nat} (F : TyF N h0 f) {rA rE rO : Sg → Option (Int × Sg)} (hS : ∀ j ls τ, AtM t z N σ0 d j ls τ → (encL ls).length ≤ j → MRes t z N σ0 d (f j ls) (rO τ)) (j : Nat) (ls : Ls) (τ : Sg) (h : AtM t z N σ0 d j ls τ) (hb : (encL ls).length ≤ j) : MRes t z N σ0 d (evA (kT t z) f j ls) (gX11_every rA rE rO τ) := by
  unfold gX11_every evA
  refine MRes_bd (hS j ls τ h hb) (fun s => rfl) (fun j1 l1 s1 e1 hs1 => ?_)
  have tl := TyA_len (F j ls h.2.2.2) e1
  have hN := H.1
  exact anL_m hO H F hS FU j1 l1 s1 (by unfold FU; omega) hs1 (by omega)
theorem orL_m (hO : TO t z) (H : HK (kT t z) (vT t z) N) {d : Int} {f : Nat → Ls → Ps} {h0 : Nat} (F : TyF N h0 f) {rA rE rO : Sg → Option (Int × Sg)} (hS : ∀ j ls τ, AtM t z N σ0 d j ls τ → (encL ls).length ≤ j → MRes t z N σ0 d (evA (kT t z) f j ls) (rE τ)) : ∀ (n j : Nat) (ls : Ls) (τ : Sg), N - j < n → AtM t z N σ0 d j ls τ → (encL ls).length ≤ j → MRes t z N σ0 d (orL (kT t z) f j ls) (fX11_any_L9 rA rE rO n τ)
  | 0, j, ls, τ, hn, h, hb => by omega
  | n + 1, j, ls, τ, hn, h, hb => by
    have hN := H.1
    have hj := h.2.2.2
    have tk : rd τ 84 18 = mkK 0 (kT t z j) := h.2.1.2.1.2.1
    obtain ⟨⟨-, -, -, m4, -, -⟩, -⟩ := mk0 (kT_r (t := t) (z := z) j)
    rw [orL_unf H F ls hj, fX11_any_L9, tk]
    by_cases c : kT t z j = 7
    · have hlt := H.lt hj (by omega)
      rw [if_pos (m4.mpr c), if_pos (show isOr (kT t z j) = true from decide_eq_true c), bdP_assoc]
      refine MRes_w (next_at hO h hlt) (fun s hs => ?_)
      refine MRes_bd (hS _ _ _ hs (by omega)) (fun s => rfl) (fun j1 l1 s1 e1 hs1 => ?_)
      have tl := TyA_len (TyF_ev H F (j + 1) ls hlt) e1
      have ll := encL_le l1
      show MRes t z N σ0 d (orL (kT t z) f j1 (l1 ++ [(32, 0)])) (if (1 : Int) = 0 then _ else (fX11_lay 32 0 s1).bind _)
      rw [if_neg n10]
      refine MRes_w (lay_m (s := (32, 0)) hs1 (by omega) rfl (by decide) (fun _ => rfl) rfl) (fun s2 hs2 => ?_)
      refine orL_m hO H F hS n j1 _ s2 (by omega) hs2 ?_
      rw [encL_app, List.length_append, encL_one, encS_len, if_neg (by decide)]; omega
    · rw [if_neg (fun q => c (m4.mp q)), if_neg (show ¬ isOr (kT t z j) = true from fun q => c (of_decide_eq_true q))]
      exact MRes_done h
theorem anA_m (hO : TO t z) (H : HK (kT t z) (vT t z) N) {d : Int} {f : Nat → Ls → Ps} {h0 : Nat} (F : TyF N h0 f) {rA rE rO : Sg → Option (Int × Sg)} (hS : ∀ j ls τ, AtM t z N σ0 d j ls τ → (encL ls).length ≤ j → MRes t z N σ0 d (evA (kT t z) f j ls) (rE τ)) {j : Nat} {ls : Ls} {τ : Sg} (h : AtM t z N σ0 d j ls τ) (hb : (encL ls).length ≤ j) : MRes t z N σ0 d (anA (kT t z) f j ls) (gX11_any rA rE rO τ) := by
  unfold gX11_any anA
  refine MRes_bd (hS j ls τ h hb) (fun s => rfl) (fun j1 l1 s1 e1 hs1 => ?_)
  have tl := TyA_len (TyF_ev H F j ls h.2.2.2) e1
  have hN := H.1
  exact orL_m hO H F hS FU j1 l1 s1 (by unfold FU; omega) hs1 (by omega)
theorem tsA_m (hO : TO t z) (H : HK (kT t z) (vT t z) N) {d : Int} (rA rE rO : Sg → Option (Int × Sg)) {j : Nat} {ls : Ls} {τ : Sg} (h : AtM t z N σ0 d j ls τ) (hb : (encL ls).length ≤ j) : MRes t z N σ0 d (tsA (kT t z) (vT t z) j ls) ((fX11_sumUp τ).bind fun q14 => if q14.1 = 0 then some (0, q14.2) else if (rd q14.2 84 18) = 160 then fX11_oneTest_J147 rA rE rO 27 q14.2 else if (rd q14.2 84 18) = 161 then fX11_oneTest_J147 rA rE rO 28 q14.2 else if (rd q14.2 84 18) = 162 then fX11_oneTest_J147 rA rE rO 29 q14.2 else fX11_oneTest_J147 rA rE rO (-1) q14.2) := by
  have hN := H.1
  refine MRes_bd (suA_m hO H h hb) (fun s => rfl) (fun j1 l1 s e1 hs => ?_)
  have tl := TyA_len (TyA_suA H h.2.2.2 ls) e1
  have hj1 := hs.2.2.2
  have tk : rd s 84 18 = mkK 0 (kT t z j1) := hs.2.1.2.1.2.1
  obtain ⟨-, ⟨-, -, -, -, -, -, -, m60, m61, m62⟩, -⟩ := mk0 (kT_r (t := t) (z := z) j1)
  show MRes t z N σ0 d _ (if (1 : Int) = 0 then _ else if (rd s 84 18) = 160 then fX11_oneTest_J147 rA rE rO 27 s else if (rd s 84 18) = 161 then fX11_oneTest_J147 rA rE rO 28 s else if (rd s 84 18) = 162 then fX11_oneTest_J147 rA rE rO 29 s else fX11_oneTest_J147 rA rE rO (-1) s)
  rw [if_neg n10, tk, tsE]
  have fin : ∀ y : Int, y = kT t z j1 - 33 → 27 ≤ y → y ≤ 29 → MRes t z N σ0 d (bdP (suA (kT t z) (vT t z) (j1 + 1) l1) (apS (kT t z j1 - 33, 0))) (fX11_oneTest_J147 rA rE rO y s) := by
    intro y hy y1 y2
    have hlt := H.lt hj1 (by omega)
    unfold fX11_oneTest_J147
    rw [if_neg (by omega)]
    refine MRes_w (next_at hO hs hlt) (fun s2 hs2 => ?_)
    refine MRes_bd (suA_m hO H hs2 (by omega)) (fun s => rfl) (fun j3 l3 s3 e3 hs3 => ?_)
    have tl3 := TyA_len (TyA_suA H hlt l1) e3
    have ll := encL_le l3
    show MRes t z N σ0 d _ (if (1 : Int) = 0 then _ else (fX11_lay y 0 s3).bind _)
    rw [if_neg n10]
    exact MRes_w (lay_m (s := (kT t z j1 - 33, 0)) hs3 (by omega) hy (by omega) (fun _ => rfl) rfl) (fun s4 hs4 => MRes_done hs4)
  by_cases c0 : kT t z j1 = 60
  · rw [if_pos (m60.mpr c0), if_pos (Or.inl c0)]; exact fin 27 (by omega) (by decide) (by decide)
  rw [if_neg (fun q => c0 (m60.mp q))]
  by_cases c1 : kT t z j1 = 61
  · rw [if_pos (m61.mpr c1), if_pos (Or.inr (Or.inl c1))]; exact fin 28 (by omega) (by decide) (by decide)
  rw [if_neg (fun q => c1 (m61.mp q))]
  by_cases c2 : kT t z j1 = 62
  · rw [if_pos (m62.mpr c2), if_pos (Or.inr (Or.inr c2))]; exact fin 29 (by omega) (by decide) (by decide)
  rw [if_neg (fun q => c2 (m62.mp q)), if_neg (fun q => q.elim c0 (fun q => q.elim c1 c2))]
  unfold fX11_oneTest_J147
  rw [if_pos rfl]
  exact bad_m (by decide) hs
theorem opens_m (hO : TO t z) {d : Int} (hd : 0 ≤ d ∧ d < 8) {j : Nat} {ls : Ls} {τ : Sg} (h : AtM t z N σ0 d j ls τ) (hj : j < N) : wp (fX11_opens τ) (fun q => q.1 = 1 ∧ AtM t z N σ0 (d + 1) (j + 1) ls q.2) := by
  unfold fX11_opens
  rw [h.2.1.2.2, if_neg (by omega), bw_id (z := d + 1) (by omega) (by omega), wp_bind]
  refine wp_mono (next_at hO (dep_m (d2 := d + 1) h (by omega)) hj) (fun s hs => ?_)
  rw [wp_some]
  exact ⟨rfl, hs⟩
theorem onA_m (hO : TO t z) (H : HK (kT t z) (vT t z) N) : ∀ (r n : Nat) (d : Int), r ≤ 8 → d = 8 - (r : Int) → 3 * r + 1 ≤ n → ∀ j ls τ, AtM t z N σ0 d j ls τ → (encL ls).length ≤ j → MRes t z N σ0 d (onA (kT t z) (vT t z) r j ls) ((rg_X11_any n).2.2 τ) := by
  intro r
  induction r with
  | zero =>
    intro n d hr hx hn j ls τ h hb
    have hj := h.2.2.2
    have tk : rd τ 84 18 = mkK 0 (kT t z j) := h.2.1.2.1.2.1
    obtain ⟨⟨-, -, -, -, -, m6⟩, ⟨m40, -⟩, -⟩ := mk0 (kT_r (t := t) (z := z) j)
    cases n with
    | zero => omega
    | succ n =>
      show MRes t z N σ0 d _ (gX11_oneTest ((rg_X11_any n).1) ((rg_X11_any n).2.1) ((rg_X11_any n).2.2) τ)
      unfold gX11_oneTest fX11_opens
      rw [tk, onA, h.2.1.2.2]
      have no : ∀ k : Int × Sg → Option (Int × Sg), (∀ s, k (0, s) = some (0, s)) → MRes t z N σ0 d (.error (3, j)) ((if d = 8 then (fX11_bad 3 τ).bind fun q2 => some (q2.1, q2.2) else (fX11_next0 (wr τ 84 24 (bw (d + 1)))).bind fun s3 => some (1, s3)).bind k) := by
        intro k hk
        rw [if_pos (show d = 8 by omega)]
        exact MRes_bd (g := fun j l => .ok (j, l)) (r := .error (3, j)) (d1 := d) (bad_m (by decide) h) hk (fun j l s e => by cases e)
      by_cases c1 : kT t z j = 9
      · rw [if_pos (m6.mpr c1), if_pos (Or.inl c1)]; exact no _ (fun s => rfl)
      rw [if_neg (fun q => c1 (m6.mp q))]
      by_cases c2 : kT t z j = 40
      · rw [if_pos (m40.mpr c2), if_pos (Or.inr c2)]; exact no _ (fun s => rfl)
      rw [if_neg (fun q => c2 (m40.mp q)), if_neg (fun q => q.elim c1 c2)]
      exact tsA_m hO H _ _ _ h hb
  | succ r ih =>
    intro n d hr hx hn j ls τ h hb
    have hj := h.2.2.2
    have hN := H.1
    have tk : rd τ 84 18 = mkK 0 (kT t z j) := h.2.1.2.1.2.1
    obtain ⟨⟨-, -, -, -, -, m6⟩, ⟨m40, -⟩, -⟩ := mk0 (kT_r (t := t) (z := z) j)
    cases n with
    | zero => omega
    | succ n =>
      show MRes t z N σ0 d _ (gX11_oneTest ((rg_X11_any n).1) ((rg_X11_any n).2.1) ((rg_X11_any n).2.2) τ)
      unfold gX11_oneTest
      rw [tk, onA]
      by_cases c1 : kT t z j = 9
      · have hlt := H.lt hj (by omega)
        rw [if_pos (m6.mpr c1), if_pos c1]
        obtain ⟨⟨q1, q2⟩, o1, o2, o3⟩ := opens_m hO (by omega) h hlt
        have o2 : q1 = 1 := o2
        rw [o1, Option.bind_some, o2]
        show MRes t z N σ0 d _ (if (1 : Int) = 0 then _ else ((rg_X11_any n).2.2 q2).bind _)
        rw [if_neg n10]
        refine MRes_bd (ih n (d + 1) (by omega) (by omega) (by omega) (j + 1) ls q2 o3 (by omega)) (fun s => rfl) (fun j3 l3 s3 e3 hs3 => ?_)
        have tl3 := TyA_len (TyF_onA H r (j + 1) ls hlt) e3
        have ll := encL_le l3
        show MRes t z N σ0 d _ (if (1 : Int) = 0 then _ else (fX11_lay 30 0 (wr s3 84 24 (bw ((rd s3 84 24) - 1)))).bind _)
        rw [if_neg n10, hs3.2.1.2.2, show d + 1 - 1 = d by omega, bw_id (z := d) (by omega) (by omega)]
        exact MRes_w (lay_m (s := (30, 0)) (dep_m (d2 := d) hs3 (by omega)) (by omega) rfl (by decide) (fun _ => rfl) rfl) (fun s4 hs4 => MRes_done hs4)
      rw [if_neg (fun q => c1 (m6.mp q)), if_neg c1]
      by_cases c2 : kT t z j = 40
      · have hlt := H.lt hj (by omega)
        rw [if_pos (m40.mpr c2), if_pos c2]
        obtain ⟨⟨q1, q2⟩, o1, o2, o3⟩ := opens_m hO (by omega) h hlt
        have o2 : q1 = 1 := o2
        rw [o1, Option.bind_some, o2]
        show MRes t z N σ0 d _ (if (1 : Int) = 0 then _ else ((rg_X11_any n).1 q2).bind _)
        rw [if_neg n10]
        have st : MRes t z N σ0 (d + 1) (anA (kT t z) (onA (kT t z) (vT t z) r) (j + 1) ls) ((rg_X11_any n).1 q2) := by
          cases n with
          | zero => omega
          | succ n =>
            show MRes t z N σ0 (d + 1) _ (gX11_any ((rg_X11_any n).1) ((rg_X11_any n).2.1) ((rg_X11_any n).2.2) q2)
            cases n with
            | zero => omega
            | succ n =>
              refine anA_m hO H (TyF_onA H r) (fun j ls τ a b => ?_) o3 (by omega)
              show MRes t z N σ0 (d + 1) _ (gX11_every ((rg_X11_any n).1) ((rg_X11_any n).2.1) ((rg_X11_any n).2.2) τ)
              exact evA_m hO H (TyF_onA H r) (fun j ls τ a b => ih n (d + 1) (by omega) (by omega) (by omega) j ls τ a b) j ls τ a b
        refine MRes_bd st (fun s => rfl) (fun j3 l3 s3 e3 hs3 => ?_)
        show MRes t z N σ0 d _ (if (1 : Int) = 0 then _ else (fX11_need 141 s3).bind fun q12 => if q12.1 = 0 then some (0, q12.2) else some (1, (wr q12.2 84 24 (bw ((rd q12.2 84 24) - 1)))))
        obtain ⟨-, ⟨-, m41, -⟩, -⟩ := mk0 (kT_r (t := t) (z := z) j3)
        rw [if_neg n10, ← bdP_id (clA (kT t z) 41 j3 l3)]
        refine MRes_bd (need_m hO H hs3 m41 (by decide)) (fun s => rfl) (fun j4 l4 s4 _ hs4 => ?_)
        show MRes t z N σ0 d _ (if (1 : Int) = 0 then _ else some (1, (wr s4 84 24 (bw ((rd s4 84 24) - 1)))))
        rw [if_neg n10, hs4.2.1.2.2, show d + 1 - 1 = d by omega, bw_id (z := d) (by omega) (by omega)]
        exact MRes_done (dep_m (d2 := d) hs4 (by omega))
      · rw [if_neg (fun q => c2 (m40.mp q)), if_neg c2]
        exact tsA_m hO H _ _ _ h hb
theorem bA_m (hO : TO t z) (H : HK (kT t z) (vT t z) N) {j : Nat} {ls : Ls} {τ : Sg} (h : AtM t z N σ0 0 j ls τ) (hb : (encL ls).length ≤ j) : MRes t z N σ0 0 (anA (kT t z) (onA (kT t z) (vT t z) 8) j ls) (fX11_any 40 τ) := by
  show MRes t z N σ0 0 _ (gX11_any ((rg_X11_any 39).1) ((rg_X11_any 39).2.1) ((rg_X11_any 39).2.2) τ)
  refine anA_m hO H (TyF_onA H 8) (fun j ls τ a b => ?_) h hb
  show MRes t z N σ0 0 _ (gX11_every ((rg_X11_any 38).1) ((rg_X11_any 38).2.1) ((rg_X11_any 38).2.2) τ)
  exact evA_m hO H (TyF_onA H 8) (fun j ls τ a b => onA_m hO H 8 38 0 (by decide) (by decide) (by decide) j ls τ a b) j ls τ a b
end
