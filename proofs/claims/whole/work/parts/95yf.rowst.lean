/-! text(1), text(2), text(3): the model -/
def cW (k : Int) : Int := if k = 1 then 87 else if k = 2 then 88 else 89
def bW (k : Int) : Int := if k = 1 then 151 else if k = 2 then 215 else 239
def nW (k : Int) : Int := if k = 1 then 215 else if k = 2 then 239 else 275
def PRow (k : Int) (rs : List Rw) (w w' : Int → Int) : Prop := w' (cW k) = rs.length ∧ (∀ j : Int, j ≠ cW k → (j < bW k ∨ nW k ≤ j) → w' j = w j) ∧ RoM k rs (fun q => w' (bW k + q))
theorem RoM_sh {k : Int} {rs : List Rw} {m w' : Int → Int} {b e : Int} (h : RoM k rs m) (he : (if k = 1 then 4 * (rs.length : Int) else if k = 2 then 2 * (rs.length : Int) else 3 * (rs.length : Int)) = e) (hw : ∀ q : Int, 0 ≤ q → q < e → w' (b + q) = m q) : RoM k rs (fun q => w' (b + q)) := by
  intro i hi
  have q := h i hi
  by_cases c1 : k = 1
  · rw [if_pos c1] at he q ⊢
    simp only
    rw [hw _ (by omega) (by omega), hw _ (by omega) (by omega), hw _ (by omega) (by omega), hw _ (by omega) (by omega)]
    exact q
  · rw [if_neg c1] at he q ⊢
    by_cases c2 : k = 2
    · rw [if_pos c2] at he q ⊢
      simp only
      rw [hw _ (by omega) (by omega), hw _ (by omega) (by omega)]
      exact q
    · rw [if_neg c2] at he q ⊢
      simp only
      rw [hw _ (by omega) (by omega), hw _ (by omega) (by omega), hw _ (by omega) (by omega)]
      exact q
theorem putsT_m {k : Int} (hk : k = 1 ∨ k = 2 ∨ k = 3) {rs : List Rw} {σ : Sg} (h15 : rd σ 84 15 = rs.length) (hr : RoM k rs (rd σ 91)) (hcap : (rs.length : Int) ≤ capR k) : wp (fX11_putsText k σ) (fun r => r.1 = rs.length ∧ (∀ (c : Nat) (i : Int), c ≠ 85 → ¬ (c = 84 ∧ i = 4) → rd r.2 c i = rd σ c i) ∧ (k = 3 → rd r.2 84 4 = rd σ 84 4) ∧ (k ≠ 3 → rd r.2 84 4 = 0) ∧ PRow k rs (rd σ 85) (rd r.2 85)) := by
  unfold fX11_putsText
  have f4 : ∀ i : Int, rd (wr σ 84 4 0) 85 i = rd σ 85 i := fun i => rq_c (by decide)
  rcases hk with rfl | rfl | rfl
  · have hcap : (rs.length : Int) ≤ 16 := hcap
    rw [if_neg (by decide), if_neg (by decide)]
    unfold fX11_forgets
    rw [Option.bind_some, if_pos rfl, wp_bind]
    refine wp_mono (puts_m (n := rs.length) (e := 4 * (rs.length : Int)) (by rw [rq_i (by decide)]; exact h15) rfl (by omega) (by decide) (by decide) (by decide) (by omega)) (fun r hr2 => ?_)
    obtain ⟨r1, r2, r3, r4, r5⟩ := hr2
    rw [wp_some]
    refine ⟨r1, fun c i c1 c2 => ?_, fun q => absurd q (by decide), fun _ => ?_, r3, fun j j1 j2 => ?_, ?_⟩
    · exact (r2 c i (by simp; exact c1)).trans (by rw [rd_wr, if_neg c2])
    · show rd r.2 84 4 = 0
      rw [r2 84 4 (by decide), rq_s]; rfl
    · have j2 : j < 151 ∨ 215 ≤ j := j2
      exact (r4 j j1 (by omega)).trans (f4 j)
    · refine RoM_sh (e := 4 * (rs.length : Int)) hr rfl (fun q q0 q1 => ?_)
      show rd r.2 85 (151 + q) = rd σ 91 q
      rw [r5 q q0 q1, rq_c (by decide)]
  · have hcap : (rs.length : Int) ≤ 12 := hcap
    rw [if_neg (by decide), if_neg (by decide)]
    unfold fX11_forgets
    rw [Option.bind_some, if_neg (by decide), wp_bind]
    refine wp_mono (puts_m (n := rs.length) (e := 2 * (rs.length : Int)) (by rw [rq_i (by decide)]; exact h15) rfl (by omega) (by decide) (by decide) (by decide) (by omega)) (fun r hr2 => ?_)
    obtain ⟨r1, r2, r3, r4, r5⟩ := hr2
    rw [wp_some]
    refine ⟨r1, fun c i c1 c2 => ?_, fun q => absurd q (by decide), fun _ => ?_, r3, fun j j1 j2 => ?_, ?_⟩
    · exact (r2 c i (by simp; exact c1)).trans (by rw [rd_wr, if_neg c2])
    · show rd r.2 84 4 = 0
      rw [r2 84 4 (by decide), rq_s]; rfl
    · have j2 : j < 215 ∨ 239 ≤ j := j2
      exact (r4 j j1 (by omega)).trans (f4 j)
    · refine RoM_sh (e := 2 * (rs.length : Int)) hr rfl (fun q q0 q1 => ?_)
      show rd r.2 85 (215 + q) = rd σ 91 q
      rw [r5 q q0 q1, rq_c (by decide)]
  · have hcap : (rs.length : Int) ≤ 12 := hcap
    rw [if_neg (by decide), if_pos rfl, wp_bind]
    refine wp_mono (puts_m (n := rs.length) (e := 3 * (rs.length : Int)) h15 rfl (by omega) (by decide) (by decide) (by decide) (by omega)) (fun r hr2 => ?_)
    obtain ⟨r1, r2, r3, r4, r5⟩ := hr2
    rw [wp_some]
    refine ⟨r1, fun c i c1 c2 => r2 c i (by simp; exact c1), fun _ => r2 84 4 (by decide), fun q => absurd rfl q, r3, fun j j1 j2 => ?_, ?_⟩
    · have j2 : j < 239 ∨ 275 ≤ j := j2
      exact r4 j j1 (by omega)
    · refine RoM_sh (e := 3 * (rs.length : Int)) hr rfl (fun q q0 q1 => ?_)
      show rd r.2 85 (239 + q) = rd σ 91 q
      exact r5 q q0 q1
theorem rowsRead_m {t : Int → Int} {z k : Int} {N : Nat} {w : Int → Int} (hk : k = 1 ∨ k = 2 ∨ k = 3) (hO : TO t z) (H : HK (kT t z) (vT t z) N) (hW : Wf w) {s : Sg} (hw : rd s 85 = w) (hT : TPm t z k s) (hK : TKm t z k 0 s) : MRr t z k s (rowsA (kT t z) (vT t z) w k FU 0 []) (fX11_readsRows s) := by
  have f0 : FrK s (wr s 84 15 0) := FrK.rf.w15
  have h12 : rd (wr s 84 15 0) 84 12 = k := by rw [rq_i (by decide)]; exact hT.2.1
  have e0 : fX11_readsRows s = fX11_readsRows_L36 (fun s8 => (fX11_bad 1 s8).bind fun q9 => some (q9.1, q9.2)) (fun s10 => (fX11_bad 3 s10).bind fun q11 => some (q11.1, q11.2)) (begM k) FU 1 (wr s 84 15 0) := by
    unfold fX11_readsRows fX11_readsRows_J33
    rw [h12]
    rcases hk with rfl | rfl | rfl
    · rw [if_pos rfl]; congr 1
    · rw [if_neg (by decide), if_pos rfl]; congr 1
    · rw [if_neg (by decide), if_neg (by decide)]; congr 1
  rw [e0]
  have hA : AtN t z k N (wr s 84 15 0) 0 (rd (wr s 84 15 0) 91) (wr s 84 15 0) := by
    refine ⟨FrN.rf, ⟨?_, h12, fun i a b => ?_⟩, ⟨?_, ?_, ?_, fun q => ?_⟩, Nat.zero_le _, rfl⟩
    · rw [rq_i (by decide)]; exact hT.1
    · rw [rq_c (by decide)]; exact hT.2.2 i a b
    · rw [rq_i (by decide)]; exact hK.1
    · rw [rq_i (by decide)]; exact hK.2.1
    · rw [rq_i (by decide)]; exact hK.2.2.1
    · rw [rq_i (by decide)]; exact hK.2.2.2 q
  have r := rowsL_m hk hO H hW FU 0 [] (wr s 84 15 0) (by have := H.1; unfold FU; omega) hA ((funext fun i => rq_c (by decide)).trans hw) (by rw [rq_s]; rfl) (fun i hi => absurd hi (Nat.not_lt_zero _)) (by show (0 : Int) ≤ capR k; unfold capR; split <;> decide)
  cases e : rowsA (kT t z) (vT t z) w k FU 0 [] with
  | error x =>
    rw [e] at r
    obtain ⟨q, w1, w2, w3, w4, w5⟩ := r
    exact ⟨q, w1, w2, f0.tr w3, w4, w5⟩
  | ok rs =>
    rw [e] at r
    obtain ⟨q, w1, w2, w3, w4, w5⟩ := r
    exact ⟨q, w1, w2, f0.tr w3, w4, w5⟩
theorem textM_rows {t : Int → Int} {z k : Int} {N : Nat} {w : Int → Int} (hk : k = 1 ∨ k = 2 ∨ k = 3) (hO : TO t z) (H : HK (kT t z) (vT t z) N) (hW : Wf w) {σ : Sg} (hw : rd σ 85 = w) (h16 : rd σ 84 16 = z) (h92 : ∀ i, 0 ≤ i → i < z → rd σ 92 i = t i) : match rowsA (kT t z) (vT t z) w k FU 0 [] with
    | .error x => wp (fX11_text k σ) (fun r => r.1 = -1 ∧ FrT σ r.2 ∧ rd r.2 84 16 = 0 ∧ rd r.2 84 23 = x.1 ∧ rd r.2 84 25 = pT t z x.2)
    | .ok rs => wp (fX11_text k σ) (fun r => r.1 = rs.length ∧ (∃ s, FrT σ s ∧ (∀ (c : Nat) (i : Int), c ≠ 85 → ¬ (c = 84 ∧ i = 4) → rd r.2 c i = rd s c i)) ∧ ((k = 3 → rd r.2 84 4 = rd σ 84 4) ∧ (k ≠ 3 → rd r.2 84 4 = 0)) ∧ rd r.2 84 16 = 0 ∧ rd r.2 84 23 = 0 ∧ rd r.2 84 25 = -1 ∧ PRow k rs w (rd r.2 85)) := by
  have hk3 : 0 ≤ k ∧ k ≤ 3 := by omega
  obtain ⟨s, p1, f1, ⟨p2, p3⟩, p4, p5⟩ := begin_m (x1 := k) hO hk3 h16 h92
  have hw2 : rd s 85 = w := (funext fun i => f1 85 i (by decide) (by decide) (by decide) (by omega)).trans hw
  have r := rowsRead_m hk hO H hW hw2 p4 p5
  have e0 : fX11_text k σ = (fX11_readsRows s).bind fun q8 => fX11_text_J60 k q8.1 q8.2 := by
    unfold fX11_text
    rw [isIn_m, if_pos hk3, if_neg n10]
    show (fX11_next0 (txB k σ)).bind _ = _
    rw [p1, Option.bind_some, if_neg (show ¬ k = 0 by omega)]
  rw [e0]
  cases e : rowsA (kT t z) (vT t z) w k FU 0 [] with
  | error x =>
    rw [e] at r
    obtain ⟨⟨q1, q2⟩, w1, w2, w3, w4, w5⟩ := r
    have w2 : q1 = 0 := w2
    have w3 : FrK s q2 := w3
    have w4 : rd q2 84 21 = x.1 := w4
    have w5 : rd q2 84 22 = pT t z x.2 := w5
    show wp ((fX11_readsRows s).bind _) _
    rw [w1, Option.bind_some, w2]
    show wp (fX11_text_J60 k 0 q2) _
    unfold fX11_text_J60
    rw [if_pos p00, wp_some]
    refine ⟨rfl, (((f1.fk w3).wr (by omega)).wr (by omega)).wr (by omega), ?_, ?_, ?_⟩
    · show rd (wr (wr (wr q2 84 16 0) 84 23 _) 84 25 _) 84 16 = 0
      rw [rq_i (by decide), rq_i (by decide), rq_s]; rfl
    · show rd (wr (wr (wr q2 84 16 0) 84 23 _) 84 25 _) 84 23 = _
      rw [rq_i (by decide), rq_s, rq_i (by decide), rd_bw]; exact w4
    · show rd (wr (wr (wr q2 84 16 0) 84 23 _) 84 25 _) 84 25 = _
      rw [rq_s, rd_bw, rq_i (by decide), rq_i (by decide)]; exact w5
  | ok rs =>
    have ro := rowsA_ok FU 0 [] (fun i hi => absurd hi (Nat.not_lt_zero _)) (by show (0 : Int) ≤ capR k; unfold capR; split <;> decide) rs e
    rw [e] at r
    obtain ⟨⟨q1, q2⟩, w1, w2, w3, w4, w5⟩ := r
    have w2 : q1 = 1 := w2
    have w3 : FrK s q2 := w3
    have w4 : rd q2 84 15 = rs.length := w4
    have w5 : RoM k rs (rd q2 91) := w5
    show wp ((fX11_readsRows s).bind _) _
    rw [w1, Option.bind_some, w2]
    show wp (fX11_text_J60 k 1 q2) _
    unfold fX11_text_J60
    rw [if_neg n10, wp_bind]
    have f2 : FrT σ (wr q2 84 16 0) := (f1.fk w3).wr (by omega)
    have e91 : rd (wr q2 84 16 0) 91 = rd q2 91 := funext fun i => rq_c (by decide)
    have e85 : rd (wr q2 84 16 0) 85 = w := (funext fun i => f2 85 i (by decide) (by decide) (by decide) (by omega)).trans hw
    refine wp_mono (putsT_m hk (rs := rs) (σ := wr q2 84 16 0) (by rw [rq_i (by decide)]; exact w4) (by rw [e91]; exact w5) ro.2) (fun r hr => ?_)
    obtain ⟨r1, r2, r3, r4, r5⟩ := hr
    rw [e85] at r5
    rw [wp_some]
    refine ⟨r1, ⟨_, f2, r2⟩, ⟨fun q => ?_, r4⟩, ?_, ?_, ?_, r5⟩
    · exact (r3 q).trans (f2 84 4 (by decide) (by decide) (by decide) (by omega))
    · show rd r.2 84 16 = 0
      rw [r2 84 16 (by decide) (by omega), rq_s]; rfl
    · show rd r.2 84 23 = 0
      rw [r2 84 23 (by decide) (by omega), rq_i (by decide), w3 84 23 (by decide) (by omega)]; exact p2
    · show rd r.2 84 25 = -1
      rw [r2 84 25 (by decide) (by omega), rq_i (by decide), w3 84 25 (by decide) (by omega)]; exact p3
