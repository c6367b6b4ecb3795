/-! calls that only look -/
theorem n10 : ¬ (1 : Int) = 0 := by decide
theorem p00 : (0 : Int) = 0 := rfl
theorem has_c {m : Int} {w : Int → Int} {σ : Sg} {b : Nat} (h : CW m w σ b) (p : Int) : fX1_has (b + 3) p σ = if isP w p then 1 else 0 := by
  have e6 : rd σ (b + 3) 6 = w 85 := h.2.2.2.1.1
  unfold fX1_has
  rw [e6]
  by_cases h1 : p < 0
  · rw [if_pos h1, if_neg (fun z => by have := z.1; omega)]
  · by_cases h2 : p < w 85
    · rw [if_neg h1, if_pos h2, if_pos ⟨by omega, h2⟩]
    · rw [if_neg h1, if_neg h2, if_neg (fun z => h2 z.2)]
theorem areTwo_c {m : Int} {w : Int → Int} {σ : Sg} {b : Nat} (h : CW m w σ b) (p q : Int) : fX1_areTwo (b + 3) p q σ = if isP w p ∧ isP w q ∧ p ≠ q then 1 else 0 := by
  unfold fX1_areTwo
  rw [has_c h, has_c h]
  by_cases h1 : isP w p
  · by_cases h2 : isP w q
    · by_cases h3 : p = q
      · rw [if_pos h1, if_neg n10, if_pos h2, if_neg n10, if_pos h3, if_neg (fun z => z.2.2 h3)]
      · rw [if_pos h1, if_neg n10, if_pos h2, if_neg n10, if_neg h3, if_pos ⟨h1, h2, h3⟩]
    · rw [if_pos h1, if_neg n10, if_neg h2, if_pos p00, if_neg (fun z => h2 z.2.1)]
  · rw [if_neg h1, if_pos p00, if_neg (fun z => h1 z.1)]
theorem within_m {x a : Int} : fX10_within x a = if 0 ≤ x ∧ x ≤ a then 1 else 0 := by
  unfold fX10_within
  repeat' split
  all_goals first | rfl | omega
theorem op_fault {has : Bool} {N : Nat} {σ : Sg} (x1 : Int) (h : Inv has N σ) : fX10_fault x1 σ = fX11_fault x1 σ := by
  obtain ⟨-, -, -, -, -, -, -, ⟨h1, h2⟩, -⟩ := h
  unfold fX10_fault fX11_fault
  rw [h1, h2]
theorem op_of {has : Bool} {N : Nat} (hN : N ≤ 511) (x1 x2 : Int) (h1 : bw x1 = x1) (h2 : bw x2 = x2) : OpP has N (fX10_of x1 x2) (fX11_of x1 x2) := by
  intro σ h
  have hC := h.1
  have hW := hC.1
  have h12 := hW.1.2.2.2.2.2.1
  unfold fX10_of fX11_of
  rw [show (4 : Nat) = 1 + 3 from rfl, has_c hC, isPerson_m hW rfl]
  by_cases hp : isP (rd σ 85) x1
  · have p1 := hp.1
    have p2 := hp.2
    obtain ⟨e1, e2, e3, e4, e5, e6⟩ := hC.2.2.2.1.2 x1 hp
    have e1 : rd σ 5 x1 = rd σ 85 (91 + x1) := e1
    have e2 : rd σ 6 x1 = rd σ 85 (103 + x1) := e2
    have e3 : rd σ 7 x1 = rd σ 85 (115 + x1) := e3
    have e4 : rd σ 8 x1 = rd σ 85 (127 + x1) := e4
    have e5 : rd σ 9 x1 = rd σ 85 (68 + x1) := e5
    have e6 : rd σ 10 x1 = rd σ 85 (139 + x1) := e6
    rw [if_pos hp, if_neg n10, if_neg n10, bw_id (z := 91 + x1) (by omega) (by omega), bw_id (z := 103 + x1) (by omega) (by omega), bw_id (z := 115 + x1) (by omega) (by omega), bw_id (z := 127 + x1) (by omega) (by omega), bw_id (z := 68 + x1) (by omega) (by omega), bw_id (z := 139 + x1) (by omega) (by omega), e1, e2, e3, e4, e5, e6]
    simp only [grd_pos (show (0 : Int) ≤ x1 ∧ x1 < 12 by omega), grd_pos (show (0 : Int) ≤ 91 + x1 ∧ 91 + x1 < 1796 by omega), grd_pos (show (0 : Int) ≤ 103 + x1 ∧ 103 + x1 < 1796 by omega), grd_pos (show (0 : Int) ≤ 115 + x1 ∧ 115 + x1 < 1796 by omega), grd_pos (show (0 : Int) ≤ 127 + x1 ∧ 127 + x1 < 1796 by omega), grd_pos (show (0 : Int) ≤ 68 + x1 ∧ 68 + x1 < 1796 by omega), grd_pos (show (0 : Int) ≤ 139 + x1 ∧ 139 + x1 < 1796 by omega)]
    by_cases c0 : x2 = 0
    · rw [if_pos c0, wp_some, wp_some]
    · rw [if_neg c0]
      by_cases c1 : x2 = 1
      · rw [if_pos c1, wp_some, wp_some]
      · rw [if_neg c1]
        by_cases c2 : x2 = 2
        · rw [if_pos c2, wp_some, wp_some]
        · rw [if_neg c2]
          by_cases c3 : x2 = 3
          · rw [if_pos c3, wp_some, wp_some]
          · rw [if_neg c3]
            by_cases c4 : x2 = 4
            · rw [if_pos c4, wp_some, wp_some]
            · rw [if_neg c4]
              by_cases c5 : x2 = 5
              · rw [if_pos c5, wp_some, wp_some]
              · rw [if_neg c5, wp_some, wp_some]
  · rw [if_neg hp, if_pos p00, if_pos p00, wp_some, wp_some]
/-- a call that changes scratch alone -/
theorem opE_ro {has : Bool} {N : Nat} {σ : Sg} {f g : Sg → Option (Int × Sg)} {v : Int} (h : Inv has N σ) (h1 : wp (f σ) (fun q => q.1 = v ∧ Keep σ q.2)) (h2 : ∀ τ, Keep σ τ → wp (g τ) (fun r => r.1 = v ∧ Keep τ r.2)) : wp (f σ) (fun q => wp (g q.2) (fun r => q.1 = r.1 ∧ Inv has (N + 1) r.2)) :=
  wp_mono h1 (fun q hq => wp_mono (h2 q.2 hq.2) (fun r hr => ⟨hq.1.trans hr.1.symm, h.keep (hq.2.tr hr.2)⟩))
theorem keep_c {σ τ : Sg} (h : Fr [16, 17] σ τ) : Keep σ τ := Keep.fr h (by decide) (by decide)
theorem keep_m {σ τ : Sg} (h : Fr [93, 94] σ τ) : Keep σ τ := Keep.fr h (by decide) (by decide)
theorem op_match {has : Bool} {N : Nat} (hN : N ≤ 511) (x1 x2 x3 : Int) (hx : x3 = 0 ∨ x3 = 1) (h1 : bw x1 = x1) (h2 : bw x2 = x2) : OpE has N (fX10_match x1 x2 x3) (fX11_match x1 x2 x3) := by
  intro σ h
  have hC := h.1
  have hW := hC.1
  have hL := hC.2.2.2.2.2.2
  refine opE_ro (v := if isP (rd σ 85) x1 ∧ isP (rd σ 85) x2 ∧ x1 ≠ x2 then (if x3 = 0 then matchW (rd σ 85) x1 x2 else foundW (rd σ 85) x1 x2) else -1) h ?_ (fun τ hτ => ?_)
  · unfold fX10_match
    rw [show (4 : Nat) = 1 + 3 from rfl, areTwo_c hC]
    by_cases ht : isP (rd σ 85) x1 ∧ isP (rd σ 85) x2 ∧ x1 ≠ x2
    · rw [if_pos ht, if_neg n10, if_pos ht]
      by_cases c : x3 = 0
      · rw [if_pos c, if_pos c, wp_bind]
        exact wp_mono (matchOf_c hC ht.1 ht.2.1) (fun r hr => wp_some.mpr ⟨hr.1, keep_c hr.2⟩)
      · rw [if_neg c, if_neg c, wp_bind]
        exact wp_mono (foundOf_c hC ht.1 ht.2.1) (fun r hr => wp_some.mpr ⟨hr.1, keep_c hr.2⟩)
    · rw [if_neg ht, if_pos p00, if_neg ht, wp_some]
      exact ⟨rfl, Keep.rf⟩
  · have e85 : rd τ 85 = rd σ 85 := hτ.1 85 (by decide)
    unfold fX11_match
    rw [isPerson_m hW e85, isPerson_m hW e85]
    by_cases ht : isP (rd σ 85) x1 ∧ isP (rd σ 85) x2 ∧ x1 ≠ x2
    · rw [if_pos ht.1, if_neg n10, if_pos ht.2.1, if_neg n10, if_neg ht.2.2, if_pos ht]
      by_cases c : x3 = 0
      · rw [if_pos c, if_pos c, wp_bind]
        exact wp_mono (matchOf_m hW hL e85 ht.1 ht.2.1) (fun r hr => wp_some.mpr ⟨hr.1, keep_m hr.2⟩)
      · rw [if_neg c, if_neg c, wp_bind]
        exact wp_mono (foundOf_m hW hL e85 ht.1 ht.2.1) (fun r hr => wp_some.mpr ⟨hr.1, keep_m hr.2⟩)
    · rw [if_neg ht]
      have fin : wp (some ((-1 : Int), τ)) (fun r => r.1 = -1 ∧ Keep τ r.2) := wp_some.mpr ⟨rfl, Keep.rf⟩
      by_cases p1 : isP (rd σ 85) x1
      · by_cases p2 : isP (rd σ 85) x2
        · rw [if_pos p1, if_neg n10, if_pos p2, if_neg n10, if_pos (Decidable.not_not.mp (fun z => ht ⟨p1, p2, z⟩))]
          exact fin
        · rw [if_pos p1, if_neg n10, if_neg p2, if_pos p00]
          exact fin
      · rw [if_neg p1, if_pos p00]
        exact fin
theorem op_at {has : Bool} {N : Nat} (hN : N ≤ 511) (x1 x2 : Int) (h1 : bw x1 = x1) (h2 : bw x2 = x2) : OpE has N (fX10_at x1 x2) (fX11_at x1 x2) := by
  intro σ h
  have hC := h.1
  have hW := hC.1
  have hL := hC.2.2.2.2.2.2
  refine opE_ro (v := if isF (rd σ 85) x1 ∧ (x2 = 0 ∨ x2 = 1) then (if x2 = 0 then rd σ 85 (4 + x1) else meltW (rd σ 85) (rd σ 85 (4 + x1))) else -2) h ?_ (fun τ hτ => ?_)
  · unfold fX10_at
    rw [hasField_c hC]
    by_cases hf : isF (rd σ 85) x1
    · have hfb := isF_b hf
      have es : rd σ 2 x1 = rd σ 85 (4 + x1) := hC.2.2.1.1 x1 hf
      rw [if_pos hf, if_neg n10, es, grd_pos hfb, grd_pos hfb]
      by_cases c0 : x2 = 0
      · rw [if_pos c0, if_pos ⟨hf, Or.inl c0⟩, if_pos c0, wp_some]
        exact ⟨rfl, Keep.rf⟩
      · rw [if_neg c0]
        by_cases c1 : x2 = 1
        · rw [if_pos c1, if_pos ⟨hf, Or.inr c1⟩, if_neg c0, wp_bind]
          exact wp_mono (meltOf_c hC (hW.2.1 x1 hf)) (fun r hr => wp_some.mpr ⟨hr.1, keep_c hr.2⟩)
        · rw [if_neg c1, if_neg (fun z => z.2.elim c0 c1), wp_some]
          exact ⟨rfl, Keep.rf⟩
    · rw [if_neg hf, if_pos p00, if_neg (fun z => hf z.1), wp_some]
      exact ⟨rfl, Keep.rf⟩
  · have e85 : rd τ 85 = rd σ 85 := hτ.1 85 (by decide)
    unfold fX11_at
    rw [isField_m hW e85, isIn_m, e85]
    by_cases hf : isF (rd σ 85) x1
    · have hfb := isF_b hf
      rw [if_pos hf, if_neg n10, bw_id (z := 4 + x1) (by omega) (by omega), grd_pos (by omega)]
      by_cases c : 0 ≤ x2 ∧ x2 ≤ 1
      · rw [if_pos c, if_neg n10, if_pos (show isF (rd σ 85) x1 ∧ (x2 = 0 ∨ x2 = 1) from ⟨hf, by omega⟩)]
        by_cases c0 : x2 = 0
        · rw [if_pos c0, if_pos c0, wp_some]
          exact ⟨rfl, Keep.rf⟩
        · rw [if_neg c0, if_neg c0, wp_bind]
          exact wp_mono (meltOf_m hW hL e85 hf) (fun r hr => wp_some.mpr ⟨hr.1, keep_m hr.2⟩)
      · rw [if_neg c, if_pos p00, if_neg (fun z => by omega), wp_some]
        exact ⟨rfl, Keep.rf⟩
    · rw [if_neg hf, if_pos p00, if_neg (fun z => hf z.1), wp_some]
      exact ⟨rfl, Keep.rf⟩
theorem op_lift {has : Bool} {N : Nat} (hN : N ≤ 511) (x1 x2 x3 x4 : Int) (h1 : bw x1 = x1) (h2 : bw x2 = x2) (h3 : bw x3 = x3) (h4 : bw x4 = x4) : OpE has N (fX10_lift x1 x2 x3 x4) (fX11_lift x1 x2 x3 x4) := by
  intro σ h
  have hC := h.1
  have hW := hC.1
  have hL := hC.2.2.2.2.2.2
  refine opE_ro (v := if (isP (rd σ 85) x1 ∧ isP (rd σ 85) x2 ∧ x1 ≠ x2) ∧ isF (rd σ 85) x3 ∧ isF (rd σ 85) x4 then liftW (rd σ 85) x1 x2 (foundW (rd σ 85) x1 x2) (apW x3 x4) (rd σ 85 (4 + x4)) else -1) h ?_ (fun τ hτ => ?_)
  · unfold fX10_lift
    rw [show (4 : Nat) = 1 + 3 from rfl, areTwo_c hC, hasField_c hC, hasField_c hC]
    have fin : wp (some ((-1 : Int), σ)) (fun q => q.1 = -1 ∧ Keep σ q.2) := wp_some.mpr ⟨rfl, Keep.rf⟩
    by_cases ht : isP (rd σ 85) x1 ∧ isP (rd σ 85) x2 ∧ x1 ≠ x2
    · by_cases f3 : isF (rd σ 85) x3
      · by_cases f4 : isF (rd σ 85) x4
        · have b3 := isF_b f3
          have b4 := isF_b f4
          have ha := apW_r b3 b4
          rw [if_pos ht, if_neg n10, if_pos f3, if_neg n10, if_pos f4, if_neg n10, if_pos ⟨ht, f3, f4⟩, wp_bind]
          refine wp_mono (foundOf_c hC ht.1 ht.2.1) (fun r hr => ?_)
          have hC2 : CW 150 (rd σ 85) r.2 1 := hC.fr hr.2 (by simp)
          have es : rd r.2 2 x4 = rd σ 85 (4 + x4) := hC2.2.2.1.1 x4 f4
          rw [grd_pos b4, es, hr.1, steps_eq (by omega) (by omega), wp_bind]
          exact wp_mono (liftOf_c hC2 ht.1 ht.2.1 (foundW_r _ _ _) (by omega : 0 ≤ apW x3 x4 ∧ apW x3 x4 ≤ 20) (hW.2.1 x4 f4)) (fun r2 hr2 => wp_some.mpr ⟨hr2.1, (keep_c hr.2).tr (keep_c hr2.2)⟩)
        · rw [if_pos ht, if_neg n10, if_pos f3, if_neg n10, if_neg f4, if_pos p00, if_neg (fun z => f4 z.2.2)]
          exact fin
      · rw [if_pos ht, if_neg n10, if_neg f3, if_pos p00, if_neg (fun z => f3 z.2.1)]
        exact fin
    · rw [if_neg ht, if_pos p00, if_neg (fun z => ht z.1)]
      exact fin
  · have e85 : rd τ 85 = rd σ 85 := hτ.1 85 (by decide)
    have fin : wp (some ((-1 : Int), τ)) (fun r => r.1 = -1 ∧ Keep τ r.2) := wp_some.mpr ⟨rfl, Keep.rf⟩
    unfold fX11_lift
    rw [isPerson_m hW e85, isPerson_m hW e85, isField_m hW e85, isField_m hW e85]
    by_cases p1 : isP (rd σ 85) x1
    · by_cases p2 : isP (rd σ 85) x2
      · by_cases p3 : x1 = x2
        · rw [if_pos p1, if_neg n10, if_pos p2, if_neg n10, if_pos p3, if_neg (fun z => z.1.2.2 p3)]
          exact fin
        · by_cases f3 : isF (rd σ 85) x3
          · by_cases f4 : isF (rd σ 85) x4
            · rw [if_pos p1, if_neg n10, if_pos p2, if_neg n10, if_neg p3, if_pos f3, if_neg n10, if_pos f4, if_neg n10, if_pos ⟨⟨p1, p2, p3⟩, f3, f4⟩, wp_bind]
              exact wp_mono (liftOf_m hW hL e85 p1 p2 f3 f4) (fun r hr => wp_some.mpr ⟨hr.1, keep_m hr.2⟩)
            · rw [if_pos p1, if_neg n10, if_pos p2, if_neg n10, if_neg p3, if_pos f3, if_neg n10, if_neg f4, if_pos p00, if_neg (fun z => f4 z.2.2)]
              exact fin
          · rw [if_pos p1, if_neg n10, if_pos p2, if_neg n10, if_neg p3, if_neg f3, if_pos p00, if_neg (fun z => f3 z.2.1)]
            exact fin
      · rw [if_pos p1, if_neg n10, if_neg p2, if_pos p00, if_neg (fun z => p2 z.1.2.1)]
        exact fin
    · rw [if_neg p1, if_pos p00, if_neg (fun z => p1 z.1.1)]
      exact fin
theorem op_weather {has : Bool} {N : Nat} (hN : N ≤ 511) (x1 : Int) (h1 : bw x1 = x1) : OpP has N (fX10_weather x1) (fX11_weather x1) := by
  intro σ h
  have hC := h.1
  have hW := hC.1
  unfold fX10_weather fX11_weather
  rw [within_m, isIn_m]
  by_cases c : 0 ≤ x1 ∧ x1 ≤ 9999
  · rw [if_pos c, if_neg n10, if_neg n10, weather_c hC (by omega), weather_m hW rfl (by omega), wp_bind, wp_some, wp_some, wp_bind, wp_some, wp_some]
  · rw [if_neg c, if_pos p00, if_pos p00, wp_some, wp_some]
theorem op_book {has : Bool} {N : Nat} (hN : N ≤ 511) (x1 x2 : Int) (h1 : bw x1 = x1) (h2 : bw x2 = x2) : OpP has N (fX10_book x1 x2) (fX11_book x1 x2) := by
  intro σ h
  have hC := h.1
  have hW := hC.1
  have hb3 := hW.1.2.2.2.2.2.2.2.2
  have hB := hC.2.2.2.2.2.1
  rcases hB.2 with ⟨z, -⟩ | ⟨-, r2, r3⟩
  · omega
  have r2 : rd σ 26 2 = rd σ 85 3 := r2
  unfold fX10_book fX11_book
  rw [isIn_m, isIn_m, r2, bw_id (z := rd σ 85 3 - 1) (by omega) (by omega)]
  by_cases c1 : x1 < 0
  · rw [if_pos c1, wp_some, if_neg (show ¬ (0 ≤ x1 ∧ x1 ≤ rd σ 85 3 - 1) by omega), if_pos p00, wp_some]
  · rw [if_neg c1]
    by_cases c2 : x1 < rd σ 85 3
    · rw [if_pos c2, if_pos (show 0 ≤ x1 ∧ x1 ≤ rd σ 85 3 - 1 by omega), if_neg n10]
      by_cases c3 : x2 < 0
      · rw [if_pos c3, wp_some, if_neg (show ¬ (0 ≤ x2 ∧ x2 ≤ 3) by omega), if_pos p00, wp_some]
      · rw [if_neg c3]
        by_cases c4 : 3 < x2
        · rw [if_pos c4, wp_some, if_neg (show ¬ (0 ≤ x2 ∧ x2 ≤ 3) by omega), if_pos p00, wp_some]
        · rw [if_neg c4, if_pos (show 0 ≤ x2 ∧ x2 ≤ 3 by omega), if_neg n10, wp_bind, cell_c r2 ⟨by omega, c2⟩ ⟨by omega, by omega⟩ (by show 4 * rd σ 85 3 ≤ ((600 : Nat) : Int); omega) (by omega), wp_some, wp_some, bw_id (z := 4 * x1) (by omega) (by omega), bw_id (z := 311 + 4 * x1) (by omega) (by omega), bw_id (z := 311 + 4 * x1 + x2) (by omega) (by omega), grd_pos (by omega), wp_some]
          obtain ⟨q1, q2, q3, q4⟩ := r3 x1 (by omega) c2
          have q1 : rd σ 27 (4 * x1) = rd σ 85 (311 + 4 * x1) := q1
          have q2 : rd σ 27 (4 * x1 + 1) = rd σ 85 (312 + 4 * x1) := q2
          have q3 : rd σ 27 (4 * x1 + 2) = rd σ 85 (313 + 4 * x1) := q3
          have q4 : rd σ 27 (4 * x1 + 3) = rd σ 85 (314 + 4 * x1) := q4
          have : x2 = 0 ∨ x2 = 1 ∨ x2 = 2 ∨ x2 = 3 := by omega
          rcases this with rfl | rfl | rfl | rfl
          · rw [Int.add_zero, Int.add_zero]; exact q1
          · rw [show 311 + 4 * x1 + 1 = 312 + 4 * x1 by omega]; exact q2
          · rw [show 311 + 4 * x1 + 2 = 313 + 4 * x1 by omega]; exact q3
          · rw [show 311 + 4 * x1 + 3 = 314 + 4 * x1 by omega]; exact q4
    · rw [if_neg c2, wp_some, if_neg (show ¬ (0 ≤ x1 ∧ x1 ≤ rd σ 85 3 - 1) by omega), if_pos p00, wp_some]
def bareW (w : Int → Int) : Int → Int := fun c => if isF w c ∧ w (4 + c) = 0 then 1 else 0
theorem bareW_r (w : Int → Int) (c : Int) : 0 ≤ bareW w c ∧ bareW w c ≤ 1 := by unfold bareW; split <;> omega
theorem bare_c {m : Int} {w : Int → Int} {σ : Sg} {b : Nat} (h : CW m w σ b) : fX9_bareFields b σ = some (sumN (bareW w) 56) := by
  unfold fX9_bareFields
  have key : ∀ (r n : Nat) (i : Int), 0 ≤ i → i + r = 56 → r < n → fX9_bareFields_L4 b σ n (sumN (bareW w) i.toNat) i = some (sumN (bareW w) 56) := by
    intro r
    induction r with
    | zero =>
      intro n i i0 i1 hn
      cases n with
      | zero => omega
      | succ n => rw [fX9_bareFields_L4, if_neg (by omega), show i.toNat = 56 by omega]
    | succ r ih =>
      intro n i i0 i1 hn
      cases n with
      | zero => omega
      | succ n =>
        have hsr := sumN_r (f := bareW w) (k := 1) (fun j _ => bareW_r w j) i.toNat
        have hS : sumN (bareW w) (i + 1).toNat = sumN (bareW w) i.toNat + bareW w i := by rw [show (i + 1).toNat = i.toNat + 1 by omega, sumN, show ((i.toNat : Nat) : Int) = i by omega]
        have nx := ih n (i + 1) (by omega) (by omega) (by omega)
        rw [fX9_bareFields_L4, if_pos (by omega), hasField_c h, bw_id (z := i + 1) (by omega) (by omega)]
        by_cases hf : isF w i
        · have es : rd σ (b + 1) i = w (4 + i) := h.2.2.1.1 i hf
          rw [if_pos hf, if_neg n10, grd_pos (by omega), es]
          by_cases hz : w (4 + i) = 0
          · rw [if_pos hz, bw_id (z := sumN (bareW w) i.toNat + 1) (by omega) (by omega)]
            rw [hS, bareW, if_pos ⟨hf, hz⟩] at nx
            exact nx
          · rw [if_neg hz]
            rw [hS, bareW, if_neg (fun y => hz y.2), Int.add_zero] at nx
            exact nx
        · rw [if_neg hf, if_pos p00]
          rw [hS, bareW, if_neg (fun y => hf y.1), Int.add_zero] at nx
          exact nx
  exact key 56 FU 0 (by omega) (by omega) (by unfold FU; omega)
theorem bare_m {w : Int → Int} {σ : Sg} (hW : Wf w) (hw : rd σ 85 = w) : fX11_bareFields σ = some (sumN (bareW w) 64) := by
  unfold fX11_bareFields
  have key : ∀ (r n : Nat) (i : Int), 0 ≤ i → i + r = 64 → r < n → fX11_bareFields_L4 σ n (sumN (bareW w) i.toNat) i = some (sumN (bareW w) 64) := by
    intro r
    induction r with
    | zero =>
      intro n i i0 i1 hn
      cases n with
      | zero => omega
      | succ n => rw [fX11_bareFields_L4, if_neg (by omega), show i.toNat = 64 by omega]
    | succ r ih =>
      intro n i i0 i1 hn
      cases n with
      | zero => omega
      | succ n =>
        have hsr := sumN_r (f := bareW w) (k := 1) (fun j _ => bareW_r w j) i.toNat
        have hS : sumN (bareW w) (i + 1).toNat = sumN (bareW w) i.toNat + bareW w i := by rw [show (i + 1).toNat = i.toNat + 1 by omega, sumN, show ((i.toNat : Nat) : Int) = i by omega]
        have nx := ih n (i + 1) (by omega) (by omega) (by omega)
        rw [fX11_bareFields_L4, if_pos (by omega), isField_m hW hw, bw_id (z := i + 1) (by omega) (by omega), bw_id (z := sumN (bareW w) i.toNat + 0) (by omega) (by omega), bw_id (z := sumN (bareW w) i.toNat + 1) (by omega) (by omega), bw_id (z := 4 + i) (by omega) (by omega), hw]
        by_cases hf : isF w i
        · rw [if_pos hf, if_neg n10, grd_pos (by omega)]
          by_cases hz : w (4 + i) = 0
          · rw [if_pos hz]
            rw [hS, bareW, if_pos ⟨hf, hz⟩] at nx
            exact nx
          · rw [if_neg hz]
            rw [hS, bareW, if_neg (fun y => hz y.2)] at nx
            exact nx
        · rw [if_neg hf, if_pos p00]
          rw [hS, bareW, if_neg (fun y => hf y.1)] at nx
          exact nx
  exact key 64 FU 0 (by omega) (by omega) (by unfold FU; omega)
theorem ex_ite {c : Prop} [Decidable c] {a : Int} {X : Option Int} (h : ∃ v, X = some v) : ∃ v, (if c then some a else X) = some v := by
  by_cases hc : c
  · rw [if_pos hc]; exact ⟨_, rfl⟩
  · rw [if_neg hc]; exact h
theorem op_look {has : Bool} {N : Nat} (hN : N ≤ 511) (x1 : Int) (h1 : bw x1 = x1) : OpP has N (fX10_look x1) (fX11_look x1) := by
  intro σ h
  have hC := h.1
  have hW := hC.1
  obtain ⟨s0, s1, s2, s3, s4, s5, s6, s7⟩ := hC.2.1
  rw [if_neg (by decide)] at s4
  have s0 : rd σ 1 0 = rd σ 85 80 := s0
  have s1 : rd σ 1 1 = rd σ 85 81 := s1
  have s2 : rd σ 1 2 = rd σ 85 82 := s2
  have s3 : rd σ 1 3 = rd σ 85 83 := s3
  have s4 : rd σ 1 4 = rd σ 85 84 := s4
  have s5 : rd σ 1 5 = rd σ 85 1 := s5
  have s6 : rd σ 1 6 = rd σ 85 0 := s6
  have s7 : rd σ 1 7 = rd σ 85 2 := s7
  have p6 : rd σ 4 6 = rd σ 85 85 := hC.2.2.2.1.1
  have l6 : rd σ 11 6 = rd σ 85 86 := hC.2.2.2.2.2.2.2.1
  obtain ⟨⟨-, t1, -⟩, ⟨-, t2, -⟩, ⟨-, t3, -⟩, ⟨-, t4, -⟩⟩ := hC.2.2.2.2.1
  have t1 : rd σ 18 2 = rd σ 85 87 := t1
  have t2 : rd σ 20 2 = rd σ 85 88 := t2
  have t3 : rd σ 22 2 = rd σ 85 89 := t3
  have t4 : rd σ 24 2 = rd σ 85 90 := t4
  have u3 : rd σ 84 4 = rd σ 55 3 := h.2.2.2.2.1.2.2.1
  have r2 : rd σ 26 2 = rd σ 85 3 := by
    rcases hC.2.2.2.2.2.1.2 with ⟨z, -⟩ | ⟨-, r2, -⟩
    · omega
    · exact r2
  have h64 : sumN (bareW (rd σ 85)) 64 = sumN (bareW (rd σ 85)) 56 := sumN_0 (a := 56) (fun i hi => by rw [bareW, if_neg (fun z => by have := isF_b z.1; omega)]) 8
  have hb : fX10_look x1 σ = fX11_look x1 σ := by
    unfold fX10_look fX11_look
    rw [s0, s1, s2, s3, s4, s5, s6, s7, p6, r2, l6, t1, t2, t3, t4, u3, bare_c hC, bare_m hW rfl, h64]
  have hs : ∃ v, fX11_look x1 σ = some v := by
    unfold fX11_look
    rw [bare_m hW rfl]
    repeat refine ex_ite ?_
    first | exact ⟨_, rfl⟩ | (split <;> exact ⟨_, rfl⟩)
  obtain ⟨v, hv⟩ := hs
  rw [hb, hv, wp_some, wp_some]
theorem op_end {has : Bool} {N : Nat} (hN : N ≤ 511) (x1 : Int) (h1 : bw x1 = x1) : OpE has N (fX10_end x1) (fX11_end x1) := by
  intro σ h
  obtain ⟨g1, g2, g3, g4, g5, g6, ⟨⟨t0, t1⟩, t2, t3⟩, g8, g9⟩ := h
  have h : Inv has N σ := ⟨g1, g2, g3, g4, g5, g6, ⟨⟨t0, t1⟩, t2, t3⟩, g8, g9⟩
  unfold fX10_end fX11_end
  by_cases c : 0 ≤ x1 ∧ x1 ≤ rd σ 59 4
  · rw [if_neg (by omega), if_neg (by omega), wp_some, isIn_m]
    have e16 : rd (wr σ 59 4 x1) 84 16 = rd σ 59 4 := (rq_c (by decide)).trans t2
    rw [e16, if_pos c, if_neg n10, wp_some]
    refine ⟨rfl, ?_⟩
    have hk : ∀ (c : Nat), c ≠ 59 → c ≠ 84 → rd (wr (wr σ 59 4 x1) 84 16 x1) c = rd σ c := fun c a b => by rw [wr_off _ _ b, wr_off _ _ a]
    have hk2 : ∀ (c : Nat) (i : Int), c ≠ 59 → ¬ (c = 84 ∧ i = 16) → rd (wr (wr σ 59 4 x1) 84 16 x1) c i = rd σ c i := fun c i a b => by rw [rd_wr, if_neg b, rq_c a]
    have hn := nbN_le (N := N)
    refine ⟨?_, by rw [hk 85 (by decide) (by decide)]; exact g2, by rw [hk 85 (by decide) (by decide)]; omega, by rw [hk 85 (by decide) (by decide)]; exact g4, ?_, ?_, ⟨?_, ?_, ?_⟩, ?_, ?_⟩
    · have ev : vw (wr (wr σ 59 4 x1) 84 16 x1) 1 = vw σ 1 := vw_keep (fun j a b c d => hk _ (by omega) (by omega))
      unfold CW
      rw [ev, hk 85 (by decide) (by decide)]
      exact g1
    · rw [hk 85 (by decide) (by decide)]
      unfold PR at g5 ⊢
      rw [hk 55 (by decide) (by decide), hk 87 (by decide) (by decide), hk2 84 4 (by decide) (by decide)]
      exact ⟨g5.1, g5.2.1, g5.2.2.1, fun k a b => ⟨PE_keep (hk 56 (by decide) (by decide)) (hk 57 (by decide) (by decide)) (hk 58 (by decide) (by decide)) (hk 87 (by decide) (by decide)) hn (g5.2.2.2 k a b).1, (g5.2.2.2 k a b).2⟩⟩
    · unfold TC
      rw [hk 45 (by decide) (by decide), hk 47 (by decide) (by decide), hk 49 (by decide) (by decide), hk 51 (by decide) (by decide), hk 53 (by decide) (by decide)]
      exact g6
    · rw [wr_off _ _ (by decide), rq_s, h1]; exact ⟨c.1, by omega⟩
    · rw [rq_s, wr_off _ _ (by decide), rq_s]
    · intro i i0 i1
      rw [wr_off _ _ (by decide), rq_s, h1] at i1
      rw [hk 60 (by decide) (by decide), hk 92 (by decide) (by decide)]
      exact t3 i i0 (by omega)
    · unfold FR0
      rw [hk 64 (by decide) (by decide), hk2 84 23 (by decide) (by decide), hk2 84 25 (by decide) (by decide)]
      exact g8
    · exact KR_keep (hk2 84 5 (by decide) (by decide)) (hk 86 (by decide) (by decide)) (vw_keep (fun j a b c d => hk _ (by omega) (by omega))) hn g9
  · by_cases c1 : x1 < 0
    · rw [if_pos c1, wp_some, isIn_m, t2, if_neg c, if_pos p00, wp_some]
      exact ⟨rfl, h.keep Keep.rf⟩
    · rw [if_neg c1, if_pos (by omega), wp_some, isIn_m, t2, if_neg c, if_pos p00, wp_some]
      exact ⟨rfl, h.keep Keep.rf⟩
