/-! meets, all of it -/
theorem op_meets {has : Bool} {N : Nat} (hN : N ≤ 511) (x1 : Int) (h1 : bw x1 = x1) : OpE has N (fX10_meets x1) (fX11_meets x1) := by
  by_cases hx : x1 = 0 ∨ x1 = 1
  · exact meets_w hN x1 hx
  intro σ h
  by_cases hx2 : x1 = 2
  · have hC := h.1
    have hW := hC.1
    have hT : TC σ := h.2.2.2.2.2.1
    have hd0 := hW.1.2.2.2.2.2.2.1
    have hb := hW.2.2.2.1.1
    have hpb := pot_b hN h.2.2.1
    have hd := h.2.1
    obtain ⟨K, k1, k2, k3⟩ := wedSet_c hC
    have hg := gtN_le (f := fun i => rd σ 85 (151 + 4 * i)) (b := 999) (cnt := rd σ 85 87) (fun i i0 i1 => (hW.2.2.2.1.2 i i0 i1).1.2) (rd σ 85 87).toNat 0 (-1) (by omega) (by omega) (by decide)
    generalize hgg : gtN (fun i => rd σ 85 (151 + 4 * i)) (rd σ 85 87).toNat 0 (-1) = g at hg
    refine opE_ro (v := fvS (rd σ 85) (g + 1 - rd σ 85 0).toNat K (rd σ 85 0)) h ?_ (fun τ hk => ?_)
    · have e2 : rd σ 18 2 = rd σ 85 87 := hC.2.2.2.2.1.1.2.1
      have eg : fX6_greatest 18 64 0 σ = some g := by
        rw [greatest_c e2 (by omega) (by omega) (by omega), ← hgg]
        refine congrArg some (gtN_congr (cnt := rd σ 85 87) (fun i i0 i1 => ?_) _ 0 (-1) (by omega) (by omega))
        have := (hC.2.2.2.2.1.1.2.2 i i0 i1).1
        rw [Int.add_zero]
        exact this
      have e6 : rd σ 1 6 = rd σ 85 0 := hC.2.1.2.2.2.2.2.2.1
      show wp (fX10_meets x1 σ) _
      unfold fX10_meets fX9_firstVoid
      rw [if_pos hx2, k1, Option.bind_some, eg, Option.bind_some, e6, voidS_c hC hg (g + 1 - rd σ 85 0).toNat FU K (rd σ 85 0) (by omega) (by omega) (by unfold FU; omega), Option.bind_some, wp_some]
      exact ⟨rfl, Keep.rf⟩
    · have e85 : rd τ 85 = rd σ 85 := hk.1 85 (by decide)
      obtain ⟨s0, hs0⟩ : ∃ s, fX10_beginThought σ = some s ∧ CW 0 (rd σ 85) s 28 := by
        obtain ⟨s, a, b, c⟩ := thought_c hC hT
        exact ⟨s, a, c⟩
      have hok : OKw 0 (rd σ 85) := ⟨s0, 28, Or.inr ⟨rfl, rfl⟩, hs0.2⟩
      show wp (fX11_meets x1 τ) _
      unfold fX11_meets
      rw [isIn_m, if_pos (show 0 ≤ x1 ∧ x1 ≤ 2 by omega), if_neg n10, if_neg (show ¬ x1 < 2 by omega), lastOf_m e85 (by decide) (by omega) (by decide) (by decide), hgg, Option.bind_some, wp_bind]
      refine wp_mono lays_m (fun s hs => ?_)
      obtain ⟨l88, l26, l28, l84, lf⟩ := hs
      have s85 : rd s 85 = rd σ 85 := (funext fun j => lf 85 j (by decide)).trans e85
      refine voidS_m (u := rd σ 85) (σ0 := s) (g + 1 - rd σ 85 0).toNat FU K (rd σ 85) s (by omega) hg (by unfold FU; omega) hok s85 l26 l28 hpb (fun _ _ => rfl) ⟨k2, k3⟩ (fun _ _ _ _ => rfl) (fun ρ hρ h28 hF => ?_)
      rw [wp_bind]
      refine wp_mono putsBack_m (fun r hr => ?_)
      rw [wp_some]
      exact ⟨(hr.2 84 28 (by decide)).trans h28, back_keep e85 l88 l84 lf hF hρ hr⟩
  · refine opE_no h (v := -1) ?_ ?_
    · unfold fX10_meets
      rw [if_neg hx2, if_neg (by omega), if_neg (by omega)]
    · unfold fX11_meets
      rw [isIn_m, if_neg (show ¬ (0 ≤ x1 ∧ x1 ≤ 2) by omega), if_pos rfl]
