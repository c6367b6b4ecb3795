/-! THE LAW's loop, out of its calls -/
theorem law_ok {sx : Int → Int} {LL : Int} (hn : ∀ i, bw (sx i) = sx i) (hLL : 0 ≤ LL ∧ LL ≤ 3072) {has : Bool} {kI : (Int → Sg → Option Unit) → Int → Sg → Option Unit} (hI : ∀ (rec : Int → Sg → Option Unit) (N : Nat) (x3 : Int) (σ : Sg), x3 = 6 * (N : Int) → N ≤ 511 → x3 + 6 ≤ LL → Inv has N σ → (∀ τ, Inv has (N + 1) τ → wp (rec (bw (x3 + 6)) τ) (fun _ => True)) → wp (kI rec x3 σ) (fun _ => True)) : ∀ (n N : Nat) (x3 : Int) (σ : Sg), x3 = 6 * (N : Int) → N ≤ 512 → 600 - N < n → Inv has N σ → wp (fL_law sx LL kI n x3 σ) (fun _ => True)
  | 0, N, x3, σ, _, _, h, _ => absurd h (by omega)
  | n + 1, N, x3, σ, hx, h512, hf, hσ => by
    rw [fL_law, bw_id (z := LL - 6) (by omega) (by omega)]
    refine wp_ite.mpr ⟨fun _ => wp_some.mpr trivial, fun hlt => ?_⟩
    have hN : N ≤ 511 := by omega
    have ha : ∀ k : Int, 1 ≤ k → k ≤ 5 → (0 : Int) ≤ bw (x3 + k) ∧ bw (x3 + k) < LL := fun k k1 k2 => by rw [bw_id (z := x3 + k) (by omega) (by omega)]; omega
    have g1 := ha 1 (by omega) (by omega)
    have g2 := ha 2 (by omega) (by omega)
    have g3 := ha 3 (by omega) (by omega)
    have g4 := ha 4 (by omega) (by omega)
    have g5 := ha 5 (by omega) (by omega)
    have go : ∀ τ, Inv has (N + 1) τ → wp (fL_law sx LL kI n (bw (x3 + 6)) τ) (fun _ => True) := fun τ hτ => by
      rw [bw_id (z := x3 + 6) (by omega) (by omega)]
      exact law_ok hn hLL hI n (N + 1) (x3 + 6) τ (by omega) (by omega) (by omega) hτ
    have same : wp (fL_law sx LL kI n (bw (x3 + 6)) σ) (fun _ => True) := go σ (hσ.keep Keep.rf)
    refine wp_grd.mpr ⟨by omega, ?_⟩
    refine wp_ite.mpr ⟨fun _ => ?_, fun _ => ?_⟩
    · refine wp_grd.mpr ⟨g1, ?_⟩
      refine wp_bind.mpr (wp_mono (op_state hN _ (hn _) σ hσ) (fun q hq => ?_))
      refine wp_grd.mpr ⟨g1, ?_⟩
      refine wp_bind.mpr (wp_mono hq (fun r hr => ?_))
      exact wp_ite.mpr ⟨fun _ => go r.2 hr.2, fun h => absurd hr.1 h⟩
    refine wp_ite.mpr ⟨fun _ => ?_, fun _ => ?_⟩
    · refine wp_grd.mpr ⟨g1, ?_⟩
      refine wp_grd.mpr ⟨g2, ?_⟩
      refine wp_bind.mpr (wp_mono (op_valley hN _ _ (hn _) (hn _) σ hσ) (fun q hq => ?_))
      refine wp_grd.mpr ⟨g1, ?_⟩
      refine wp_grd.mpr ⟨g2, ?_⟩
      refine wp_bind.mpr (wp_mono hq (fun r hr => ?_))
      exact wp_ite.mpr ⟨fun _ => go r.2 hr.2, fun h => absurd hr.1 h⟩
    refine wp_ite.mpr ⟨fun _ => ?_, fun _ => ?_⟩
    · refine wp_grd.mpr ⟨g1, ?_⟩
      refine wp_grd.mpr ⟨g2, ?_⟩
      refine wp_grd.mpr ⟨g3, ?_⟩
      refine wp_grd.mpr ⟨g4, ?_⟩
      refine wp_bind.mpr (wp_mono (op_person hN _ _ _ _ (hn _) (hn _) (hn _) (hn _) σ hσ) (fun q hq => ?_))
      refine wp_grd.mpr ⟨g1, ?_⟩
      refine wp_grd.mpr ⟨g2, ?_⟩
      refine wp_grd.mpr ⟨g3, ?_⟩
      refine wp_grd.mpr ⟨g4, ?_⟩
      refine wp_bind.mpr (wp_mono hq (fun r hr => ?_))
      exact wp_ite.mpr ⟨fun _ => go r.2 hr.2, fun h => absurd hr.1 h⟩
    refine wp_ite.mpr ⟨fun _ => ?_, fun _ => ?_⟩
    · refine wp_grd.mpr ⟨g1, ?_⟩
      refine wp_grd.mpr ⟨g2, ?_⟩
      refine wp_grd.mpr ⟨g3, ?_⟩
      refine wp_bind.mpr (wp_mono (op_set hN _ _ _ (hn _) (hn _) (hn _) σ hσ) (fun q hq => ?_))
      refine wp_grd.mpr ⟨g1, ?_⟩
      refine wp_grd.mpr ⟨g2, ?_⟩
      refine wp_grd.mpr ⟨g3, ?_⟩
      refine wp_bind.mpr (wp_mono hq (fun r hr => ?_))
      exact wp_ite.mpr ⟨fun _ => go r.2 hr.2, fun h => absurd hr.1 h⟩
    refine wp_ite.mpr ⟨fun _ => ?_, fun _ => ?_⟩
    · refine wp_grd.mpr ⟨g1, wp_grd.mpr ⟨g2, wp_grd.mpr ⟨g3, ?_⟩⟩⟩
      refine wp_ite.mpr ⟨fun c => ?_, fun c => ?_⟩
      · unfold fL_law_J376
        refine wp_bind.mpr (wp_mono (op_kin hN _ _ _ (Or.inl rfl) (hn _) (hn _) σ hσ) (fun q hq => ?_))
        refine wp_grd.mpr ⟨g1, wp_grd.mpr ⟨g2, wp_grd.mpr ⟨g3, ?_⟩⟩⟩
        refine wp_ite.mpr ⟨fun _ => ?_, fun c2 => absurd c c2⟩
        unfold fL_law_J403
        refine wp_bind.mpr (wp_mono hq (fun r hr => ?_))
        exact wp_ite.mpr ⟨fun _ => go r.2 hr.2, fun h => absurd hr.1 h⟩
      · unfold fL_law_J376
        refine wp_bind.mpr (wp_mono (op_kin hN _ _ _ (Or.inr rfl) (hn _) (hn _) σ hσ) (fun q hq => ?_))
        refine wp_grd.mpr ⟨g1, wp_grd.mpr ⟨g2, wp_grd.mpr ⟨g3, ?_⟩⟩⟩
        refine wp_ite.mpr ⟨fun c2 => absurd c2 c, fun _ => ?_⟩
        unfold fL_law_J403
        refine wp_bind.mpr (wp_mono hq (fun r hr => ?_))
        exact wp_ite.mpr ⟨fun _ => go r.2 hr.2, fun h => absurd hr.1 h⟩
    refine wp_ite.mpr ⟨fun _ => ?_, fun _ => ?_⟩
    · refine wp_grd.mpr ⟨g1, ?_⟩
      refine wp_grd.mpr ⟨g2, ?_⟩
      refine wp_grd.mpr ⟨g3, ?_⟩
      refine wp_bind.mpr (wp_mono (op_vow hN _ _ _ (hn _) (hn _) (hn _) σ hσ) (fun q hq => ?_))
      refine wp_grd.mpr ⟨g1, ?_⟩
      refine wp_grd.mpr ⟨g2, ?_⟩
      refine wp_grd.mpr ⟨g3, ?_⟩
      refine wp_bind.mpr (wp_mono hq (fun r hr => ?_))
      exact wp_ite.mpr ⟨fun _ => go r.2 hr.2, fun h => absurd hr.1 h⟩
    refine wp_ite.mpr ⟨fun _ => ?_, fun _ => ?_⟩
    · refine wp_grd.mpr ⟨g1, ?_⟩
      refine wp_grd.mpr ⟨g2, ?_⟩
      refine wp_bind.mpr (wp_mono (op_part hN _ _ (hn _) (hn _) σ hσ) (fun q hq => ?_))
      refine wp_grd.mpr ⟨g1, ?_⟩
      refine wp_grd.mpr ⟨g2, ?_⟩
      refine wp_bind.mpr (wp_mono hq (fun r hr => ?_))
      exact wp_ite.mpr ⟨fun _ => go r.2 hr.2, fun h => absurd hr.1 h⟩
    refine wp_ite.mpr ⟨fun _ => ?_, fun _ => ?_⟩
    · refine wp_grd.mpr ⟨g1, ?_⟩
      refine wp_bind.mpr (wp_mono (op_sweep hN _ (hn _) σ hσ) (fun q hq => ?_))
      refine wp_grd.mpr ⟨g1, ?_⟩
      refine wp_bind.mpr (wp_mono hq (fun r hr => ?_))
      exact wp_ite.mpr ⟨fun _ => go r.2 hr.2, fun h => absurd hr.1 h⟩
    refine wp_ite.mpr ⟨fun _ => ?_, fun _ => ?_⟩
    · refine wp_grd.mpr ⟨g1, ?_⟩
      refine wp_bind.mpr (wp_mono (op_days hN _ (hn _) σ hσ) (fun q hq => ?_))
      refine wp_grd.mpr ⟨g1, ?_⟩
      refine wp_bind.mpr (wp_mono hq (fun r hr => ?_))
      exact wp_ite.mpr ⟨fun _ => go r.2 hr.2, fun h => absurd hr.1 h⟩
    refine wp_ite.mpr ⟨fun _ => ?_, fun _ => ?_⟩
    · refine wp_grd.mpr ⟨g1, ?_⟩
      refine wp_grd.mpr ⟨g2, ?_⟩
      refine wp_grd.mpr ⟨g3, ?_⟩
      refine wp_grd.mpr ⟨g4, ?_⟩
      refine wp_grd.mpr ⟨g5, ?_⟩
      refine wp_bind.mpr (wp_mono (op_feed hN _ _ _ _ _ (hn _) (hn _) (hn _) (hn _) (hn _) σ hσ) (fun q hq => ?_))
      refine wp_grd.mpr ⟨g1, ?_⟩
      refine wp_grd.mpr ⟨g2, ?_⟩
      refine wp_grd.mpr ⟨g3, ?_⟩
      refine wp_grd.mpr ⟨g4, ?_⟩
      refine wp_grd.mpr ⟨g5, ?_⟩
      refine wp_bind.mpr (wp_mono hq (fun r hr => ?_))
      exact wp_ite.mpr ⟨fun _ => go r.2 hr.2, fun h => absurd hr.1 h⟩
    refine wp_ite.mpr ⟨fun _ => ?_, fun _ => ?_⟩
    · refine wp_grd.mpr ⟨g1, ?_⟩
      refine wp_bind.mpr (wp_mono (op_end hN _ (hn _) σ hσ) (fun q hq => ?_))
      refine wp_grd.mpr ⟨g1, ?_⟩
      refine wp_bind.mpr (wp_mono hq (fun r hr => ?_))
      exact wp_ite.mpr ⟨fun _ => go r.2 hr.2, fun h => absurd hr.1 h⟩
    refine wp_ite.mpr ⟨fun _ => ?_, fun _ => ?_⟩
    · refine wp_grd.mpr ⟨g1, ?_⟩
      refine wp_bind.mpr (wp_mono (op_text hN _ (hn _) σ hσ) (fun q hq => ?_))
      refine wp_grd.mpr ⟨g1, ?_⟩
      refine wp_bind.mpr (wp_mono hq (fun r hr => ?_))
      exact wp_ite.mpr ⟨fun _ => go r.2 hr.2, fun h => absurd hr.1 h⟩
    refine wp_ite.mpr ⟨fun _ => ?_, fun _ => ?_⟩
    · refine wp_grd.mpr ⟨g1, wp_grd.mpr ⟨g1, ?_⟩⟩
      exact wp_ite.mpr ⟨fun _ => same, fun h => absurd (op_fault _ hσ) h⟩
    refine wp_ite.mpr ⟨fun _ => ?_, fun _ => ?_⟩
    · refine wp_grd.mpr ⟨g1, ?_⟩
      refine wp_grd.mpr ⟨g2, ?_⟩
      refine wp_bind.mpr (wp_mono (op_of hN _ _ (hn _) (hn _) σ hσ) (fun q hq => ?_))
      refine wp_grd.mpr ⟨g1, ?_⟩
      refine wp_grd.mpr ⟨g2, ?_⟩
      refine wp_bind.mpr (wp_mono hq (fun r hr => ?_))
      exact wp_ite.mpr ⟨fun _ => same, fun h => absurd hr h⟩
    refine wp_ite.mpr ⟨fun _ => ?_, fun _ => ?_⟩
    · refine wp_grd.mpr ⟨g1, wp_grd.mpr ⟨g2, wp_grd.mpr ⟨g3, ?_⟩⟩⟩
      refine wp_ite.mpr ⟨fun c => ?_, fun c => ?_⟩
      · unfold fL_law_J722
        refine wp_bind.mpr (wp_mono (op_match hN _ _ _ (Or.inl rfl) (hn _) (hn _) σ hσ) (fun q hq => ?_))
        refine wp_grd.mpr ⟨g1, wp_grd.mpr ⟨g2, wp_grd.mpr ⟨g3, ?_⟩⟩⟩
        refine wp_ite.mpr ⟨fun _ => ?_, fun c2 => absurd c c2⟩
        unfold fL_law_J749
        refine wp_bind.mpr (wp_mono hq (fun r hr => ?_))
        exact wp_ite.mpr ⟨fun _ => go r.2 hr.2, fun h => absurd hr.1 h⟩
      · unfold fL_law_J722
        refine wp_bind.mpr (wp_mono (op_match hN _ _ _ (Or.inr rfl) (hn _) (hn _) σ hσ) (fun q hq => ?_))
        refine wp_grd.mpr ⟨g1, wp_grd.mpr ⟨g2, wp_grd.mpr ⟨g3, ?_⟩⟩⟩
        refine wp_ite.mpr ⟨fun c2 => absurd c2 c, fun _ => ?_⟩
        unfold fL_law_J749
        refine wp_bind.mpr (wp_mono hq (fun r hr => ?_))
        exact wp_ite.mpr ⟨fun _ => go r.2 hr.2, fun h => absurd hr.1 h⟩
    refine wp_ite.mpr ⟨fun _ => ?_, fun _ => ?_⟩
    · refine wp_grd.mpr ⟨g1, ?_⟩
      refine wp_grd.mpr ⟨g2, ?_⟩
      refine wp_bind.mpr (wp_mono (op_at hN _ _ (hn _) (hn _) σ hσ) (fun q hq => ?_))
      refine wp_grd.mpr ⟨g1, ?_⟩
      refine wp_grd.mpr ⟨g2, ?_⟩
      refine wp_bind.mpr (wp_mono hq (fun r hr => ?_))
      exact wp_ite.mpr ⟨fun _ => go r.2 hr.2, fun h => absurd hr.1 h⟩
    refine wp_ite.mpr ⟨fun _ => ?_, fun _ => ?_⟩
    · refine wp_grd.mpr ⟨g1, ?_⟩
      refine wp_grd.mpr ⟨g2, ?_⟩
      refine wp_grd.mpr ⟨g3, ?_⟩
      refine wp_grd.mpr ⟨g4, ?_⟩
      refine wp_bind.mpr (wp_mono (op_lift hN _ _ _ _ (hn _) (hn _) (hn _) (hn _) σ hσ) (fun q hq => ?_))
      refine wp_grd.mpr ⟨g1, ?_⟩
      refine wp_grd.mpr ⟨g2, ?_⟩
      refine wp_grd.mpr ⟨g3, ?_⟩
      refine wp_grd.mpr ⟨g4, ?_⟩
      refine wp_bind.mpr (wp_mono hq (fun r hr => ?_))
      exact wp_ite.mpr ⟨fun _ => go r.2 hr.2, fun h => absurd hr.1 h⟩
    refine wp_ite.mpr ⟨fun _ => ?_, fun _ => ?_⟩
    · refine wp_grd.mpr ⟨g1, ?_⟩
      refine wp_bind.mpr (wp_mono (op_weather hN _ (hn _) σ hσ) (fun q hq => ?_))
      refine wp_grd.mpr ⟨g1, ?_⟩
      refine wp_bind.mpr (wp_mono hq (fun r hr => ?_))
      exact wp_ite.mpr ⟨fun _ => same, fun h => absurd hr h⟩
    refine wp_ite.mpr ⟨fun _ => ?_, fun _ => ?_⟩
    · refine wp_grd.mpr ⟨g1, ?_⟩
      refine wp_grd.mpr ⟨g2, ?_⟩
      refine wp_bind.mpr (wp_mono (op_book hN _ _ (hn _) (hn _) σ hσ) (fun q hq => ?_))
      refine wp_grd.mpr ⟨g1, ?_⟩
      refine wp_grd.mpr ⟨g2, ?_⟩
      refine wp_bind.mpr (wp_mono hq (fun r hr => ?_))
      exact wp_ite.mpr ⟨fun _ => same, fun h => absurd hr h⟩
    refine wp_ite.mpr ⟨fun _ => ?_, fun _ => ?_⟩
    · refine wp_grd.mpr ⟨g1, ?_⟩
      refine wp_grd.mpr ⟨g2, ?_⟩
      refine wp_bind.mpr (wp_mono (op_lies hN _ _ (hn _) (hn _) σ hσ) (fun q hq => ?_))
      refine wp_grd.mpr ⟨g1, ?_⟩
      refine wp_grd.mpr ⟨g2, ?_⟩
      refine wp_bind.mpr (wp_mono hq (fun r hr => ?_))
      exact wp_ite.mpr ⟨fun _ => go r.2 hr.2, fun h => absurd hr.1 h⟩
    refine wp_ite.mpr ⟨fun _ => ?_, fun _ => ?_⟩
    · refine wp_grd.mpr ⟨g1, ?_⟩
      refine wp_bind.mpr (wp_mono (op_meets hN _ (hn _) σ hσ) (fun q hq => ?_))
      refine wp_grd.mpr ⟨g1, ?_⟩
      refine wp_bind.mpr (wp_mono hq (fun r hr => ?_))
      exact wp_ite.mpr ⟨fun _ => go r.2 hr.2, fun h => absurd hr.1 h⟩
    refine wp_ite.mpr ⟨fun _ => ?_, fun _ => ?_⟩
    · refine wp_grd.mpr ⟨g1, ?_⟩
      refine wp_bind.mpr (wp_mono (op_stable hN _ (hn _) σ hσ) (fun q hq => ?_))
      refine wp_grd.mpr ⟨g1, ?_⟩
      refine wp_bind.mpr (wp_mono hq (fun r hr => ?_))
      exact wp_ite.mpr ⟨fun _ => go r.2 hr.2, fun h => absurd hr.1 h⟩
    refine wp_ite.mpr ⟨fun _ => ?_, fun _ => ?_⟩
    · refine wp_grd.mpr ⟨g1, ?_⟩
      refine wp_bind.mpr (wp_mono (op_best hN _ (hn _) σ hσ) (fun q hq => ?_))
      refine wp_grd.mpr ⟨g1, ?_⟩
      refine wp_bind.mpr (wp_mono hq (fun r hr => ?_))
      exact wp_ite.mpr ⟨fun _ => go r.2 hr.2, fun h => absurd hr.1 h⟩
    refine wp_ite.mpr ⟨fun _ => ?_, fun _ => ?_⟩
    · refine wp_grd.mpr ⟨g1, ?_⟩
      refine wp_grd.mpr ⟨g2, ?_⟩
      refine wp_bind.mpr (wp_mono (op_bares hN _ _ (hn _) (hn _) σ hσ) (fun q hq => ?_))
      refine wp_grd.mpr ⟨g1, ?_⟩
      refine wp_grd.mpr ⟨g2, ?_⟩
      refine wp_bind.mpr (wp_mono hq (fun r hr => ?_))
      exact wp_ite.mpr ⟨fun _ => go r.2 hr.2, fun h => absurd hr.1 h⟩
    refine wp_ite.mpr ⟨fun _ => ?_, fun _ => ?_⟩
    · refine wp_grd.mpr ⟨g1, wp_grd.mpr ⟨g2, wp_grd.mpr ⟨g3, ?_⟩⟩⟩
      refine wp_ite.mpr ⟨fun c => ?_, fun c => ?_⟩
      · unfold fL_law_J1058
        refine wp_bind.mpr (wp_mono (op_stir hN _ _ _ (Or.inl rfl) (hn _) (hn _) σ hσ) (fun q hq => ?_))
        refine wp_grd.mpr ⟨g1, wp_grd.mpr ⟨g2, wp_grd.mpr ⟨g3, ?_⟩⟩⟩
        refine wp_ite.mpr ⟨fun _ => ?_, fun c2 => absurd c c2⟩
        unfold fL_law_J1085
        refine wp_bind.mpr (wp_mono hq (fun r hr => ?_))
        exact wp_ite.mpr ⟨fun _ => go r.2 hr.2, fun h => absurd hr.1 h⟩
      · unfold fL_law_J1058
        refine wp_bind.mpr (wp_mono (op_stir hN _ _ _ (Or.inr rfl) (hn _) (hn _) σ hσ) (fun q hq => ?_))
        refine wp_grd.mpr ⟨g1, wp_grd.mpr ⟨g2, wp_grd.mpr ⟨g3, ?_⟩⟩⟩
        refine wp_ite.mpr ⟨fun c2 => absurd c2 c, fun _ => ?_⟩
        unfold fL_law_J1085
        refine wp_bind.mpr (wp_mono hq (fun r hr => ?_))
        exact wp_ite.mpr ⟨fun _ => go r.2 hr.2, fun h => absurd hr.1 h⟩
    refine wp_ite.mpr ⟨fun _ => ?_, fun _ => ?_⟩
    · refine wp_grd.mpr ⟨g1, ?_⟩
      refine wp_bind.mpr (wp_mono (op_who hN _ (hn _) σ hσ) (fun q hq => ?_))
      refine wp_grd.mpr ⟨g1, ?_⟩
      refine wp_bind.mpr (wp_mono hq (fun r hr => ?_))
      exact wp_ite.mpr ⟨fun _ => go r.2 hr.2, fun h => absurd hr.1 h⟩
    refine wp_ite.mpr ⟨fun _ => ?_, fun _ => ?_⟩
    · refine wp_grd.mpr ⟨g1, ?_⟩
      refine wp_bind.mpr (wp_mono (op_ask hN _ (hn _) σ hσ) (fun q hq => ?_))
      refine wp_grd.mpr ⟨g1, ?_⟩
      refine wp_bind.mpr (wp_mono hq (fun r hr => ?_))
      exact wp_ite.mpr ⟨fun _ => go r.2 hr.2, fun h => absurd hr.1 h⟩
    refine wp_ite.mpr ⟨fun _ => ?_, fun _ => ?_⟩
    · refine wp_grd.mpr ⟨g1, wp_grd.mpr ⟨g2, wp_grd.mpr ⟨g1, wp_grd.mpr ⟨g2, ?_⟩⟩⟩⟩
      exact wp_ite.mpr ⟨fun _ => same, fun h => absurd rfl h⟩
    refine wp_ite.mpr ⟨fun _ => ?_, fun _ => ?_⟩
    · refine wp_grd.mpr ⟨g1, ?_⟩
      refine wp_grd.mpr ⟨g2, ?_⟩
      refine wp_bind.mpr (wp_mono (op_safe hN _ _ (hn _) (hn _) σ hσ) (fun q hq => ?_))
      refine wp_grd.mpr ⟨g1, ?_⟩
      refine wp_grd.mpr ⟨g2, ?_⟩
      refine wp_bind.mpr (wp_mono hq (fun r hr => ?_))
      exact wp_ite.mpr ⟨fun _ => go r.2 hr.2, fun h => absurd hr.1 h⟩
    refine wp_ite.mpr ⟨fun _ => ?_, fun _ => ?_⟩
    · refine wp_grd.mpr ⟨g1, ?_⟩
      refine wp_grd.mpr ⟨g2, ?_⟩
      refine wp_bind.mpr (wp_mono (op_cut hN _ _ (hn _) (hn _) σ hσ) (fun q hq => ?_))
      refine wp_grd.mpr ⟨g1, ?_⟩
      refine wp_grd.mpr ⟨g2, ?_⟩
      refine wp_bind.mpr (wp_mono hq (fun r hr => ?_))
      exact wp_ite.mpr ⟨fun _ => go r.2 hr.2, fun h => absurd hr.1 h⟩
    refine wp_ite.mpr ⟨fun _ => ?_, fun _ => ?_⟩
    · refine wp_grd.mpr ⟨g1, ?_⟩
      refine wp_bind.mpr (wp_mono (op_rounds hN _ (hn _) σ hσ) (fun q hq => ?_))
      refine wp_grd.mpr ⟨g1, ?_⟩
      refine wp_bind.mpr (wp_mono hq (fun r hr => ?_))
      exact wp_ite.mpr ⟨fun _ => go r.2 hr.2, fun h => absurd hr.1 h⟩
    refine wp_ite.mpr ⟨fun _ => ?_, fun _ => ?_⟩
    · refine wp_grd.mpr ⟨g1, ?_⟩
      refine wp_grd.mpr ⟨g2, ?_⟩
      refine wp_bind.mpr (wp_mono (op_comes hN _ _ (hn _) (hn _) σ hσ) (fun q hq => ?_))
      refine wp_grd.mpr ⟨g1, ?_⟩
      refine wp_grd.mpr ⟨g2, ?_⟩
      refine wp_bind.mpr (wp_mono hq (fun r hr => ?_))
      exact wp_ite.mpr ⟨fun _ => go r.2 hr.2, fun h => absurd hr.1 h⟩
    refine wp_ite.mpr ⟨fun _ => ?_, fun _ => ?_⟩
    · refine wp_bind.mpr (wp_mono (op_asks hN   σ hσ) (fun q hq => ?_))
      refine wp_bind.mpr (wp_mono hq (fun r hr => ?_))
      exact wp_ite.mpr ⟨fun _ => same, fun h => absurd hr h⟩
    refine wp_ite.mpr ⟨fun _ => ?_, fun _ => ?_⟩
    · refine wp_grd.mpr ⟨g1, ?_⟩
      refine wp_bind.mpr (wp_mono (op_tribe hN _ (hn _) σ hσ) (fun q hq => ?_))
      refine wp_grd.mpr ⟨g1, ?_⟩
      refine wp_bind.mpr (wp_mono hq (fun r hr => ?_))
      exact wp_ite.mpr ⟨fun _ => same, fun h => absurd hr h⟩
    refine wp_ite.mpr ⟨fun _ => ?_, fun _ => ?_⟩
    · refine wp_grd.mpr ⟨g1, ?_⟩
      refine wp_bind.mpr (wp_mono (op_hopes hN _ (hn _) σ hσ) (fun q hq => ?_))
      refine wp_grd.mpr ⟨g1, ?_⟩
      refine wp_bind.mpr (wp_mono hq (fun r hr => ?_))
      exact wp_ite.mpr ⟨fun _ => same, fun h => absurd hr h⟩
    refine wp_ite.mpr ⟨fun _ => ?_, fun _ => ?_⟩
    · refine wp_bind.mpr (wp_mono (op_undo hN   σ hσ) (fun q hq => ?_))
      refine wp_bind.mpr (wp_mono hq (fun r hr => ?_))
      exact wp_ite.mpr ⟨fun _ => go r.2 hr.2, fun h => absurd hr.1 h⟩
    refine wp_ite.mpr ⟨fun _ => ?_, fun _ => ?_⟩
    · exact hI _ N x3 σ hx hN (by omega) hσ go
    refine wp_ite.mpr ⟨fun _ => ?_, fun _ => ?_⟩
    · refine wp_grd.mpr ⟨g1, ?_⟩
      refine wp_bind.mpr (wp_mono (op_look hN _ (hn _) σ hσ) (fun q hq => ?_))
      refine wp_grd.mpr ⟨g1, ?_⟩
      refine wp_bind.mpr (wp_mono hq (fun r hr => ?_))
      exact wp_ite.mpr ⟨fun _ => same, fun h => absurd hr h⟩
    exact same
theorem kI1_ok {sx : Int → Int} {LL : Int} (hn : ∀ i, bw (sx i) = sx i) (hLL : 0 ≤ LL ∧ LL ≤ 3072) (rec : Int → Sg → Option Unit) (N : Nat) (x3 : Int) (σ : Sg) (hx : x3 = 6 * (N : Int)) (hN : N ≤ 511) (h6 : x3 + 6 ≤ LL) (hσ : Inv true N σ) (go : ∀ τ, Inv true (N + 1) τ → wp (rec (bw (x3 + 6)) τ) (fun _ => True)) : wp (kI1 sx LL rec x3 σ) (fun _ => True) := by
  unfold kI1
  have g1 : (0 : Int) ≤ bw (x3 + 1) ∧ bw (x3 + 1) < LL := by rw [bw_id (z := x3 + 1) (by omega) (by omega)]; omega
  refine wp_grd.mpr ⟨g1, wp_bind.mpr (wp_mono (op_image1 hN (if sx (bw (x3 + 1)) = 0 then 0 else 1) (by split <;> omega) σ hσ) (fun q hq => ?_))⟩
  unfold fLI_b
  refine wp_grd.mpr ⟨g1, wp_bind.mpr (wp_mono hq (fun r hr => ?_))⟩
  exact wp_ite.mpr ⟨fun _ => go r.2 hr.2, fun h => absurd hr.1 h⟩
theorem kI0_ok {sx : Int → Int} {LL : Int} (hn : ∀ i, bw (sx i) = sx i) (hLL : 0 ≤ LL ∧ LL ≤ 3072) (rec : Int → Sg → Option Unit) (N : Nat) (x3 : Int) (σ : Sg) (hx : x3 = 6 * (N : Int)) (hN : N ≤ 511) (h6 : x3 + 6 ≤ LL) (hσ : Inv false N σ) (go : ∀ τ, Inv false (N + 1) τ → wp (rec (bw (x3 + 6)) τ) (fun _ => True)) : wp (kI0 sx LL rec x3 σ) (fun _ => True) := by
  unfold kI0
  have g1 : (0 : Int) ≤ bw (x3 + 1) ∧ bw (x3 + 1) < LL := by rw [bw_id (z := x3 + 1) (by omega) (by omega)]; omega
  refine wp_grd.mpr ⟨g1, wp_ite.mpr ⟨fun c => ?_, fun c => ?_⟩⟩
  · unfold fLI_b
    refine wp_grd.mpr ⟨g1, ?_⟩
    rw [if_pos c]
    refine wp_bind.mpr (wp_mono (op_imageN σ hσ) (fun r hr => ?_))
    exact wp_ite.mpr ⟨fun _ => go r.2 hr.2, fun h => absurd hr.1 h⟩
  · refine wp_bind.mpr (wp_mono (op_image0 hN σ hσ) (fun τ hτ => ?_))
    unfold fLI_b
    refine wp_grd.mpr ⟨g1, ?_⟩
    rw [if_neg c]
    refine wp_bind.mpr (wp_mono hτ (fun r hr => ?_))
    refine wp_ite.mpr ⟨fun _ => ?_, fun h => absurd hr.1 h⟩
    rw [bw_id (z := x3 + 6) (by omega) (by omega)]
    exact law_ok hn hLL (kI1_ok hn hLL) FU (N + 1) (x3 + 6) r.2 (by omega) (by omega) (by unfold FU; omega) hr.2
theorem pure_ok {sx : Int → Int} {L : Nat} (hn : ∀ i, bw (sx i) = sx i) (hL : L ≤ 3072) : pureLaw sx (L : Int) = some () := by
  have h : wp (pureLaw sx (L : Int)) (fun _ => True) := by
    unfold pureLaw
    refine wp_bind.mpr (wp_mono start_ok (fun s hs => wp_bind.mpr (wp_mono hs (fun t ht => ?_))))
    exact law_ok hn (by omega) (kI0_ok hn (by omega)) FU 0 0 t (by omega) (by omega) (by unfold FU; omega) ht
  obtain ⟨u, h1, -⟩ := h
  exact h1
