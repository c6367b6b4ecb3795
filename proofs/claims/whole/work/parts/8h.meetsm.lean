/-! meets 0 and 1: the loop over the days, the model -/
theorem meetsL_m {x1 g : Int} {σ0 : Sg} {k : Int → Int → Sg → Option (Int × Sg)} {Q : Int × Sg → Prop} : ∀ (r m : Nat) (w : Int → Int) (fv a f : Int) (σ : Sg), (g < w 0 ∧ r = 0) ∨ w 0 + r = g + 1 → g ≤ 999 → r < m → OKw 0 w → rd σ 85 = w → rd σ 84 26 = 0 → rd σ 84 28 = fv → pot w ≤ 700000000 → 0 ≤ a → a + 1600 * r ≤ 1000000000 → Fs σ0 σ → (∀ ρ, rd ρ 85 = (d0st r (w, fv)).1 → Fs σ0 ρ → wp (k (mtS r w fv a f).1 (mtS r w fv a f).2 ρ) Q) → wp (fX11_meetsWants_L20 k x1 g m a f σ) Q
  | 0, m, w, fv, a, f, σ, hr, hg, hm, hok, hw, ht, hfv, hp, a0, a1, hF, hQ => by
    cases m with
    | zero => omega
    | succ m =>
      rw [fX11_meetsWants_L20, hw, if_pos (by omega)]
      exact hQ σ hw hF
  | r + 1, m, w, fv, a, f, σ, hr, hg, hm, hok, hw, ht, hfv, hp, a0, a1, hF, hQ => by
    have hd0 := hok.wf.1.2.2.2.2.2.2.1
    obtain ⟨d1, d2, d3, d4, d5⟩ := dayW_lo hok fv (by omega)
    have e89 : dayW 0 w fv 89 = w 89 := d3 89 (by omega)
    have hok2 := hok.day fv (by omega) (by omega)
    have hb := hok2.wf.2.2.2.2.2.1.1
    have hs := wmS_r hok2.wf (d := w 0) (w 89).toNat 0 a (by omega) (by omega)
    cases m with
    | zero => omega
    | succ m =>
      rw [fX11_meetsWants_L20, hw, if_neg (by omega), wp_bind]
      refine wp_mono (aDay_m hok hw ⟨fun _ => rfl, fun _ => ht⟩ hfv (by omega)) (fun q hq => ?_)
      rw [wants_m hok2.wf hq.2.1 (w 89).toNat FU 0 a f (by omega) (by omega) (by unfold FU; omega) a0 (by omega)]
      refine meetsL_m r m (dayW 0 w fv) (vdD 0 w fv).2.2 _ _ q.2 (by omega) hg (by omega) hok2 hq.2.1 ?_ hq.2.2.1 (by omega) (by omega) (by omega) (fun c j x y => (hq.2.2.2 c j x y).trans (hF c j x y)) (fun ρ hρ hf => ?_)
      · rw [hq.2.2.2 84 26 (by decide) (by decide)]
        exact ht
      · have := hQ ρ hρ hf
        rw [mtS] at this
        exact this
