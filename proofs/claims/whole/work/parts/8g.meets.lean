/-! meets 0 and 1: the loop over the days -/
theorem wmS_add {w : Int → Int} {d : Int} : ∀ (r : Nat) (i a : Int), wmS w d r i a = a + wmS w d r i 0
  | 0, i, a => by rw [wmS, wmS]; omega
  | r + 1, i, a => by
    rw [wmS, wmS, wmS_add r (i + 1) (a + _), wmS_add r (i + 1) (0 + _)]
    omega
def mtS : Nat → (Int → Int) → Int → Int → Int → Int × Int
  | 0, _, _, a, f => (a, f)
  | n + 1, w, fv, a, f => mtS n (dayW 0 w fv) (vdD 0 w fv).2.2 (wmS (dayW 0 w fv) (w 0) (w 89).toNat 0 a) (if f = -1 then unS (dayW 0 w fv) (w 0) (w 89).toNat 0 else f)
theorem mtS_f {f : Int} (hf : f ≠ -1) : ∀ (r : Nat) (w : Int → Int) (fv a : Int), (mtS r w fv a f).2 = f
  | 0, _, _, _ => rfl
  | r + 1, w, fv, a => by
    rw [mtS, if_neg hf]
    exact mtS_f hf r _ _ _
theorem meetsL_c {x1 g : Int} (hx : x1 = 0 ∨ x1 = 1) {σ0 : Sg} (hT : TC σ0) : ∀ (r m : Nat) (w : Int → Int) (fv a : Int) (σ : Sg), (g < w 0 ∧ r = 0) ∨ w 0 + r = g + 1 → g ≤ 999 → r < m → CW 0 w σ 28 → pot w ≤ 700000000 → 0 ≤ a → a + 1600 * r ≤ 2000000000 → (∀ (c : Nat) (i : Int), c < 28 ∨ 28 + 27 ≤ c → rd σ c i = rd σ0 c i) → wp (fX10_meets_L51 (fun v s => if x1 = 0 then some (v, s) else some ((-1), s)) x1 g m a (w 0) σ) (fun q => q.1 = (if x1 = 0 then (mtS r w fv a (-1)).1 else (mtS r w fv a (-1)).2) ∧ Keep σ0 q.2)
  | 0, m, w, fv, a, σ, hr, hg, hm, hC, hp, a0, a1, hF => by
    cases m with
    | zero => omega
    | succ m =>
      rw [fX10_meets_L51, if_pos (by omega)]
      have hk := thought_keep hT hF hC
      rcases hx with rfl | rfl
      · rw [if_pos rfl, wp_some, if_pos rfl]; exact ⟨rfl, hk⟩
      · rw [if_neg (by decide), wp_some, if_neg (by decide)]; exact ⟨rfl, hk⟩
  | r + 1, m, w, fv, a, σ, hr, hg, hm, hC, hp, a0, a1, hF => by
    have hok : OKw 0 w := ⟨σ, 28, Or.inr ⟨rfl, rfl⟩, hC⟩
    have hd0 := hC.1.1.2.2.2.2.2.2.1
    obtain ⟨d1, d2, d3, d4, d5⟩ := dayW_lo hok fv (by omega)
    have e89 : dayW 0 w fv 89 = w 89 := d3 89 (by omega)
    cases m with
    | zero => omega
    | succ m =>
      rw [fX10_meets_L51, if_neg (by omega), wp_bind]
      refine wp_mono (passDay_c (Or.inr ⟨rfl, rfl⟩) hC fv (by omega) (by omega)) (fun q hq => ?_)
      have hb := hq.2.1.1.2.2.2.2.2.1.1
      have hw := wmS_r hq.2.1.1 (d := w 0) (w 89).toNat 0 0 (by omega) (by omega)
      have hF2 : ∀ (c : Nat) (i : Int), c < 28 ∨ 28 + 27 ≤ c → rd q.2 c i = rd σ0 c i := fun c j hc => (hq.2.2 c j (by unfold cellW; simp <;> omega)).trans (hF c j hc)
      have nx : ∀ f : Int, f = unS (dayW 0 w fv) (w 0) (w 89).toNat 0 → (x1 = 0 ∨ f = -1) → wp (fX10_meets_J90 (fX10_meets_L51 (fun v s => if x1 = 0 then some (v, s) else some ((-1), s)) x1 g m) x1 g a (w 0) q.2) (fun q => q.1 = (if x1 = 0 then (mtS (r + 1) w fv a (-1)).1 else (mtS (r + 1) w fv a (-1)).2) ∧ Keep σ0 q.2) := by
        intro f hf hf2
        unfold fX10_meets_J90
        have hi := meetsL_c (g := g) hx hT r m (dayW 0 w fv) (vdD 0 w fv).2.2 (a + wmS (dayW 0 w fv) (w 0) (w 89).toNat 0 0) q.2 (by omega) hg (by omega) hq.2.1 (by omega) (by omega) (by omega) hF2
        rw [d2] at hi
        rw [worth_c hq.2.1, e89, Option.bind_some, bw_id (z := a + wmS (dayW 0 w fv) (w 0) (w 89).toNat 0 0) (by omega) (by omega), bw_id (z := w 0 + 1) (by omega) (by omega), mtS, if_pos rfl, ← hf, wmS_add _ _ a]
        rcases hf2 with e | e
        · have s1 : ∀ (r : Nat) (w : Int → Int) (fv a f f' : Int), (mtS r w fv a f).1 = (mtS r w fv a f').1 := by
            intro r
            induction r with
            | zero => intros; rfl
            | succ r ih => intro w fv a f f'; rw [mtS, mtS]; exact ih _ _ _ _ _
          rw [if_pos e] at hi ⊢
          rw [s1 r _ _ _ f (-1)]
          exact hi
        · rw [e]; exact hi
      rw [unmet_c hq.2.1, e89, Option.bind_some]
      by_cases c1 : x1 = 1
      · rw [if_pos c1]
        by_cases c2 : unS (dayW 0 w fv) (w 0) (w 89).toNat 0 = -1
        · rw [if_pos c2]
          exact nx _ rfl (Or.inr c2)
        · rw [if_neg c2, wp_some, if_neg (by omega), mtS, if_pos rfl]
          exact ⟨(mtS_f c2 r _ _ _).symm, thought_keep hT hF2 hq.2.1⟩
      · rw [if_neg c1]
        exact nx _ rfl (Or.inl (by omega))
