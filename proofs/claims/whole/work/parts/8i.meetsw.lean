/-! meets 0 and 1 -/
theorem gtN_le {f : Int → Int} {b cnt : Int} (h : ∀ i : Int, 0 ≤ i → i < cnt → f i ≤ b) : ∀ (r : Nat) (i a : Int), i + r = cnt → 0 ≤ i → a ≤ b → gtN f r i a ≤ b
  | 0, _, _, _, _, ha => ha
  | r + 1, i, a, hi, i0, ha => by
    have := h i i0 (by omega)
    rw [gtN]
    exact gtN_le h r (i + 1) _ (by omega) (by omega) (by omega)
theorem back_keep {τ s ρ r : Sg} {w : Int → Int} (e85 : rd τ 85 = w) (l88 : ∀ j : Int, 0 ≤ j → j < 80 → rd s 88 j = rd τ 85 j) (l84 : ∀ i : Int, i ≠ 26 → i ≠ 28 → rd s 84 i = rd τ 84 i) (lf : Fr [84, 88] τ s) (hF : Fs s ρ) (hi : ∀ j : Int, j < 0 ∨ 80 ≤ j → rd ρ 85 j = w j) (hr : (∀ j : Int, rd r 85 j = if 0 ≤ j ∧ j < 80 then rd ρ 88 j else rd ρ 85 j) ∧ Fr [85] ρ r) : Keep τ r := by
  have r85 : rd r 85 = rd τ 85 := by
    funext j
    rw [hr.1]
    by_cases c : 0 ≤ j ∧ j < 80
    · rw [if_pos c, hF 88 j (by decide) (by omega)]; exact l88 j c.1 c.2
    · rw [if_neg c, hi j (by omega), e85]
  have ro : ∀ c : Nat, c ∉ [85, 93, 94, 95, 84, 88] → ∀ j, rd r c j = rd τ c j := fun c hc j => by
    simp only [List.mem_cons, List.not_mem_nil, or_false, not_or] at hc
    rw [hr.2 c j (by simp <;> omega), hF c j (by simp <;> omega) (by omega)]
    exact lf c j (by simp <;> omega)
  have r84 : ∀ j : Int, j ≠ 26 → j ≠ 28 → rd r 84 j = rd τ 84 j := fun j a b => by
    rw [hr.2 84 j (by decide), hF 84 j (by decide) (by omega)]
    exact l84 j a b
  refine ⟨fun c hc => ?_, fun q hq => ?_⟩
  · by_cases e : c = 85
    · rw [e]; exact r85
    · exact funext fun j => ro c ((by decide : ∀ c ∈ kcells, c ≠ 85 → c ∉ [85, 93, 94, 95, 84, 88]) c hc e) j
  · by_cases e : q.1 = 84
    · have := (by decide : ∀ q ∈ kslots, q.1 = 84 → q.2 ≠ 26 ∧ q.2 ≠ 28) q hq e
      rw [e]
      exact r84 q.2 this.1 this.2
    · exact ro q.1 ((by decide : ∀ q ∈ kslots, q.1 ≠ 84 → q.1 ∉ [85, 93, 94, 95, 84, 88]) q hq e) q.2
theorem meets_w {has : Bool} {N : Nat} (hN : N ≤ 511) (x1 : Int) (hx : x1 = 0 ∨ x1 = 1) : OpE has N (fX10_meets x1) (fX11_meets x1) := by
  intro σ h
  have hC := h.1
  have hW := hC.1
  have hT : TC σ := h.2.2.2.2.2.1
  have hd0 := hW.1.2.2.2.2.2.2.1
  have hb := hW.2.2.2.2.2.1.1
  have hpb := pot_b hN h.2.2.1
  have hd := h.2.1
  have hg := gtN_le (f := fun i => rd σ 85 (240 + 3 * i)) (b := 999) (cnt := rd σ 85 89) (fun i i0 i1 => (hW.2.2.2.2.2.1.2 i i0 i1).2.1.2) (rd σ 85 89).toNat 0 (-1) (by omega) (by omega) (by decide)
  generalize hgg : gtN (fun i => rd σ 85 (240 + 3 * i)) (rd σ 85 89).toNat 0 (-1) = g at hg
  refine opE_ro (v := if x1 = 0 then (mtS (g + 1 - rd σ 85 0).toNat (rd σ 85) (-1) 0 (-1)).1 else (mtS (g + 1 - rd σ 85 0).toNat (rd σ 85) (-1) 0 (-1)).2) h ?_ (fun τ hk => ?_)
  · have ej : fX10_meets x1 σ = fX10_meets_J24 x1 σ := by
      unfold fX10_meets
      rcases hx with rfl | rfl
      · rw [if_neg (by decide), if_pos rfl]
      · rw [if_neg (by decide), if_neg (by decide), if_pos rfl]
    show wp (fX10_meets x1 σ) _
    rw [ej]
    unfold fX10_meets_J24
    rw [wp_bind]
    refine wp_mono (thought_c hC hT) (fun s hs => ?_)
    have sl : ∀ (c : Nat) (i : Int), c < 28 → rd s c i = rd σ c i := fun c i hc => hs.1 c i (Or.inl hc)
    have e2 : rd s 22 2 = rd σ 85 89 := (sl 22 2 (by decide)).trans hC.2.2.2.2.1.2.2.1.2.1
    have eg : fX6_greatest 22 48 1 s = some g := by
      rw [greatest_c e2 (by omega) (by omega) (by omega), ← hgg]
      refine congrArg some (gtN_congr (cnt := rd σ 85 89) (fun i i0 i1 => ?_) _ 0 (-1) (by omega) (by omega))
      exact (sl 23 _ (by decide)).trans (hC.2.2.2.2.1.2.2.1.2.2 i i0 i1).2.1
    have e6 : rd s 1 6 = rd σ 85 0 := (sl 1 6 (by decide)).trans hC.2.1.2.2.2.2.2.2.1
    rw [eg, Option.bind_some, e6]
    exact meetsL_c hx hT _ FU (rd σ 85) (-1) 0 s (by omega) hg (by unfold FU; omega) hs.2 hpb (by omega) (by omega) hs.1
  · have e85 : rd τ 85 = rd σ 85 := hk.1 85 (by decide)
    obtain ⟨s0, hs0⟩ : ∃ s, fX10_beginThought σ = some s ∧ CW 0 (rd σ 85) s 28 := by
      obtain ⟨s, a, b, c⟩ := thought_c hC hT
      exact ⟨s, a, c⟩
    have hok : OKw 0 (rd σ 85) := ⟨s0, 28, Or.inr ⟨rfl, rfl⟩, hs0.2⟩
    show wp (fX11_meets x1 τ) _
    unfold fX11_meets fX11_meetsWants
    rw [isIn_m, if_pos (show 0 ≤ x1 ∧ x1 ≤ 2 by omega), if_neg n10, if_pos (show x1 < 2 by omega), lastOf_m e85 (by decide) (by omega) (by decide) (by decide), hgg, Option.bind_some, wp_bind, wp_bind]
    refine wp_mono lays_m (fun s hs => ?_)
    obtain ⟨l88, l26, l28, l84, lf⟩ := hs
    have s85 : rd s 85 = rd σ 85 := (funext fun j => lf 85 j (by decide)).trans e85
    refine meetsL_m (σ0 := s) (g + 1 - rd σ 85 0).toNat FU (rd σ 85) (-1) 0 (-1) s (by omega) hg (by unfold FU; omega) hok s85 l26 l28 hpb (by omega) (by omega) (fun _ _ _ _ => rfl) (fun ρ hρ hF => ?_)
    rw [wp_bind]
    refine wp_mono putsBack_m (fun r hr => ?_)
    have hi := d0_hi (g + 1 - rd σ 85 0).toNat (rd σ 85) (-1) hok hpb (by omega)
    have kp := back_keep e85 l88 l84 lf hF (fun j hj => (congrFun hρ j).trans (hi j hj)) hr
    rcases hx with rfl | rfl
    · rw [if_pos rfl, wp_some, wp_some, if_pos rfl]
      exact ⟨rfl, kp⟩
    · rw [if_neg (by decide), wp_some, wp_some, if_neg (by decide)]
      exact ⟨rfl, kp⟩
