/-! the wants of one day -/
def unS (w : Int → Int) (d : Int) : Nat → Int → Int
  | 0, _ => -1
  | n + 1, i => if w (240 + 3 * i) = d ∧ w (4 + w (239 + 3 * i)) ≠ 0 then i else unS w d n (i + 1)
def wmS (w : Int → Int) (d : Int) : Nat → Int → Int → Int
  | 0, _, a => a
  | n + 1, i, a => wmS w d n (i + 1) (a + if w (240 + 3 * i) = d ∧ w (4 + w (239 + 3 * i)) = 0 then w (241 + 3 * i) else 0)
theorem unS_r {w : Int → Int} {d : Int} : ∀ (r : Nat) (i : Int), 0 ≤ i → unS w d r i = -1 ∨ i ≤ unS w d r i ∧ unS w d r i < i + r
  | 0, i, i0 => Or.inl rfl
  | r + 1, i, i0 => by
    rw [unS]
    split
    · exact Or.inr ⟨Int.le_refl _, by omega⟩
    · rcases unS_r (w := w) (d := d) r (i + 1) (by omega) with h | h
      · exact Or.inl h
      · exact Or.inr ⟨by omega, by omega⟩
theorem wmS_r {w : Int → Int} (hW : Wf w) {d : Int} : ∀ (r : Nat) (i a : Int), i + r = w 89 → 0 ≤ i → a ≤ wmS w d r i a ∧ wmS w d r i a ≤ a + 99 * r
  | 0, i, a, hi, i0 => by rw [wmS]; omega
  | r + 1, i, a, hi, i0 => by
    obtain ⟨-, -, v⟩ := hW.2.2.2.2.2.1.2 i i0 (by omega)
    have h := wmS_r hW (d := d) r (i + 1) (a + if w (240 + 3 * i) = d ∧ w (4 + w (239 + 3 * i)) = 0 then w (241 + 3 * i) else 0) (by omega) (by omega)
    rw [wmS]
    by_cases c : w (240 + 3 * i) = d ∧ w (4 + w (239 + 3 * i)) = 0
    · rw [if_pos c] at h ⊢
      omega
    · rw [if_neg c] at h ⊢
      omega
theorem want_c {m : Int} {w : Int → Int} {σ : Sg} {b : Nat} (hC : CW m w σ b) {i : Int} (i0 : 0 ≤ i) (i1 : i < w 89) : rd σ (b + 21) 2 = w 89 ∧ fX6_cell (b + 21) 48 i 0 σ = some (w (239 + 3 * i)) ∧ fX6_cell (b + 21) 48 i 1 σ = some (w (240 + 3 * i)) ∧ fX6_cell (b + 21) 48 i 2 σ = some (w (241 + 3 * i)) ∧ fX9_isBare b (w (239 + 3 * i)) σ = some (if w (4 + w (239 + 3 * i)) = 0 then 1 else 0) := by
  have e2 : rd σ (b + 21) 2 = w 89 := hC.2.2.2.2.1.2.2.1.2.1
  have hb := hC.1.2.2.2.2.2.1.1
  obtain ⟨v1, v2, v3⟩ := hC.1.2.2.2.2.2.1.2 i i0 i1
  obtain ⟨t1, t2, t3⟩ := hC.2.2.2.2.1.2.2.1.2.2 i i0 i1
  have fb := isF_b v1
  have es : rd σ (b + 1) (w (239 + 3 * i)) = w (4 + w (239 + 3 * i)) := hC.2.2.1.1 _ v1
  refine ⟨e2, ?_, ?_, ?_, ?_⟩
  · rw [cell_c e2 (by omega) (by omega) (by omega) (by omega), Int.add_zero]
    exact congrArg some t1
  · rw [cell_c e2 (by omega) (by omega) (by omega) (by omega)]
    exact congrArg some t2
  · rw [cell_c e2 (by omega) (by omega) (by omega) (by omega)]
    exact congrArg some t3
  · unfold fX9_isBare
    rw [hasField_c hC, if_pos v1, if_neg n10, grd_pos fb, es]
    split <;> rfl
theorem unmet_c {m : Int} {w : Int → Int} {σ : Sg} {b : Nat} (hC : CW m w σ b) (d : Int) : fX9_unmetWant b d σ = some (unS w d (w 89).toNat 0) := by
  have hb := hC.1.2.2.2.2.2.1.1
  have e2 : rd σ (b + 21) 2 = w 89 := hC.2.2.2.2.1.2.2.1.2.1
  have go : ∀ (r n : Nat) (i : Int), i + r = w 89 → 0 ≤ i → r < n → fX9_unmetWant_L2 b σ d n i = some (unS w d r i) := by
    intro r
    induction r with
    | zero =>
      intro n i hi i0 hn
      cases n with
      | zero => omega
      | succ n =>
        rw [fX9_unmetWant_L2, e2, if_neg (by omega)]
        rfl
    | succ r ih =>
      intro n i hi i0 hn
      cases n with
      | zero => omega
      | succ n =>
        obtain ⟨-, c0, c1, c2, cb⟩ := want_c hC i0 (by omega)
        rw [fX9_unmetWant_L2, e2, if_pos (by omega), c1, Option.bind_some, unS, bw_id (z := i + 1) (by omega) (by omega), ih n (i + 1) (by omega) (by omega) (by omega)]
        by_cases z : w (240 + 3 * i) = d
        · rw [if_pos z, c0, Option.bind_some, cb, Option.bind_some]
          by_cases y : w (4 + w (239 + 3 * i)) = 0
          · rw [if_pos y, if_neg n10, if_neg (fun q => q.2 y)]
          · rw [if_neg y, if_pos p00, if_pos ⟨z, y⟩]
        · rw [if_neg z, if_neg (fun q => z q.1)]
  unfold fX9_unmetWant
  exact go _ FU 0 (by omega) (by omega) (by unfold FU; omega)
theorem worth_c {m : Int} {w : Int → Int} {σ : Sg} {b : Nat} (hC : CW m w σ b) (d : Int) : fX9_worthMet b d σ = some (wmS w d (w 89).toNat 0 0) := by
  have hb := hC.1.2.2.2.2.2.1.1
  have e2 : rd σ (b + 21) 2 = w 89 := hC.2.2.2.2.1.2.2.1.2.1
  have go : ∀ (r n : Nat) (i a : Int), i + r = w 89 → 0 ≤ i → r < n → 0 ≤ a → a ≤ 99 * i → fX9_worthMet_L4 b σ d n a i = some (wmS w d r i a) := by
    intro r
    induction r with
    | zero =>
      intro n i a hi i0 hn a0 a1
      cases n with
      | zero => omega
      | succ n =>
        rw [fX9_worthMet_L4, e2, if_neg (by omega)]
        rfl
    | succ r ih =>
      intro n i a hi i0 hn a0 a1
      obtain ⟨-, -, v⟩ := hC.1.2.2.2.2.2.1.2 i i0 (by omega)
      cases n with
      | zero => omega
      | succ n =>
        obtain ⟨-, c0, c1, c2, cb⟩ := want_c hC i0 (by omega)
        rw [fX9_worthMet_L4, e2, if_pos (by omega), c1, Option.bind_some, wmS, bw_id (z := i + 1) (by omega) (by omega)]
        by_cases z : w (240 + 3 * i) = d
        · rw [if_pos z, c0, Option.bind_some, cb, Option.bind_some]
          by_cases y : w (4 + w (239 + 3 * i)) = 0
          · rw [if_pos y, if_neg n10, c2, Option.bind_some, if_pos ⟨z, y⟩, bw_id (z := a + w (241 + 3 * i)) (by omega) (by omega)]
            exact ih n (i + 1) _ (by omega) (by omega) (by omega) (by omega) (by omega)
          · rw [if_neg y, if_pos p00, if_neg (fun q => y q.2), Int.add_zero]
            exact ih n (i + 1) _ (by omega) (by omega) (by omega) (by omega) (by omega)
        · rw [if_neg z, if_neg (fun q => z q.1), Int.add_zero]
          exact ih n (i + 1) _ (by omega) (by omega) (by omega) (by omega) (by omega)
  unfold fX9_worthMet
  exact go _ FU 0 0 (by omega) (by omega) (by unfold FU; omega) (by omega) (by omega)
theorem wants_m {w : Int → Int} {σ : Sg} (hW : Wf w) (hw : rd σ 85 = w) {k : Int → Int → Sg → Option (Int × Sg)} {x1 x2 d : Int} : ∀ (r n : Nat) (i a f : Int), i + r = w 89 → 0 ≤ i → r < n → 0 ≤ a → a ≤ 1000000000 + 99 * i → fX11_meetsWants_L46 k x1 x2 d n a f i σ = k (wmS w d r i a) (if f = -1 then unS w d r i else f) σ
  | 0, n, i, a, f, hi, i0, hn, a0, a1 => by
    cases n with
    | zero => omega
    | succ n =>
      rw [fX11_meetsWants_L46, hw, if_neg (by omega), wmS, unS]
      by_cases z : f = -1
      · rw [if_pos z, z]
      · rw [if_neg z]
  | r + 1, n, i, a, f, hi, i0, hn, a0, a1 => by
    have hb := hW.2.2.2.2.2.1.1
    obtain ⟨v1, v2, v3⟩ := hW.2.2.2.2.2.1.2 i i0 (by omega)
    have fb := isF_b v1
    cases n with
    | zero => omega
    | succ n =>
      rw [fX11_meetsWants_L46, hw, if_pos (by omega), bw_id (z := 3 * i) (by omega) (by omega), bw_id (z := 239 + 3 * i) (by omega) (by omega), bw_id (z := 239 + 3 * i + 1) (by omega) (by omega), show 239 + 3 * i + 1 = 240 + 3 * i by omega, grd_pos (by omega), bw_id (z := 4 + w (239 + 3 * i)) (by omega) (by omega)]
      by_cases z : w (240 + 3 * i) = d
      · rw [if_pos z, grd_pos (by omega), grd_pos (by omega)]
        by_cases y : w (4 + w (239 + 3 * i)) = 0
        · have hm : wmS w d (r + 1) i a = wmS w d r (i + 1) (a + w (241 + 3 * i)) := by rw [wmS, if_pos ⟨z, y⟩]
          have hu : unS w d (r + 1) i = unS w d r (i + 1) := by rw [unS, if_neg (fun q => q.2 y)]
          rw [if_pos y, hm, hu]
          unfold fX11_meetsWants_J107
          rw [if_neg n10, bw_id (z := 239 + 3 * i + 2) (by omega) (by omega), show 239 + 3 * i + 2 = 241 + 3 * i by omega, grd_pos (by omega)]
          unfold fX11_meetsWants_J128
          rw [if_neg n10, hw, bw_id (z := a + w (241 + 3 * i)) (by omega) (by omega), bw_id (z := i + 1) (by omega) (by omega)]
          exact wants_m hW hw r n (i + 1) _ f (by omega) (by omega) (by omega) (by omega) (by omega)
        · have hm : wmS w d (r + 1) i a = wmS w d r (i + 1) (a + 0) := by rw [wmS, if_neg (fun q => y q.2)]
          have hu : unS w d (r + 1) i = i := by rw [unS, if_pos ⟨z, y⟩]
          rw [if_neg y, hm, hu]
          unfold fX11_meetsWants_J107
          rw [if_pos p00]
          unfold fX11_meetsWants_J128
          rw [if_pos p00, bw_id (z := a + 0) (by omega) (by omega), bw_id (z := i + 1) (by omega) (by omega)]
          by_cases q : f = -1
          · rw [if_pos q, if_pos q, wants_m hW hw r n (i + 1) _ i (by omega) (by omega) (by omega) (by omega) (by omega), if_neg (show ¬ i = -1 by omega)]
          · rw [if_neg q, if_neg q, wants_m hW hw r n (i + 1) _ f (by omega) (by omega) (by omega) (by omega) (by omega), if_neg q]
      · have hm : wmS w d (r + 1) i a = wmS w d r (i + 1) a := by rw [wmS, if_neg (fun q => z q.1), Int.add_zero]
        have hu : unS w d (r + 1) i = unS w d r (i + 1) := by rw [unS, if_neg (fun q => z q.1)]
        rw [if_neg z, hm, hu, bw_id (z := i + 1) (by omega) (by omega)]
        exact wants_m hW hw r n (i + 1) a f (by omega) (by omega) (by omega) a0 (by omega)
