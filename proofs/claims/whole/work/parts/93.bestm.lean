/-! best: the model -/
theorem fold_filter {P : Int → Bool} {f : Int → Int → Int} : ∀ (l : List Int) (a : Int), (l.filter P).foldl f a = l.foldl (fun acc b => if P b = true then f acc b else acc) a
  | [], a => rfl
  | b :: t, a => by
    by_cases c : P b = true
    · rw [List.filter_cons_of_pos c, List.foldl_cons, List.foldl_cons, if_pos c]
      exact fold_filter t _
    · rw [List.filter_cons_of_neg c, List.foldl_cons, if_neg c]
      exact fold_filter t _
theorem find_flt {P Q : Int → Bool} : ∀ l : List Int, (l.filter P).find? Q = l.find? (fun b => P b && Q b)
  | [] => rfl
  | b :: t => by
    have ih := find_flt (P := P) (Q := Q) t
    by_cases c : P b = true
    · rw [List.filter_cons_of_pos c, List.find?_cons, List.find?_cons, ih, c, Bool.true_and]
    · rw [List.filter_cons_of_neg c, List.find?_cons, ih, Bool.eq_false_iff.mpr c, Bool.false_and]
abbrev c0B (w : Int → Int) : Int → Bool := fun p => decide (w (68 + p) = -1 ∧ w (91 + p) = 0)
abbrev c1B (w : Int → Int) : Int → Bool := fun p => decide (w (68 + p) = -1 ∧ w (91 + p) = 1)
def lfA (w : Int → Int) (a : Nat) : List Int := (upL (nP w - a) a).filter (c0B w)
theorem lfA_0 {w : Int → Int} : lfA w 0 = lfL w := by
  unfold lfA
  rw [Nat.sub_zero]
  exact (frL_eq (w := w) (s := 0) (nP w)).symm
theorem rg_eq {w : Int → Int} : rgL w = (upL (nP w) 0).filter (c1B w) := frL_eq (nP w)
theorem lfA_end {w : Int → Int} : lfA w (nP w) = [] := by
  unfold lfA
  rw [Nat.sub_self]
  rfl
theorem lfA_yes {w : Int → Int} {a : Nat} (ha : a < nP w) (h : c0B w a = true) : lfA w a = (a : Int) :: lfA w (a + 1) := by
  unfold lfA
  rw [show nP w - a = (nP w - (a + 1)) + 1 by omega, upL, List.filter_cons_of_pos h]
  rfl
theorem lfA_no {w : Int → Int} {a : Nat} (ha : a < nP w) (h : ¬ c0B w a = true) : lfA w a = lfA w (a + 1) := by
  unfold lfA
  rw [show nP w - a = (nP w - (a + 1)) + 1 by omega, upL, List.filter_cons_of_neg h]
  rfl
theorem nP_i {w : Int → Int} (h12 : 0 ≤ w 85 ∧ w 85 ≤ 12) : ((nP w : Nat) : Int) = w 85 ∧ nP w ≤ 12 := by
  show (((w 85).toNat : Nat) : Int) = w 85 ∧ (w 85).toNat ≤ 12
  omega
theorem lfA_len {w : Int → Int} {a : Nat} : (lfA w a).length ≤ nP w := by
  unfold lfA
  have h1 := List.length_filter_le (c0B w) (upL (nP w - a) (a : Int))
  have h2 : ∀ (n : Nat) (i : Int), (upL n i).length = n := by
    intro n
    induction n with
    | zero => intro i; rfl
    | succ n ih => intro i; rw [upL, List.length_cons, ih]
  rw [h2] at h1
  omega
theorem canHave_m {w : Int → Int} {σ : Sg} {a b m : Nat} (hW : Wf w) (hw : rd σ 85 = w) (ha : (a : Int) < w 85) (hb : (b : Int) < w 85) (hm : m < 4096) : fX11_canHave (a : Int) (b : Int) (m : Int) σ = some (if m.testBit b = true ∧ c0B w a = true ∧ c1B w b = true then 1 else 0) := by
  have h12 := hW.1.2.2.2.2.2.1
  unfold fX11_canHave
  rw [kb_bit (by omega) (by omega) (by omega) (by omega), Int.toNat_natCast, Int.toNat_natCast, hw, bw_id (z := 91 + (a : Int)) (by omega) (by omega), bw_id (z := 91 + (b : Int)) (by omega) (by omega), grd_pos (by omega), grd_pos (by omega), isFree_m hw (by omega), isFree_m hw (by omega)]
  by_cases c1 : m.testBit b = true
  · rw [if_pos c1, if_pos rfl]
    by_cases c2 : w (91 + (a : Int)) = 0
    · rw [if_pos c2]
      by_cases c3 : w (91 + (b : Int)) = 1
      · rw [if_pos c3, Option.bind_some]
        by_cases c4 : w (68 + (a : Int)) = -1
        · rw [if_pos c4, if_neg n10, Option.bind_some]
          by_cases c5 : w (68 + (b : Int)) = -1
          · rw [if_pos c5, if_neg n10, if_pos (show m.testBit b = true ∧ c0B w a = true ∧ c1B w b = true from ⟨c1, decide_eq_true ⟨c4, c2⟩, decide_eq_true ⟨c5, c3⟩⟩)]
          · rw [if_neg c5, if_pos p00, if_neg (show ¬ (m.testBit b = true ∧ c0B w a = true ∧ c1B w b = true) from fun z => c5 (of_decide_eq_true z.2.2).1)]
        · rw [if_neg c4, if_pos p00, if_neg (show ¬ (m.testBit b = true ∧ c0B w a = true ∧ c1B w b = true) from fun z => c4 (of_decide_eq_true z.2.1).1)]
      · rw [if_neg c3, if_neg (show ¬ (m.testBit b = true ∧ c0B w a = true ∧ c1B w b = true) from fun z => c3 (of_decide_eq_true z.2.2).2)]
    · rw [if_neg c2, if_neg (show ¬ (m.testBit b = true ∧ c0B w a = true ∧ c1B w b = true) from fun z => c2 (of_decide_eq_true z.2.1).2)]
  · rw [if_neg c1, if_neg (by decide), if_neg (show ¬ (m.testBit b = true ∧ c0B w a = true ∧ c1B w b = true) from fun z => c1 z.1)]
def FB (w : Int → Int) (σ : Sg) : Prop := ∀ a b : Int, isP w a → isP w b → a ≠ b → rd σ 99 (12 * a + b) = foundW w a b
theorem foundIn_m {w : Int → Int} {g : Nat → Int → Int} {σ0 : Sg} {a : Int} {k2 : Int → Sg → Option Sg} {Q : Sg → Prop} (hW : Wf w) (hL : LR w g) (hw : rd σ0 85 = w) (ha : isP w a) (hk : ∀ τ, Fr [93, 94, 99] σ0 τ → (∀ a' b' : Int, isP w a' → isP w b' → a' ≠ b' → a' < a + 1 → rd τ 99 (12 * a' + b') = foundW w a' b') → wp (k2 (a + 1) τ) Q) : ∀ (r n : Nat) (b : Int) (ρ : Sg), b + r = w 85 → 0 ≤ b → r < n → Fr [93, 94, 99] σ0 ρ → (∀ a' b' : Int, isP w a' → isP w b' → a' ≠ b' → a' < a ∨ a' = a ∧ b' < b → rd ρ 99 (12 * a' + b') = foundW w a' b') → wp (fX11_laysFound_L15 k2 a n b ρ) Q
  | 0, n, b, ρ, hb, b0, hn, hF, hB => by
    have h12 := hW.1.2.2.2.2.2.1
    have a0 := ha.1
    have a1 := ha.2
    cases n with
    | zero => omega
    | succ n =>
      rw [fX11_laysFound_L15, hF 85 85 (by decide), hw, if_neg (by omega), bw_id (z := a + 1) (by omega) (by omega)]
      exact hk ρ hF (fun a' b' x y z u => hB a' b' x y z (by have := y.2; omega))
  | r + 1, n, b, ρ, hb, b0, hn, hF, hB => by
    have h12 := hW.1.2.2.2.2.2.1
    have a0 := ha.1
    have a1 := ha.2
    have hpb : isP w b := ⟨b0, by omega⟩
    have hw2 : rd ρ 85 = w := (funext fun j => hF 85 j (by decide)).trans hw
    have st : ∀ (τ : Sg) (v : Int), Fr [93, 94] ρ τ → bw v = v → (a ≠ b → v = foundW w a b) → wp (fX11_laysFound_L15 k2 a (n - 1) (b + 1) (wr τ 99 (12 * a + b) v)) Q := by
      intro τ v hτ hv hv2
      refine foundIn_m hW hL hw ha hk r (n - 1) (b + 1) _ (by omega) (by omega) (by omega) ((hF.tr (hτ.mo (by decide))).wr (by decide)) (fun a' b' x y z u => ?_)
      have x0 := x.1
      have x1 := x.2
      have y0 := y.1
      have y1 := y.2
      by_cases e : 12 * a' + b' = 12 * a + b
      · have ea : a' = a := by omega
        have eb : b' = b := by omega
        rw [ea, eb, rq_s, hv]
        exact hv2 (by rw [← ea, ← eb]; exact z)
      · rw [rq_i e, hτ 99 _ (by decide)]
        refine hB a' b' x y z ?_
        rcases u with u | u
        · exact Or.inl u
        · refine Or.inr ⟨u.1, ?_⟩
          by_cases e2 : b' = b
          · rw [u.1, e2] at e; exact absurd rfl e
          · omega
    cases n with
    | zero => omega
    | succ n =>
      rw [fX11_laysFound_L15, hw2, if_pos (by omega), bw_id (z := 12 * a) (by omega) (by omega), bw_id (z := 12 * a + b) (by omega) (by omega), grd_pos (by omega), bw_id (z := b + 1) (by omega) (by omega)]
      by_cases c : a = b
      · rw [if_pos c]
        exact st ρ 0 Fr.rf rfl (fun z => absurd c z)
      · rw [if_neg c, wp_bind]
        refine wp_mono (foundOf_m hW hL hw2 ha hpb) (fun q hq => ?_)
        have hf := foundW_r w a b
        rw [hq.1, grd_pos (by omega)]
        exact st q.2 _ hq.2 (bw_id (by omega) (by omega)) (fun _ => rfl)
theorem found_m {w : Int → Int} {g : Nat → Int → Int} {σ0 : Sg} (hW : Wf w) (hL : LR w g) (hw : rd σ0 85 = w) : ∀ (r n : Nat) (a : Int) (ρ : Sg), a + r = w 85 → 0 ≤ a → r < n → Fr [93, 94, 99] σ0 ρ → (∀ a' b' : Int, isP w a' → isP w b' → a' ≠ b' → a' < a → rd ρ 99 (12 * a' + b') = foundW w a' b') → wp (fX11_laysFound_L2 n a ρ) (fun τ => Fr [93, 94, 99] σ0 τ ∧ FB w τ)
  | 0, n, a, ρ, ha, a0, hn, hF, hB => by
    cases n with
    | zero => omega
    | succ n =>
      rw [fX11_laysFound_L2, hF 85 85 (by decide), hw, if_neg (by omega), wp_some]
      exact ⟨hF, fun a' b' x y z => hB a' b' x y z (by have := x.2; omega)⟩
  | r + 1, n, a, ρ, ha, a0, hn, hF, hB => by
    have h12 := hW.1.2.2.2.2.2.1
    cases n with
    | zero => omega
    | succ n =>
      rw [fX11_laysFound_L2, hF 85 85 (by decide), hw, if_pos (by omega)]
      exact foundIn_m (σ0 := σ0) hW hL hw ⟨a0, by omega⟩ (fun τ hτ hB2 => found_m hW hL hw r n (a + 1) τ (by omega) (by omega) (by omega) hτ hB2) (w 85).toNat FU 0 ρ (by omega) (by omega) (by unfold FU; omega) hF (fun a' b' x y z u => hB a' b' x y z (by have := y.1; omega))
def TI (w : Int → Int) (a : Nat) (ρ : Sg) : Prop := ∀ a' m : Nat, a ≤ a' → a' ≤ nP w → m < 2 ^ nP w → rd ρ 98 ((4096 * a' + m : Nat) : Int) = Bs w (rgL w) (lfA w a') m
theorem pow_nP {w : Int → Int} (h12 : 0 ≤ w 85 ∧ w 85 ≤ 12) : 2 ^ nP w ≤ 4096 := Nat.pow_le_pow_right (n := 2) (j := 12) (by decide) (nP_i h12).2
theorem cell_m {w : Int → Int} {ρ : Sg} {a m : Nat} {k16 : Int → Sg → Option Sg} {Q : Sg → Prop} (hW : Wf w) (hw : rd ρ 85 = w) (hB : FB w ρ) (hT : TI w (a + 1) ρ) (ha : a < nP w) (hm : m < 2 ^ nP w) (hk : wp (k16 ((m : Int) + 1) (wr ρ 98 ((4096 * a + m : Nat) : Int) (Bs w (rgL w) (lfA w a) m))) Q) : ∀ (r n j : Nat) (acc : Int), j + r = nP w → r < n → (c0B w a = true → (upL r j).foldl (fun acc b => if c1B w b = true then (if m.testBit b.toNat = true then max acc (foundW w a b + Bs w (rgL w) (lfA w (a + 1)) (mdel m b)) else acc) else acc) acc = Bs w (rgL w) (lfA w a) m) → (¬ c0B w a = true → acc = Bs w (rgL w) (lfA w a) m) → wp (fX11_laysBest_L51 k16 ((nP w : Nat) : Int) (a : Int) (m : Int) n acc (j : Int) ρ) Q
  | 0, n, j, acc, hj, hn, h1, h2 => by
    have h12 := hW.1.2.2.2.2.2.1
    have h4 := pow_nP h12
    have hp := nP_i h12
    have e : acc = Bs w (rgL w) (lfA w a) m := by
      by_cases c : c0B w a = true
      · exact h1 c
      · exact h2 c
    cases n with
    | zero => omega
    | succ n =>
      rw [fX11_laysBest_L51, if_neg (by omega), bw_id (z := 4096 * (a : Int)) (by omega) (by omega), bw_id (z := 4096 * (a : Int) + (m : Int)) (by omega) (by omega), grd_pos (by omega), bw_id (z := (m : Int) + 1) (by omega) (by omega), e, show 4096 * (a : Int) + (m : Int) = ((4096 * a + m : Nat) : Int) by omega]
      exact hk
  | r + 1, n, j, acc, hj, hn, h1, h2 => by
    have h12 := hW.1.2.2.2.2.2.1
    have h4 := pow_nP h12
    have hp := nP_i h12
    cases n with
    | zero => omega
    | succ n =>
      have eb : band (m : Int) (bxor (bshl 1 (j : Int)) (-1)) = ((mdel m (j : Int) : Nat) : Int) := by
        rw [bandn_bit (by omega) (by omega) (by omega) (by omega), Int.toNat_natCast]
        rfl
      have hml : mdel m (j : Int) ≤ m := Nat.and_le_left
      rw [fX11_laysBest_L51, if_pos (by omega), if_pos (by omega), canHave_m hW hw (by omega) (by omega) (by omega), Option.bind_some, bw_id (z := (j : Int) + 1) (by omega) (by omega), show (j : Int) + 1 = ((j + 1 : Nat) : Int) by omega]
      by_cases c : m.testBit j = true ∧ c0B w a = true ∧ c1B w j = true
      · have s0 := of_decide_eq_true c.2.1
        have s1 := of_decide_eq_true c.2.2
        have hne : (a : Int) ≠ (j : Int) := fun z => by rw [z] at s0; omega
        have ef := hB (a : Int) (j : Int) ⟨by omega, by omega⟩ ⟨by omega, by omega⟩ hne
        have et := hT (a + 1) (mdel m (j : Int)) (Nat.le_refl _) (by omega) (by omega)
        have hf := foundW_r w (a : Int) (j : Int)
        have hr := Bs_r (w := w) (R := rgL w) (lfA w (a + 1)) (mdel m (j : Int))
        have hl := lfA_len (w := w) (a := a + 1)
        rw [if_pos c, if_neg n10, eb, bw_id (z := 12 * (a : Int)) (by omega) (by omega), bw_id (z := 12 * (a : Int) + (j : Int)) (by omega) (by omega), grd_pos (by omega), bw_id (z := (a : Int) + 1) (by omega) (by omega), bw_id (z := 4096 * ((a : Int) + 1)) (by omega) (by omega), bw_id (z := 4096 * ((a : Int) + 1) + ((mdel m (j : Int) : Nat) : Int)) (by omega) (by omega), grd_pos (by omega), ef, show 4096 * ((a : Int) + 1) + ((mdel m (j : Int) : Nat) : Int) = ((4096 * (a + 1) + mdel m (j : Int) : Nat) : Int) by omega, et, bw_id (z := foundW w (a : Int) (j : Int) + _) (by omega) (by omega), gre_eq]
        refine cell_m hW hw hB hT ha hm hk r n (j + 1) _ (by omega) (by omega) (fun q => ?_) (fun q => absurd c.2.1 q)
        have := h1 q
        rw [upL, List.foldl_cons, if_pos c.2.2, Int.toNat_natCast, if_pos c.1] at this
        exact this
      · rw [if_neg c, if_pos p00]
        refine cell_m hW hw hB hT ha hm hk r n (j + 1) acc (by omega) (by omega) (fun q => ?_) h2
        have := h1 q
        rw [upL, List.foldl_cons, Int.toNat_natCast] at this
        by_cases c1 : c1B w (j : Int) = true
        · rw [if_pos c1, if_neg (fun z => c ⟨z, q, c1⟩)] at this
          exact this
        · rw [if_neg c1] at this
          exact this
