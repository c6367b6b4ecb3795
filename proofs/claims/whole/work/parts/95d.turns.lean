/-! stable: the turns of the class -/
def Tm (w : Int → Int) (A : Int → Nat) (H : Int → Int) (a : Int) : Prop := H a ≠ -1 ∨ ∀ b, Rp w b → 0 < matchW w a b → (A a).testBit b.toNat = true
theorem sweepS_c {w : Int → Int} {σ0 : Sg} {A0 : Int → Nat} {x3 : Int} {k118 : Int → Int → Sg → Option Sg} {Q : Sg → Prop} (h12 : 0 ≤ w 85 ∧ w 85 ≤ 12) (hx3 : 0 ≤ x3 ∧ x3 ≤ 200) (hG : GA w σ0) (hF2 : ∀ a b, Lp w a → Rp w b → F2 w σ0 a b) (hk : ∀ τ A H fl, Fr [66, 67] σ0 τ → MC w τ A H → Good w A H → (fl = 0 ∧ Term w A H) ∨ (fl = 1 ∧ bitsA A0 + 1 ≤ bitsA A) → wp (k118 fl (x3 + 1) τ) Q) : ∀ (r n i : Nat) (fl : Int) (ρ : Sg) (A : Int → Nat) (H : Int → Int), i + r = (lfL w).length → r < n → Fr [66, 67] σ0 ρ → MC w ρ A H → Good w A H → (fl = 0 ∧ ∀ i' : Nat, i' < i → Tm w A H ((lfL w).getD i' 0)) ∨ (fl = 1 ∧ bitsA A0 + 1 ≤ bitsA A) → (fl = 0 → bitsA A0 ≤ bitsA A) → wp (fX0_settle_L134 1 k118 x3 n fl (i : Int) ρ) Q
  | 0, n, i, fl, ρ, A, H, hi, hn, hF, hM, hD, hI, hb => by
    cases n with
    | zero => omega
    | succ n =>
      rw [fX0_settle_L134, hF 65 5 (by decide), hG.1, if_neg (by omega), bw_id (z := x3 + 1) (by omega) (by omega)]
      refine hk ρ A H fl hF hM hD ?_
      rcases hI with ⟨e1, e2⟩ | e
      · refine Or.inl ⟨e1, fun a ha => ?_⟩
        obtain ⟨i', x1, x2⟩ := lf_idx h12 ha
        rw [← x2]
        exact e2 i' (by omega)
      · exact Or.inr e
  | r + 1, n, i, fl, ρ, A, H, hi, hn, hF, hM, hD, hI, hb => by
    have l0 := lr_len h12
    obtain ⟨p1, p2, p3⟩ := lf_mem h12 (show i < (lfL w).length by omega)
    have a0 := p1.1
    have a1 := p1.2
    have bfl : bor fl 0 = fl ∧ bor fl 1 = 1 := by
      rcases hI with ⟨e1, -⟩ | ⟨e1, -⟩ <;> rw [e1] <;> exact ⟨by decide, by decide⟩
    have hG2 : GA w ρ := GA_fr hG hF (by decide) (by decide) (by decide)
    have hF3 : ∀ a b, Lp w a → Rp w b → F2 w ρ a b := fun a b x y => ⟨(hF 68 _ (by decide)).trans (hF2 a b x y).1, (hF 68 _ (by decide)).trans (hF2 a b x y).2⟩
    cases n with
    | zero => omega
    | succ n =>
      have stay : Tm w A H ((lfL w).getD i 0) → wp (fX0_settle_L134 1 k118 x3 n fl ((i + 1 : Nat) : Int) ρ) Q := by
        intro ht
        refine sweepS_c h12 hx3 hG hF2 hk r n (i + 1) fl ρ A H (by omega) (by omega) hF hM hD ?_ hb
        rcases hI with ⟨e1, e2⟩ | e
        · refine Or.inl ⟨e1, fun i' hi' => ?_⟩
          by_cases e : i' = i
          · rw [e]; exact ht
          · exact e2 i' (by omega)
        · exact Or.inr e
      rw [fX0_settle_L134, hF 65 5 (by decide), hG.1, if_pos (by omega), grd_pos (by omega), hG2.2.2.1 i (by omega), grd_pos (by omega), (hM.1 _ p1).1, bw_id (z := (i : Int) + 1) (by omega) (by omega), show (i : Int) + 1 = ((i + 1 : Nat) : Int) by omega]
      by_cases c : H ((lfL w).getD i 0) = -1
      · rw [if_pos c, grd_pos (by omega), wp_bind]
        refine wp_mono (asks_c h12 hG2 hF3 hM hD ⟨p1, p2, p3⟩ c) (fun q hq => ?_)
        rcases hq with ⟨q1, q2, q3⟩ | ⟨q1, q2, A2, H2, q3, q4, q5⟩
        · rw [q1, if_pos p00, q2, bfl.1]
          exact stay (Or.inr q3)
        · rw [q1, if_neg n10, bfl.2]
          have hle : bitsA A0 ≤ bitsA A := by
            rcases hI with ⟨e1, -⟩ | ⟨-, e2⟩
            · exact hb e1
            · omega
          exact sweepS_c h12 hx3 hG hF2 hk r n (i + 1) 1 q.2 A2 H2 (by omega) (by omega) (hF.tr q2) q3 q4 (Or.inr ⟨rfl, by omega⟩) (fun z => absurd z (by decide))
      · rw [if_neg c, bfl.1]
        exact stay (Or.inl c)
theorem turns_c {w : Int → Int} {σ0 : Sg} (h12 : 0 ≤ w 85 ∧ w 85 ≤ 12) (hG : GA w σ0) (hF2 : ∀ a b, Lp w a → Rp w b → F2 w σ0 a b) : ∀ (r n : Nat) (x3 : Int) (ρ : Sg) (A : Int → Nat) (H : Int → Int), x3 + r = 145 → 0 ≤ x3 → r + 1 < n → x3 ≤ bitsA A → Fr [66, 67] σ0 ρ → MC w ρ A H → Good w A H → wp (fX0_settle_L118 1 n 1 x3 ρ) (fun τ => Fr [66, 67] σ0 τ ∧ ∃ A2 H2, MC w τ A2 H2 ∧ Good w A2 H2 ∧ Term w A2 H2)
  | 0, n, x3, ρ, A, H, h3, h0, hn, hb, hF, hM, hD => by
    have := bitsA_r A
    omega
  | r + 1, n, x3, ρ, A, H, h3, h0, hn, hb, hF, hM, hD => by
    have hG2 : GA w ρ := GA_fr hG hF (by decide) (by decide) (by decide)
    have hF3 : ∀ a b, Lp w a → Rp w b → F2 w ρ a b := fun a b x y => ⟨(hF 68 _ (by decide)).trans (hF2 a b x y).1, (hF 68 _ (by decide)).trans (hF2 a b x y).2⟩
    have l0 := lr_len h12
    cases n with
    | zero => omega
    | succ n =>
      rw [fX0_settle_L118, if_neg (by omega), if_neg n10, show (0 : Int) = ((0 : Nat) : Int) from rfl]
      refine sweepS_c (A0 := A) h12 (by omega) hG2 hF3 (fun τ A2 H2 fl hτ hM2 hD2 hI => ?_) (lfL w).length FU 0 ((0 : Nat) : Int) ρ A H (by omega) (by unfold FU; omega) Fr.rf hM hD (Or.inl ⟨rfl, fun i' hi' => by omega⟩) (fun _ => Int.le_refl _)
      rcases hI with ⟨e1, e2⟩ | ⟨e1, e2⟩
      · cases n with
        | zero => omega
        | succ n =>
          have done : wp (some τ) (fun τ => Fr [66, 67] σ0 τ ∧ ∃ A2 H2, MC w τ A2 H2 ∧ Good w A2 H2 ∧ Term w A2 H2) := by
            rw [wp_some]
            exact ⟨hF.tr hτ, A2, H2, hM2, hD2, e2⟩
          rw [fX0_settle_L118, e1, if_pos p00]
          split
          · exact done
          · exact done
      · rw [e1]
        exact turns_c h12 hG hF2 r n (x3 + 1) τ A2 H2 (by omega) (by omega) (by omega) (by omega) (hF.tr hτ) hM2 hD2
theorem StI_0 {w : Int → Int} : StI w (fun _ => 0) (fun _ => -1) :=
  ⟨fun _ _ => Or.inl rfl, fun _ _ => Or.inl rfl, fun _ _ _ _ h => absurd h (by simp), fun _ _ h => absurd rfl h, fun _ _ _ _ _ _ h => absurd h (by simp)⟩
theorem Good_0 {w : Int → Int} : Good w (fun _ => 0) (fun _ => -1) := ⟨StI_0, fun _ _ _ _ _ _ _ _ h => absurd h (by simp)⟩
theorem settle_c {w : Int → Int} {σ : Sg} (hC : CW 150 w σ 1) : wp (fX0_settle 1 σ) (fun τ => Fr [16, 17, 65, 66, 67, 68, 69, 70] σ τ ∧ ∃ A H, MC w τ A H ∧ Good w A H ∧ Term w A H) := by
  have h12 := hC.1.1.2.2.2.2.2.1
  have l0 := lr_len h12
  unfold fX0_settle
  rw [wp_bind]
  refine wp_mono (gather_c hC) (fun s hs => ?_)
  obtain ⟨g1, g5, g6, g69, g70, g66⟩ := hs
  have hC1 : CW 150 w s 1 := hC.fr g1 (by decide)
  have hG : GA w s := ⟨g5, g6, g69, g70⟩
  refine fit2_c hC1 hG (fun τ hτ hF2 => ?_) (lfL w).length FU 0 s (by omega) (by unfold FU; omega) Fr.rf (fun i' j' a b c => by omega)
  have hG2 : GA w τ := GA_fr hG hτ (by decide) (by decide) (by decide)
  have hM : MC w τ (fun _ => 0) (fun _ => -1) := ⟨fun p hp => by
    rw [hτ 66 _ (by decide), hτ 67 _ (by decide)]
    exact g66 p hp.1 hp.2, fun _ => (by decide : (0 : Nat) < 4096), fun _ _ => rfl⟩
  refine wp_mono (turns_c h12 hG2 hF2 145 FU 0 τ _ _ (by omega) (by omega) (by unfold FU; omega) (bitsA_r _).1 Fr.rf hM Good_0) (fun ρ hρ => ?_)
  exact ⟨((g1.mo (by decide)).tr (hτ.mo (by decide))).tr (hρ.1.mo (by decide)), hρ.2⟩
