/-! text: the class cuts the tape, the model goes token by token -/
def psT (t : Int → Int) (z : Int) : Nat → Int
  | 0 => 0
  | j + 1 => tE t z (psT t z j)
theorem psT_r {t : Int → Int} {z : Int} (hz : 0 ≤ z) : ∀ j : Nat, 0 ≤ psT t z j ∧ psT t z j ≤ z
  | 0 => ⟨Int.le_refl _, hz⟩
  | j + 1 => by
    obtain ⟨h1, h2⟩ := psT_r (t := t) hz j
    have := tE_r (t := t) h1 h2
    rw [psT]; omega
def TKc (t : Int → Int) (z : Int) (N : Nat) (σ : Sg) : Prop := N ≤ 400 ∧ (∀ j : Nat, j ≤ N → rd σ 61 j = tK t z (psT t z j) ∧ rd σ 63 j = tP t z (psT t z j) ∧ (tK t z (psT t z j) = 1 → rd σ 62 j = tV t z (psT t z j))) ∧ (∀ j : Nat, j < N → tK t z (psT t z j) ≠ 0) ∧ tK t z (psT t z N) = 0
theorem skS_fuel {t : Int → Int} {z : Int} : ∀ (r r2 : Nat) (i : Int), z - i ≤ r → z - i ≤ r2 → skS t z r i = skS t z r2 i
  | 0, 0, i, _, _ => rfl
  | 0, r2 + 1, i, h1, h2 => by
    rw [skS, skS, if_neg]
    rw [sg_no (by omega)]
    omega
  | r + 1, 0, i, h1, h2 => by
    rw [skS, skS, if_neg]
    rw [sg_no (by omega)]
    omega
  | r + 1, r2 + 1, i, h1, h2 => by
    rw [skS, skS]
    split
    · exact skS_fuel r r2 (i + 1) (by omega) (by omega)
    · rfl
theorem vlS_nr {t : Int → Int} {z e : Int} : ∀ (r : Nat) (i v : Int), bw v = v → bw (vlS t z e r i v) = vlS t z e r i v
  | 0, _, _, h => h
  | r + 1, i, v, h => by
    rw [vlS]
    split
    · exact vlS_nr r (i + 1) _ (bw_bw _)
    · exact h
theorem split_c {t : Int → Int} {z : Int} {σ0 : Sg} {k162 : Int → Sg → Option Sg} {Q : Sg → Prop} (hO : TO t z) (hT : TPc t z σ0) (hk : ∀ (N : Nat) τ, Fr [61, 62, 63] σ0 τ → N ≤ 400 → (∀ j : Nat, j < N → rd τ 61 j = tK t z (psT t z j) ∧ rd τ 63 j = tP t z (psT t z j) ∧ (tK t z (psT t z j) = 1 → rd τ 62 j = tV t z (psT t z j))) → (∀ j : Nat, j < N → tK t z (psT t z j) ≠ 0) → tK t z (psT t z N) = 0 → tP t z (psT t z N) = z → wp (k162 N τ) Q) : ∀ (r n N : Nat) (i : Int) (ρ : Sg), z - i ≤ r → 0 ≤ i → i ≤ z → (N : Int) ≤ i → r < n → Fr [61, 62, 63] σ0 ρ → tP t z (psT t z N) = skS t z 400 i → (∀ j : Nat, j < N → rd ρ 61 j = tK t z (psT t z j) ∧ rd ρ 63 j = tP t z (psT t z j) ∧ (tK t z (psT t z j) = 1 → rd ρ 62 j = tV t z (psT t z j))) → (∀ j : Nat, j < N → tK t z (psT t z j) ≠ 0) → wp (fX7_split_L4 k162 n (N : Int) i ρ) Q := by
  intro r
  induction r with
  | zero =>
    intro n N i ρ hr h0 h1 hN hn hF hs hA hne
    have hz := hO.1
    cases n with
    | zero => omega
    | succ n =>
      have ei : i = z := by omega
      have ep : tP t z (psT t z N) = z := by
        rw [hs, ei, skS, if_neg]
        rw [sg_no (by omega)]; omega
      rw [fX7_split_L4, hF 59 4 (by decide), hT.1, if_neg (by omega)]
      exact hk N ρ hF (by omega) hA hne (tK_r.1.mpr (by omega)) ep
  | succ r ih =>
    intro n N i ρ hr h0 h1 hN hn hF hs hA hne
    have hz := hO.1
    have hT2 : TPc t z ρ := ⟨(hF 59 4 (by decide)).trans hT.1, fun i a b => by rw [hF 60 i (by decide)]; exact hT.2 i a b⟩
    cases n with
    | zero => omega
    | succ n =>
      rw [fX7_split_L4, hT2.1]
      by_cases c : i < z
      · have st := sg_at (t := t) h0 c
        have tr := hO.2 i h0 c
        rw [if_pos c, sign_c hO hT2 h0, Option.bind_some, st, bw_id (z := i + 1) (by omega) (by omega)]
        by_cases sp : t i = 32 ∨ t i = 10
        · have nx : wp (fX7_split_L4 k162 n (N : Int) (i + 1) ρ) Q := by
            refine ih n N (i + 1) ρ (by omega) (by omega) (by omega) (by omega) (by omega) hF ?_ hA hne
            rw [hs, skS, st, if_pos sp]
            exact skS_fuel 399 400 (i + 1) (by omega) (by omega)
          by_cases s1 : t i = 32
          · rw [if_pos s1]; exact nx
          · rw [if_neg s1, if_pos (sp.resolve_left s1)]; exact nx
        · have ep : tP t z (psT t z N) = i := by
            rw [hs, skS, st, if_neg sp]
          have hpN := psT_r (t := t) hz.1 N
          have te := tE_r (t := t) hpN.1 hpN.2
          rw [ep] at te
          have e1 : psT t z (N + 1) = tE t z (psT t z N) := rfl
          have hK := tK_r (t := t) (z := z) (p := psT t z N)
          have hKne : tK t z (psT t z N) ≠ 0 := fun q => (hK.1.mp q) (by rw [ep]; exact c)
          have nx : ∀ τ, Fr [61, 62, 63] σ0 τ → (∀ j : Nat, j < N → rd τ 61 j = rd ρ 61 j ∧ rd τ 63 j = rd ρ 63 j ∧ rd τ 62 j = rd ρ 62 j) → rd τ 61 N = tK t z (psT t z N) → rd τ 63 N = i → (tK t z (psT t z N) = 1 → rd τ 62 N = tV t z (psT t z N)) → wp (fX7_split_L4 k162 n ((N : Int) + 1) (tE t z (psT t z N)) τ) Q := by
            intro τ hτ hold k1 k2 k3
            rw [show (N : Int) + 1 = ((N + 1 : Nat) : Int) by omega]
            refine ih n (N + 1) _ τ (by omega) (by omega) (by omega) (by omega) (by omega) hτ (by rw [e1]; rfl) (fun j hj => ?_) (fun j hj => ?_)
            · by_cases e : j = N
              · rw [e, ep]; exact ⟨k1, k2, k3⟩
              · obtain ⟨o1, o2, o3⟩ := hold j (by omega)
                rw [o1, o2, o3]
                exact hA j (by omega)
            · by_cases e : j = N
              · rw [e]; exact hKne
              · exact hne j (by omega)
          rw [if_neg (fun q => sp (Or.inl q)), if_neg (fun q => sp (Or.inr q)), isL_c]
          by_cases cL : isL (t i)
          · have eE : tE t z (psT t z N) = leE t z 400 i := by
              unfold tE; rw [ep, if_pos c, if_pos cL]
            have eK : tK t z (psT t z N) = wdS t z i (tE t z (psT t z N)) 22 0 := by
              unfold tK; rw [ep, if_pos c, if_pos cL]
            unfold fX7_lettersEnd
            rw [if_pos cL, if_neg n10, letEnd_c hO hT2 400 FU i h0 h1 (by omega) (by unfold FU; omega), Option.bind_some, max_eq, ← eE, show max (i + 1) (tE t z (psT t z N)) = tE t z (psT t z N) by have := te.2.2.2.2 c; omega, wordOf_c hO hT2 (show 0 ≤ i ∧ i < tE t z (psT t z N) ∧ tE t z (psT t z N) ≤ z by have := te.2.2.2.2 c; omega), Option.bind_some, ← eK, grd_pos (by omega), grd_pos (by omega), bw_id (z := (N : Int) + 1) (by omega) (by omega)]
            have hw := wdS_r (t := t) (z := z) (s := i) (e := tE t z (psT t z N)) 22 0 (by omega)
            rw [← eK] at hw
            refine nx _ ((hF.wr (by decide)).wr (by decide)) (fun j hj => ⟨?_, ?_, ?_⟩) ?_ ?_ (fun q => ?_)
            · rw [rq_c (by decide), rq_i (by omega)]
            · rw [rq_i (by omega), rq_c (by decide)]
            · rw [rq_c (by decide), rq_c (by decide)]
            · rw [rq_c (by decide), rq_s, bw_id (by omega) (by omega)]
            · rw [rq_s, bw_id (by omega) (by omega)]
            · exfalso
              have hz2 : (2 : Int) ≤ tK t z (psT t z N) := hw.1
              omega
          · rw [if_neg cL, if_pos p00, isD_c]
            by_cases cD : isD (t i)
            · have eE : tE t z (psT t z N) = dgE t z 400 i := by
                unfold tE; rw [ep, if_pos c, if_neg cL, if_pos cD]
              have eK : tK t z (psT t z N) = if tE t z (psT t z N) - i ≤ 4 then 1 else 2 := by
                unfold tK; rw [ep, if_pos c, if_neg cL, if_pos cD]
              have eV : tV t z (psT t z N) = vlS t z (tE t z (psT t z N)) 400 i 0 := by
                unfold tV; rw [ep]
              have key : ∀ kk : Int, kk = tK t z (psT t z N) → 0 ≤ kk → kk ≤ 62 → wp (fX7_split_J108 (fX7_split_L4 k162 n) (N : Int) (tE t z (psT t z N)) i (N : Int) kk ρ) Q := by
                intro kk hkk k0 k1
                unfold fX7_split_J108 fX7_valueOf
                have hT3 : TPc t z (wr ρ 61 N kk) := ⟨(rq_c (by decide)).trans hT2.1, fun i a b => by rw [rq_c (by decide)]; exact hT2.2 i a b⟩
                have hv := vlS_nr (t := t) (z := z) (e := tE t z (psT t z N)) 400 i 0 rfl
                rw [grd_pos (by omega), value_c hO hT3 te.2.2.2.1 400 FU i 0 h0 (by omega) (by unfold FU; omega), Option.bind_some, grd_pos (by omega), grd_pos (by omega), bw_id (z := (N : Int) + 1) (by omega) (by omega), ← eV]
                rw [← eV] at hv
                refine nx _ (((hF.wr (by decide)).wr (by decide)).wr (by decide)) (fun j hj => ⟨?_, ?_, ?_⟩) ?_ ?_ (fun q => ?_)
                · rw [rq_c (by decide), rq_c (by decide), rq_i (by omega)]
                · rw [rq_i (by omega), rq_c (by decide), rq_c (by decide)]
                · rw [rq_c (by decide), rq_i (by omega), rq_c (by decide)]
                · rw [rq_c (by decide), rq_c (by decide), rq_s, bw_id (by omega) (by omega)]; exact hkk
                · rw [rq_s, bw_id (by omega) (by omega)]
                · rw [rq_c (by decide), rq_s]; exact hv
              unfold fX7_digitsEnd
              rw [if_pos cD, if_neg n10, digEnd_c hO hT2 400 FU i h0 h1 (by omega) (by unfold FU; omega), Option.bind_some, max_eq, ← eE, show max (i + 1) (tE t z (psT t z N)) = tE t z (psT t z N) by have := te.2.2.2.2 c; omega, bw_id (z := tE t z (psT t z N) - i) (by omega) (by omega)]
              by_cases c4 : 4 < tE t z (psT t z N) - i
              · rw [if_pos c4]
                exact key 2 (by rw [eK, if_neg (by omega)]) (by omega) (by omega)
              · rw [if_neg c4]
                exact key 1 (by rw [eK, if_pos (by omega)]) (by omega) (by omega)
            · have eE : tE t z (psT t z N) = i + 1 := by
                unfold tE; rw [ep, if_pos c, if_neg cL, if_neg cD]
              have eK : tK t z (psT t z N) = if isS (t i) then t i else 2 := by
                unfold tK; rw [ep, if_pos c, if_neg cL, if_neg cD]
              have six := sIx_c (t i).toNat (by omega)
              rw [show (((t i).toNat : Nat) : Int) = t i by omega] at six
              have key : ∀ kk : Int, kk = tK t z (psT t z N) → 2 ≤ kk → kk ≤ 62 → wp (fX7_split_L4 k162 n ((N : Int) + 1) (i + 1) (wr (wr ρ 61 N kk) 63 N i)) Q := by
                intro kk hkk k0 k1
                rw [eE] at nx
                refine nx _ ((hF.wr (by decide)).wr (by decide)) (fun j hj => ⟨?_, ?_, ?_⟩) ?_ ?_ (fun q => ?_)
                · rw [rq_c (by decide), rq_i (by omega)]
                · rw [rq_i (by omega), rq_c (by decide)]
                · rw [rq_c (by decide), rq_c (by decide)]
                · rw [rq_c (by decide), rq_s, bw_id (by omega) (by omega)]; exact hkk
                · rw [rq_s, bw_id (by omega) (by omega)]
                · omega
              rw [if_neg cD, if_pos p00]
              by_cases cS : isS (t i)
              · have sn : ¬ sIx 1001 (i2c (t i)) < 0 := fun q => (six.mp q) cS
                rw [if_neg sn, grd_pos (by omega), grd_pos (by omega), bw_id (z := (N : Int) + 1) (by omega) (by omega)]
                exact key (t i) (by rw [eK, if_pos cS]) (by omega) (by omega)
              · rw [if_pos (six.mpr cS), grd_pos (by omega), grd_pos (by omega), bw_id (z := (N : Int) + 1) (by omega) (by omega)]
                exact key 2 (by rw [eK, if_neg cS]) (by omega) (by omega)
      · have ei : i = z := by omega
        have ep : tP t z (psT t z N) = z := by
          rw [hs, ei, skS, if_neg]
          rw [sg_no (by omega)]; omega
        rw [if_neg c]
        exact hk N ρ hF (by omega) hA hne (tK_r.1.mpr (by omega)) ep
theorem splitAll_c {t : Int → Int} {z : Int} {σ : Sg} (hO : TO t z) (hT : TPc t z σ) : wp (fX7_split σ) (fun τ => Fr [61, 62, 63] σ τ ∧ ∃ N, TKc t z N τ) := by
  have hz := hO.1
  unfold fX7_split
  refine split_c hO hT (fun N τ hτ hN hA hne h0 hp => ?_) 400 FU 0 0 σ (by omega) (by omega) (by omega) (by omega) (by unfold FU; omega) Fr.rf rfl (fun j hj => by omega) (fun j hj => by omega)
  show wp (grd _ (grd _ _)) _
  rw [grd_pos (by omega), grd_pos (by omega), rq_c (by decide), hτ 59 4 (by decide), hT.1, wp_some]
  refine ⟨(hτ.wr (by decide)).wr (by decide), N, hN, fun j hj => ?_, hne, h0⟩
  by_cases e : j = N
  · rw [e, h0, hp]
    exact ⟨by rw [rq_c (by decide), rq_s]; rfl, by rw [rq_s, bw_id (by omega) (by omega)], fun q => absurd q (by decide)⟩
  · obtain ⟨a1, a2, a3⟩ := hA j (by omega)
    refine ⟨by rw [rq_c (by decide), rq_i (by omega)]; exact a1, by rw [rq_i (by omega), rq_c (by decide)]; exact a2, fun q => ?_⟩
    rw [rq_c (by decide), rq_c (by decide)]
    exact a3 q
