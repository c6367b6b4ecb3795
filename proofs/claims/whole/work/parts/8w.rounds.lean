/-! rounds: the first way to give days -/
def opS (fl G : Int → Int) (k d : Int) : Nat → Bool
  | 0 => true
  | n + 1 => opS fl G k d n && !(decide (G n = d) && decide (apW (fl k) (fl n) ≤ 2))
theorem opS_no {fl G : Int → Int} {k d : Int} {j : Nat} (h : opS fl G k d j = false) : ∀ r : Nat, opS fl G k d (j + r) = false
  | 0 => h
  | r + 1 => by
    rw [show j + (r + 1) = (j + r) + 1 by omega, opS, opS_no h r]
    rfl
theorem opS_congr {fl G H : Int → Int} {k d : Int} : ∀ n : Nat, (∀ j : Int, 0 ≤ j → j < n → H j = G j) → opS fl H k d n = opS fl G k d n
  | 0, _ => rfl
  | n + 1, h => by rw [opS, opS, opS_congr n (fun j a b => h j a (by omega)), h n (by omega) (by omega)]
def fitI (fl : Int → Int) (D : Nat) : Nat → Nat → (Int → Int) → Option (Int → Int)
  | 0, _, G => some G
  | r + 1, k, G => (upL D 0).findSome? (fun d => if opS fl G k d k = true then fitI fl D r (k + 1) (upz G k d) else none)
theorem fitI_ext {fl : Int → Int} {D : Nat} : ∀ (r k : Nat) (G G' : Int → Int), fitI fl D r k G = some G' → ∀ j : Int, j < k → G' j = G j
  | 0, _, G, G', h, j, _ => by rw [fitI] at h; rw [Option.some.inj h]
  | r + 1, k, G, G', h, j, hj => by
    rw [fitI] at h
    obtain ⟨d, hd, h⟩ := List.exists_of_findSome?_eq_some h
    by_cases c : opS fl G k d k = true
    · rw [if_pos c] at h
      rw [fitI_ext r (k + 1) _ G' h j (by omega), upz_n (by omega)]
    · rw [if_neg c] at h
      exact absurd h (by simp)
theorem fitI_some {fl : Int → Int} {D : Nat} : ∀ (r k : Nat) (G : Int → Int), k + r ≤ D → (∀ j : Int, 0 ≤ j → j < k → G j = j) → (fitI fl D r k G).isSome = true
  | 0, _, _, _, _ => rfl
  | r + 1, k, G, hD, hG => by
    rw [fitI]
    have ho : ∀ n : Nat, n ≤ k → opS fl G k k n = true := by
      intro n
      induction n with
      | zero => intro _; rfl
      | succ n ih =>
        intro hn
        rw [opS, ih (by omega), hG n (by omega) (by omega), decide_eq_false (show ¬ (n : Int) = (k : Int) by omega)]
        rfl
    have hi := fitI_some (fl := fl) (D := D) r (k + 1) (upz G k k) (by omega) (fun j j0 j1 => by
      by_cases e : j = (k : Int)
      · rw [e, upz_s]
      · rw [upz_n e]; exact hG j j0 (by omega))
    rw [List.findSome?_isSome_iff]
    exact ⟨(k : Int), (upL_mem D 0 _).mpr ⟨by omega, by omega⟩, by rw [if_pos (ho k (Nat.le_refl _))]; exact hi⟩
def dyS (fl : Int → Int) (c : Nat) : Nat → Nat → Nat
  | 0, D => D
  | r + 1, D => if (fitI fl D c 0 (fun _ => 0)).isSome = true then D else dyS fl c r (D + 1)
theorem dyS_some {fl : Int → Int} {c : Nat} : ∀ (r D : Nat), D + r = c → (fitI fl (dyS fl c r D) c 0 (fun _ => 0)).isSome = true
  | 0, D, h => by
    rw [dyS]
    exact fitI_some c 0 _ (by omega) (fun j j0 j1 => by omega)
  | r + 1, D, h => by
    rw [dyS]
    by_cases e : (fitI fl D c 0 (fun _ => 0)).isSome = true
    · rw [if_pos e]; exact e
    · rw [if_neg e]; exact dyS_some r (D + 1) (by omega)
theorem dyS_le {fl : Int → Int} {c : Nat} : ∀ (r D : Nat), D + r = c → dyS fl c r D ≤ c
  | 0, D, h => by rw [dyS]; omega
  | r + 1, D, h => by
    rw [dyS]
    split
    · omega
    · exact dyS_le r (D + 1) (by omega)
theorem open_c {fl : Int → Int} {σ : Sg} {G : Int → Int} {c k : Nat} {d : Int} (hc : c ≤ 16) (hk : k < c) (hfl : ∀ j : Int, 0 ≤ j → j < c → rd σ 82 j = fl j ∧ 0 ≤ fl j ∧ fl j < 64) (hG : ∀ j : Int, 0 ≤ j → j < k → rd σ 83 j = G j) : fX5_isOpen (k : Int) d σ = some (if opS fl G k d k = true then 1 else 0) := by
  have go : ∀ (r n j : Nat), j + r = k → r < n → opS fl G k d j = true → fX5_isOpen_L2 σ (k : Int) d n (j : Int) = some (if opS fl G k d k = true then 1 else 0) := by
    intro r
    induction r with
    | zero =>
      intro n j hj hn ho
      cases n with
      | zero => omega
      | succ n =>
        rw [fX5_isOpen_L2, if_neg (by omega), show k = j by omega, if_pos (by rw [show k = j by omega] at ho; exact ho)]
    | succ r ih =>
      intro n j hj hn ho
      cases n with
      | zero => omega
      | succ n =>
        have ih2 := ih n (j + 1) (by omega) (by omega)
        rw [show ((j + 1 : Nat) : Int) = (j : Int) + 1 by omega, opS, ho] at ih2
        obtain ⟨f1, f2, f3⟩ := hfl (k : Int) (by omega) (by omega)
        obtain ⟨g1, g2, g3⟩ := hfl (j : Int) (by omega) (by omega)
        rw [fX5_isOpen_L2, if_pos (by omega), grd_pos (by omega), hG j (by omega) (by omega), grd_pos (by omega), grd_pos (by omega), f1, g1, steps_eq (by omega) (by omega), bw_id (z := (j : Int) + 1) (by omega) (by omega)]
        by_cases c1 : G (j : Int) = d
        · rw [if_pos c1]
          by_cases c2 : apW (fl k) (fl j) ≤ 2
          · have hno : opS fl G k d (j + 1) = false := by
              rw [opS, decide_eq_true c1, decide_eq_true c2]
              simp
            have := opS_no hno r
            rw [show j + 1 + r = k by omega] at this
            rw [if_neg (by omega), this]
            rfl
          · rw [if_pos (by omega)]
            exact ih2 (by rw [decide_eq_false c2]; simp)
        · rw [if_neg c1]
          exact ih2 (by rw [decide_eq_false c1]; simp)
  unfold fX5_isOpen
  exact go k FU 0 (by omega) (by unfold FU; omega) rfl
theorem fits_c {fl : Int → Int} {c D : Nat} (hc : c ≤ 16) (hD : D ≤ 16) : ∀ (r n k : Nat) (G : Int → Int) (σ : Sg), k + r = c → r < n → rd σ 80 3 = (c : Int) → rd σ 80 4 = (D : Int) → (∀ j : Int, 0 ≤ j → j < c → rd σ 82 j = fl j ∧ 0 ≤ fl j ∧ fl j < 64) → (∀ j : Int, 0 ≤ j → j < k → rd σ 83 j = G j) → wp (rg_X5_fits n (k : Int) σ) (fun q => Fr [83] σ q.2 ∧ (∀ j : Int, 0 ≤ j → j < k → rd q.2 83 j = rd σ 83 j) ∧ q.1 = (if (fitI fl D r k G).isSome = true then 1 else 0) ∧ ∀ G', fitI fl D r k G = some G' → ∀ j : Int, 0 ≤ j → j < c → rd q.2 83 j = G' j)
  | 0, n, k, G, σ, hk, hn, h3, h4, hfl, hG => by
    cases n with
    | zero => omega
    | succ n =>
      show wp (gX5_fits (rg_X5_fits n) (k : Int) σ) _
      unfold gX5_fits
      rw [h3, if_neg (by omega), wp_some]
      exact ⟨Fr.rf, fun _ _ _ => rfl, rfl, fun G' h j j0 j1 => by rw [fitI] at h; rw [← Option.some.inj h]; exact hG j j0 (by omega)⟩
  | r + 1, n, k, G, σ, hk, hn, h3, h4, hfl, hG => by
    cases n with
    | zero => omega
    | succ n =>
      have go : ∀ (rd' m d : Nat) (ρ : Sg), d + rd' = D → rd' < m → Fr [83] σ ρ → (∀ j : Int, 0 ≤ j → j < k → rd ρ 83 j = rd σ 83 j) → wp (fX5_fits_L12 (rg_X5_fits n) (k : Int) m (d : Int) ρ) (fun q => Fr [83] σ q.2 ∧ (∀ j : Int, 0 ≤ j → j < k → rd q.2 83 j = rd σ 83 j) ∧ q.1 = (if ((upL rd' (d : Int)).findSome? (fun d => if opS fl G k d k = true then fitI fl D r (k + 1) (upz G k d) else none)).isSome = true then 1 else 0) ∧ ∀ G', (upL rd' (d : Int)).findSome? (fun d => if opS fl G k d k = true then fitI fl D r (k + 1) (upz G k d) else none) = some G' → ∀ j : Int, 0 ≤ j → j < c → rd q.2 83 j = G' j) := by
        intro rd'
        induction rd' with
        | zero =>
          intro m d ρ hd hm hF hP
          cases m with
          | zero => omega
          | succ m =>
            rw [fX5_fits_L12, hF 80 4 (by decide), h4, if_neg (by omega), wp_some]
            exact ⟨hF, hP, rfl, fun G' h => by rw [upL] at h; exact absurd h (by simp)⟩
        | succ rd' ih =>
          intro m d ρ hd hm hF hP
          cases m with
          | zero => omega
          | succ m =>
            have ih2 := ih m (d + 1)
            rw [show ((d + 1 : Nat) : Int) = (d : Int) + 1 by omega] at ih2
            rw [fX5_fits_L12, hF 80 4 (by decide), h4, if_pos (by omega), open_c (fl := fl) (G := G) hc (by omega) (fun j a b => by rw [hF 82 j (by decide)]; exact hfl j a b) (fun j a b => (hP j a b).trans (hG j a b)), Option.bind_some, bw_id (z := (d : Int) + 1) (by omega) (by omega)]
            rw [upL, List.findSome?_cons]
            by_cases c1 : opS fl G k (d : Int) k = true
            · have i3 := fits_c hc hD r n (k + 1) (upz G k d) (wr ρ 83 k d) (by omega) (by omega) (by rw [rq_c (by decide), hF 80 3 (by decide)]; exact h3) (by rw [rq_c (by decide), hF 80 4 (by decide)]; exact h4) (fun j a b => by rw [rq_c (by decide), hF 82 j (by decide)]; exact hfl j a b) (fun j a b => by
                rw [wr_row, bw_id (z := (d : Int)) (by omega) (by omega)]
                show upz _ _ _ j = upz _ _ _ j
                by_cases e : j = (k : Int)
                · rw [e, upz_s, upz_s]
                · rw [upz_n e, upz_n e]
                  exact (hP j a (by omega)).trans (hG j a (by omega)))
              rw [show ((k + 1 : Nat) : Int) = (k : Int) + 1 by omega] at i3
              rw [if_pos c1, if_neg n10, grd_pos (by omega), bw_id (z := (k : Int) + 1) (by omega) (by omega), wp_bind, if_pos c1]
              refine wp_mono i3 (fun q hq => ?_)
              obtain ⟨q1, q2, q3, q4⟩ := hq
              have f2 : Fr [83] σ q.2 := fun c j hcj => (q1 c j hcj).trans (((hF.wr (by decide) : Fr [83] σ (wr ρ 83 k d))) c j hcj)
              have p2 : ∀ j : Int, 0 ≤ j → j < k → rd q.2 83 j = rd σ 83 j := fun j a b => by
                rw [q2 j a (by omega), rq_i (by omega)]
                exact hP j a b
              cases e : fitI fl D r (k + 1) (upz G k (d : Int)) with
              | none =>
                rw [e] at q3
                rw [q3]
                show wp (if (if (none : Option (Int → Int)).isSome = true then (1 : Int) else 0) = 0 then _ else _) _
                rw [if_neg (show ¬ (none : Option (Int → Int)).isSome = true by decide), if_pos p00]
                exact ih2 q.2 (by omega) (by omega) f2 p2
              | some G2 =>
                rw [e] at q3
                rw [q3]
                show wp (if (if (some G2 : Option (Int → Int)).isSome = true then (1 : Int) else 0) = 0 then _ else _) _
                rw [if_pos (show (some G2 : Option (Int → Int)).isSome = true from rfl), if_neg n10, wp_some]
                exact ⟨f2, p2, rfl, fun G' h => by rw [← Option.some.inj h]; exact q4 G2 e⟩
            · rw [if_neg c1, if_pos p00, if_neg c1]
              exact ih2 ρ (by omega) (by omega) hF hP
      show wp (gX5_fits (rg_X5_fits n) (k : Int) σ) _
      unfold gX5_fits
      rw [h3, if_pos (by omega), fitI]
      exact go D FU 0 σ (by omega) (by unfold FU; omega) Fr.rf (fun _ _ _ => rfl)
