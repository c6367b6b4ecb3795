/-! rounds: lines that count, and the model's search -/
theorem cntN_mono {K : Nat} {a : Nat} : ∀ b : Nat, cntN K a ≤ cntN K (a + b)
  | 0 => Nat.le_refl _
  | b + 1 => by
    have := cntN_mono (K := K) (a := a) b
    rw [show a + (b + 1) = (a + b) + 1 by omega, cntN]
    omega
theorem cntN_lt {K a b : Nat} (h : a < b) (hb : K.testBit a = true) : cntN K a < cntN K b := by
  have h1 := cntN_mono (K := K) (a := a + 1) (b - (a + 1))
  rw [show a + 1 + (b - (a + 1)) = b by omega, cntN, if_pos hb] at h1
  omega
theorem cntN_sur {K : Nat} {k : Nat} : ∀ n : Nat, k < cntN K n → ∃ j, j < n ∧ K.testBit j = true ∧ cntN K j = k
  | 0, h => by rw [cntN] at h; omega
  | n + 1, h => by
    rw [cntN] at h
    by_cases e : k < cntN K n
    · obtain ⟨j, h1, h2, h3⟩ := cntN_sur n e
      exact ⟨j, by omega, h2, h3⟩
    · by_cases b : K.testBit n = true
      · rw [if_pos b] at h
        exact ⟨n, by omega, b, by omega⟩
      · rw [if_neg b] at h
        omega
theorem ofVow_m {w : Int → Int} {σ : Sg} (hw : rd σ 85 = w) {l j : Int} (h0 : 0 ≤ l ∧ l < 16) (h1 : 0 ≤ j ∧ j < 4) : fX11_ofVow l j σ = some (w (151 + 4 * l + j)) := by
  unfold fX11_ofVow
  rw [bw_id (z := 4 * l) (by omega) (by omega), bw_id (z := 151 + 4 * l) (by omega) (by omega), bw_id (z := 151 + 4 * l + j) (by omega) (by omega), grd_pos (by omega), hw]
theorem alone_m {w fl : Int → Int} {σ : Sg} {G : Int → Int} {CB nv i k : Nat} {d : Int} (hw : rd σ 85 = w) (hn : nv ≤ 16) (hd : 0 ≤ d) (hi : i < nv) (hk : k = cntN CB i) (hci : CB.testBit i = true) (hfl : ∀ l : Nat, l < nv → CB.testBit l = true → fl (cntN CB l : Nat) = w (154 + 4 * (l : Int))) (hF : ∀ l : Nat, l < nv → isF w (w (154 + 4 * (l : Int)))) (hH : ∀ l : Nat, l < i → rd σ 105 l = if CB.testBit l = true then G (cntN CB l : Nat) else -1) : fX11_isAloneIn (i : Int) d σ = some (if opS fl G k d k = true then 1 else 0) := by
  have go : ∀ (r n l : Nat), l + r = i → r < n → opS fl G k d (cntN CB l) = true → fX11_isAloneIn_L2 σ (i : Int) d n (l : Int) = some (if opS fl G k d k = true then 1 else 0) := by
    intro r
    induction r with
    | zero =>
      intro n l hl hn ho
      cases n with
      | zero => omega
      | succ n =>
        rw [show l = i by omega, ← hk] at ho
        rw [fX11_isAloneIn_L2, if_neg (by omega), if_pos ho]
    | succ r ih =>
      intro n l hl hn ho
      cases n with
      | zero => omega
      | succ n =>
        have ih2 := ih n (l + 1) (by omega) (by omega)
        rw [show ((l + 1 : Nat) : Int) = (l : Int) + 1 by omega, cntN] at ih2
        have f1 := isF_b (hF l (by omega))
        have f2 := isF_b (hF i hi)
        rw [fX11_isAloneIn_L2, if_pos (by omega), grd_pos (by omega), hH l (by omega), ofVow_m hw (by omega) (by decide), Option.bind_some, ofVow_m hw (by omega) (by decide), Option.bind_some, show 151 + 4 * (l : Int) + 3 = 154 + 4 * (l : Int) by omega, show 151 + 4 * (i : Int) + 3 = 154 + 4 * (i : Int) by omega, apart_eq (by omega) (by omega), bw_id (z := (l : Int) + 1) (by omega) (by omega), apW_c]
        by_cases c0 : CB.testBit l = true
        · rw [if_pos c0]
          rw [if_pos c0, opS, ho, hk, hfl i hi hci, hfl l (by omega) c0] at ih2
          by_cases c1 : G (cntN CB l : Nat) = d
          · rw [if_pos c1]
            by_cases c2 : apW (w (154 + 4 * (i : Int))) (w (154 + 4 * (l : Int))) ≤ 2
            · have hno : opS fl G k d (cntN CB l + 1) = false := by
                rw [opS, hk, hfl i hi hci, hfl l (by omega) c0, decide_eq_true c1, decide_eq_true c2]
                simp
              have hlt := cntN_lt (K := CB) (a := l) (b := i) (by omega) c0
              have := opS_no hno (k - (cntN CB l + 1))
              rw [show cntN CB l + 1 + (k - (cntN CB l + 1)) = k by omega] at this
              rw [if_neg (by omega), this]
              rfl
            · rw [if_pos (by omega), hk]
              exact ih2 (by rw [decide_eq_false c2]; simp)
          · rw [if_neg c1, hk]
            exact ih2 (by rw [decide_eq_false c1]; simp)
        · rw [if_neg c0, if_neg (by omega)]
          rw [if_neg c0] at ih2
          exact ih2 ho
  unfold fX11_isAloneIn
  exact go i FU 0 (by omega) (by unfold FU; omega) rfl
theorem roundsFrom_m {w fl : Int → Int} {CB nv D : Nat} (hCB : CB < 65536) (hn87 : w 87 = (nv : Int)) (hnv : nv ≤ 16) (hD : D ≤ 16) (hfl : ∀ l : Nat, l < nv → CB.testBit l = true → fl (cntN CB l : Nat) = w (154 + 4 * (l : Int))) (hF : ∀ l : Nat, l < nv → isF w (w (154 + 4 * (l : Int)))) : ∀ (r n i rr : Nat) (G : Int → Int) (σ : Sg), i + r = nv → r < n → cntN CB i + rr = cntN CB nv → rd σ 85 = w → (∀ l : Nat, l < i → rd σ 105 l = if CB.testBit l = true then G (cntN CB l : Nat) else -1) → wp (rg_X11_roundsFrom n (i : Int) (D : Int) (CB : Int) σ) (fun q => Fr [105] σ q.2 ∧ (∀ l : Int, 0 ≤ l → l < i → rd q.2 105 l = rd σ 105 l) ∧ q.1 = (if (fitI fl D rr (cntN CB i) G).isSome = true then 1 else 0) ∧ ∀ G', fitI fl D rr (cntN CB i) G = some G' → ∀ l : Nat, l < nv → rd q.2 105 l = if CB.testBit l = true then G' (cntN CB l : Nat) else -1)
  | 0, n, i, rr, G, σ, hi, hn, hr, hw, hH => by
    cases n with
    | zero => omega
    | succ n =>
      have e : rr = 0 := by rw [show i = nv by omega] at hr; omega
      subst e
      show wp (gX11_roundsFrom (rg_X11_roundsFrom n) (i : Int) (D : Int) (CB : Int) σ) _
      unfold gX11_roundsFrom
      rw [hw, hn87, if_pos (by omega), wp_some]
      exact ⟨Fr.rf, fun _ _ _ => rfl, rfl, fun G' h l hl => by rw [fitI] at h; rw [← Option.some.inj h]; exact hH l (by omega)⟩
  | r + 1, n, i, rr, G, σ, hi, hn, hr, hw, hH => by
    cases n with
    | zero => omega
    | succ n =>
      show wp (gX11_roundsFrom (rg_X11_roundsFrom n) (i : Int) (D : Int) (CB : Int) σ) _
      unfold gX11_roundsFrom
      rw [hw, hn87, if_neg (by omega), grd_pos (by omega), kb_bit (by omega) (by omega) (by omega) (by omega), Int.toNat_natCast, Int.toNat_natCast, bw_id (z := (i : Int) + 1) (by omega) (by omega)]
      by_cases c0 : CB.testBit i = true
      · rw [if_pos c0, if_neg n10]
        have hlt := cntN_lt (K := CB) (a := i) (b := nv) (by omega) c0
        obtain ⟨r2, rfl⟩ : ∃ r2, rr = r2 + 1 := ⟨rr - 1, by omega⟩
        have ec : cntN CB (i + 1) = cntN CB i + 1 := by rw [cntN, if_pos c0]
        have go : ∀ (rd' m d : Nat) (ρ : Sg), d + rd' = D → rd' < m → Fr [105] σ ρ → (∀ l : Int, 0 ≤ l → l < i → rd ρ 105 l = rd σ 105 l) → wp (fX11_roundsFrom_L41 (rg_X11_roundsFrom n) (i : Int) (D : Int) (CB : Int) m (d : Int) ρ) (fun q => Fr [105] σ q.2 ∧ (∀ l : Int, 0 ≤ l → l < i → rd q.2 105 l = rd σ 105 l) ∧ q.1 = (if ((upL rd' (d : Int)).findSome? (fun d => if opS fl G (cntN CB i : Nat) d (cntN CB i) = true then fitI fl D r2 (cntN CB i + 1) (upz G (cntN CB i : Nat) d) else none)).isSome = true then 1 else 0) ∧ ∀ G', (upL rd' (d : Int)).findSome? (fun d => if opS fl G (cntN CB i : Nat) d (cntN CB i) = true then fitI fl D r2 (cntN CB i + 1) (upz G (cntN CB i : Nat) d) else none) = some G' → ∀ l : Nat, l < nv → rd q.2 105 l = if CB.testBit l = true then G' (cntN CB l : Nat) else -1) := by
          intro rd'
          induction rd' with
          | zero =>
            intro m d ρ hd hm hFr hP
            cases m with
            | zero => omega
            | succ m =>
              rw [fX11_roundsFrom_L41, if_neg (by omega), wp_some]
              exact ⟨hFr, hP, rfl, fun G' h => by rw [upL] at h; exact absurd h (by simp)⟩
          | succ rd' ih =>
            intro m d ρ hd hm hFr hP
            cases m with
            | zero => omega
            | succ m =>
              have ih2 := ih m (d + 1)
              rw [show ((d + 1 : Nat) : Int) = (d : Int) + 1 by omega] at ih2
              have hw2 : rd ρ 85 = w := (funext fun j => hFr 85 j (by decide)).trans hw
              have hcl := cntN_le (K := CB) i
              rw [fX11_roundsFrom_L41, if_pos (by omega), alone_m (fl := fl) (G := G) (CB := CB) (nv := nv) (k := cntN CB i) hw2 hnv (by omega) (by omega) rfl c0 hfl hF (fun l hl => (hP l (by omega) (by omega)).trans (hH l hl)), Option.bind_some, bw_id (z := (d : Int) + 1) (by omega) (by omega)]
              rw [upL, List.findSome?_cons]
              by_cases c1 : opS fl G (cntN CB i : Nat) (d : Int) (cntN CB i) = true
              · have i3 := roundsFrom_m hCB hn87 hnv hD hfl hF r n (i + 1) r2 (upz G (cntN CB i : Nat) d) (wr ρ 105 i d) (by omega) (by omega) (by omega) ((funext fun j => rq_c (by decide)).trans hw2) (fun l hl => by
                  rw [wr_row, bw_id (z := (d : Int)) (by omega) (by omega)]
                  by_cases e : l = i
                  · rw [e, upz_s, if_pos c0, upz_s]
                  · rw [upz_n (by omega), (hP l (by omega) (by omega)).trans (hH l (by omega))]
                    by_cases b : CB.testBit l = true
                    · have := cntN_lt (K := CB) (a := l) (b := i) (by omega) b
                      rw [if_pos b, if_pos b, upz_n (by omega)]
                    · rw [if_neg b, if_neg b])
                rw [show ((i + 1 : Nat) : Int) = (i : Int) + 1 by omega, ec] at i3
                rw [if_pos c1, if_neg n10, grd_pos (by omega), bw_id (z := (i : Int) + 1) (by omega) (by omega), wp_bind, if_pos c1]
                refine wp_mono i3 (fun q hq => ?_)
                obtain ⟨q1, q2, q3, q4⟩ := hq
                have f2 : Fr [105] σ q.2 := fun c j hcj => (q1 c j hcj).trans (((hFr.wr (by decide) : Fr [105] σ (wr ρ 105 i d))) c j hcj)
                have p2 : ∀ l : Int, 0 ≤ l → l < i → rd q.2 105 l = rd σ 105 l := fun l a b => by
                  rw [q2 l a (by omega), rq_i (by omega)]
                  exact hP l a b
                cases e : fitI fl D r2 (cntN CB i + 1) (upz G (cntN CB i : Nat) (d : Int)) with
                | none =>
                  rw [e] at q3
                  rw [q3]
                  show wp (if (if (none : Option (Int → Int)).isSome = true then (1 : Int) else 0) = 0 then _ else _) _
                  rw [if_neg (show ¬ (none : Option (Int → Int)).isSome = true by decide), if_pos p00, grd_pos (by omega)]
                  exact ih2 (wr q.2 105 i (-1)) (by omega) (by omega) (f2.wr (by decide)) (fun l a b => by rw [rq_i (by omega)]; exact p2 l a b)
                | some G2 =>
                  rw [e] at q3
                  rw [q3]
                  show wp (if (if (some G2 : Option (Int → Int)).isSome = true then (1 : Int) else 0) = 0 then _ else _) _
                  rw [if_pos (show (some G2 : Option (Int → Int)).isSome = true from rfl), if_neg n10, wp_some]
                  exact ⟨f2, p2, rfl, fun G' h => by rw [← Option.some.inj h]; exact q4 G2 e⟩
              · rw [if_neg c1, if_pos p00, if_neg c1]
                exact ih2 ρ (by omega) (by omega) hFr hP
        rw [fitI]
        exact go D FU 0 (wr σ 105 i (-1)) (by omega) (by unfold FU; omega) (Fr.rf.wr (by decide)) (fun l a b => rq_i (by omega))
      · rw [if_neg c0, if_pos p00, wp_bind]
        have ec : cntN CB (i + 1) = cntN CB i := by rw [cntN, if_neg c0, Nat.add_zero]
        have i3 := roundsFrom_m hCB hn87 hnv hD hfl hF r n (i + 1) rr G (wr σ 105 i (-1)) (by omega) (by omega) (by omega) ((funext fun j => rq_c (by decide)).trans hw) (fun l hl => by
          by_cases e : l = i
          · rw [e, rq_s, if_neg c0]; rfl
          · rw [rq_i (by omega)]; exact hH l (by omega))
        rw [show ((i + 1 : Nat) : Int) = (i : Int) + 1 by omega, ec] at i3
        refine wp_mono i3 (fun q hq => ?_)
        obtain ⟨q1, q2, q3, q4⟩ := hq
        rw [wp_some]
        refine ⟨fun c j hcj => (q1 c j hcj).trans (((Fr.rf.wr (by decide) : Fr [105] σ (wr σ 105 i (-1)))) c j hcj), fun l a b => ?_, q3, q4⟩
        rw [q2 l a (by omega), rq_i (by omega)]
