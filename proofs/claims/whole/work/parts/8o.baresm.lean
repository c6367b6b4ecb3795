/-! bares: the way, the model -/
theorem barTail_m {w : Int → Int} {p q x : Int} {k35 : Int → Sg → Option (Int × Sg)} {k142 : Int → Int → Int → Sg → Option (Int × Sg)} {Q : Int × Sg → Prop} (hW : Wf w) : ∀ (r n : Nat) (f : Int) (ρ : Sg), f + r = 64 → 56 ≤ f → r < n → rd ρ 85 = w → wp (k35 (bw (q + 1)) ρ) Q → wp (fX11_bares_L105 k35 k142 x 0 p q n f ρ) Q
  | 0, n, f, ρ, hi, i0, hn, hw, hk => by
    cases n with
    | zero => omega
    | succ n =>
      rw [fX11_bares_L105, if_neg (by omega)]
      exact hk
  | r + 1, n, f, ρ, hi, i0, hn, hw, hk => by
    cases n with
    | zero => omega
    | succ n =>
      rw [fX11_bares_L105, if_pos (by omega), isField_m hW hw, if_neg (show ¬ isF w f from fun z => by have := isF_b z; omega), if_pos p00, bw_id (z := f + 1) (by omega) (by omega)]
      exact barTail_m hW r n (f + 1) ρ (by omega) (by omega) (by omega) hw hk
theorem barF_m {w : Int → Int} {g : Nat → Int → Int} {p q x x2 : Int} {σ0 : Sg} {k35 : Int → Sg → Option (Int × Sg)} {k142 : Int → Int → Int → Sg → Option (Int × Sg)} {Q : Int × Sg → Prop} (hW : Wf w) (hL : LR w g) (hp : isP w p) (hq : isP w q) (hx : isF w x) : ∀ (r n : Nat) (f : Int) (ρ : Sg), f + r = 56 → 0 ≤ f → r + 8 < n → rd ρ 85 = w → Fr [93, 94] σ0 ρ → (barF w p q x r f = -1 → ∀ τ, Fr [93, 94] σ0 τ → wp (k35 (q + 1) τ) Q) → (barF w p q x r f ≠ -1 → ∀ τ, Fr [93, 94] σ0 τ → wp (k142 p q (barF w p q x r f) τ) Q) → wp (fX11_bares_L105 k35 k142 x x2 p q n f ρ) Q
  | 0, n, f, ρ, hi, i0, hn, hw, hG, hN, hS => by
    have h12 := hW.1.2.2.2.2.2.1
    have hq2 := hq.2
    have hq1 := hq.1
    have ex : ∀ (n : Nat) (f : Int) (σ : Sg), fX11_bares_L105 k35 k142 x x2 p q n f σ = fX11_bares_L105 k35 k142 x 0 p q n f σ := by
      intro n
      induction n with
      | zero => intros; rfl
      | succ n ih =>
        intro f σ
        rw [fX11_bares_L105, fX11_bares_L105]
        simp only [ih]
    rw [ex]
    refine barTail_m hW 8 n f ρ (by omega) (by omega) (by omega) hw ?_
    rw [bw_id (z := q + 1) (by omega) (by omega)]
    exact hN rfl ρ hG
  | r + 1, n, f, ρ, hi, i0, hn, hw, hG, hN, hS => by
    have xb := isF_b hx
    cases n with
    | zero => omega
    | succ n =>
      rw [fX11_bares_L105, if_pos (by omega), isField_m hW hw, bw_id (z := f + 1) (by omega) (by omega)]
      by_cases c : isF w f
      · rw [if_pos c, if_neg n10, wp_bind]
        refine wp_mono (liftOf_m hW hL hw hp hq c hx) (fun r' hr' => ?_)
        have g2 : Fr [93, 94] σ0 r'.2 := hG.tr hr'.2
        have hw2 : rd r'.2 85 = w := (funext fun j => hr'.2 85 j (by decide)).trans hw
        rw [hr'.1, hw2, bw_id (z := 4 + x) (by omega) (by omega), grd_pos (by omega)]
        by_cases d : liftW w p q (foundW w p q) (apW f x) (w (4 + x)) < w (4 + x)
        · have hf : barF w p q x (r + 1) f = barF w p q x r (f + 1) := by
            rw [barF, if_neg (fun z => by have := z.2; omega)]
          rw [hf] at hN hS
          rw [if_pos d]
          exact barF_m hW hL hp hq hx r n (f + 1) r'.2 (by omega) (by omega) (by omega) hw2 g2 hN hS
        · have hf : barF w p q x (r + 1) f = f := by
            rw [barF, if_pos ⟨c, by omega⟩]
          rw [hf] at hS
          rw [if_neg d]
          exact hS (by omega) r'.2 g2
      · have hf : barF w p q x (r + 1) f = barF w p q x r (f + 1) := by
          rw [barF, if_neg (fun z => c z.1)]
        rw [hf] at hN hS
        rw [if_neg c, if_pos p00]
        exact barF_m hW hL hp hq hx r n (f + 1) ρ (by omega) (by omega) (by omega) hw hG hN hS
def bH (w : Int → Int) (x p q : Int) : Option (Int × Int × Int) := if w (68 + p) = -1 ∧ w (91 + p) = 0 then (if decide (w (68 + q) = -1 ∧ w (91 + q) = 1) = true then bG w x p q else none) else none
theorem barIn_m {w : Int → Int} {g : Nat → Int → Int} {p x x2 : Int} {σ0 : Sg} {k21 : Int → Sg → Option (Int × Sg)} {k142 : Int → Int → Int → Sg → Option (Int × Sg)} {Q : Int × Sg → Prop} (hW : Wf w) (hL : LR w g) (hp : isP w p) (hx : isF w x) : ∀ (r n : Nat) (q : Int) (ρ : Sg), q + r = w 85 → 0 ≤ q → r < n → rd ρ 85 = w → Fr [93, 94] σ0 ρ → ((upL r q).findSome? (bH w x p) = none → ∀ τ, Fr [93, 94] σ0 τ → wp (k21 (p + 1) τ) Q) → (∀ v, (upL r q).findSome? (bH w x p) = some v → ∀ τ, Fr [93, 94] σ0 τ → wp (k142 v.1 v.2.1 v.2.2 τ) Q) → wp (fX11_bares_L35 k21 k142 x x2 p n q ρ) Q
  | 0, n, q, ρ, hi, i0, hn, hw, hG, hN, hS => by
    have h12 := hW.1.2.2.2.2.2.1
    have hp1 := hp.1
    have hp2 := hp.2
    cases n with
    | zero => omega
    | succ n =>
      rw [fX11_bares_L35, hw, if_neg (by omega), bw_id (z := p + 1) (by omega) (by omega)]
      exact hN rfl ρ hG
  | r + 1, n, q, ρ, hi, i0, hn, hw, hG, hN, hS => by
    have h12 := hW.1.2.2.2.2.2.1
    have hp1 := hp.1
    have hp2 := hp.2
    have hq : isP w q := ⟨i0, by omega⟩
    have sp := (hW.2.2.1 p hp).1
    have sq := (hW.2.2.1 q hq).1
    cases n with
    | zero => omega
    | succ n =>
      have nx : ∀ τ, Fr [93, 94] σ0 τ → rd τ 85 = w → bH w x p q = none → wp (fX11_bares_L35 k21 k142 x x2 p n (q + 1) τ) Q := fun τ hτ hw2 hb => barIn_m hW hL hp hx r n (q + 1) τ (by omega) (by omega) (by omega) hw2 hτ (fun h => hN (by rw [upL, List.findSome?_cons, hb]; exact h)) (fun v h => hS v (by rw [upL, List.findSome?_cons, hb]; exact h))
      rw [fX11_bares_L35, hw, if_pos (by omega), bw_id (z := 91 + p) (by omega) (by omega), bw_id (z := q + 1) (by omega) (by omega), grd_pos (by omega), areUnlike_m hW hw, isFree_m hw (p := p) (by omega), isFree_m hw (p := q) (by omega)]
      by_cases c1 : w (91 + p) = 1
      · rw [if_pos c1]
        exact nx ρ hG hw (by unfold bH; rw [if_neg (fun z => by omega)])
      · rw [if_neg c1, Option.bind_some]
        by_cases c2 : w (91 + p) ≠ w (91 + q)
        · rw [if_pos (show isP w p ∧ isP w q ∧ w (91 + p) ≠ w (91 + q) from ⟨hp, hq, c2⟩), if_neg n10, Option.bind_some]
          by_cases c3 : w (68 + p) = -1
          · rw [if_pos c3, if_neg n10, Option.bind_some]
            by_cases c4 : w (68 + q) = -1
            · have hb : bH w x p q = bG w x p q := by
                unfold bH
                rw [if_pos ⟨c3, by omega⟩, if_pos (by rw [decide_eq_true_eq]; exact ⟨c4, by omega⟩)]
              rw [if_pos c4, if_neg n10, wp_bind]
              refine wp_mono (foundOf_m hW hL hw hp hq) (fun r' hr' => ?_)
              have g2 : Fr [93, 94] σ0 r'.2 := hG.tr hr'.2
              have hw2 : rd r'.2 85 = w := (funext fun j => hr'.2 85 j (by decide)).trans hw
              rw [hr'.1]
              by_cases d : foundW w p q < 6
              · rw [if_pos d]
                exact nx r'.2 g2 hw2 (by rw [hb]; unfold bG; rw [if_neg (fun z => by omega)])
              · rw [if_neg d]
                refine barF_m (σ0 := σ0) hW hL hp hq hx 56 FU 0 r'.2 (by omega) (by omega) (by unfold FU; omega) hw2 g2 (fun e τ hτ => ?_) (fun e τ hτ => ?_)
                · exact nx τ hτ ((funext fun j => (hτ 85 j (by decide)).trans (hG 85 j (by decide)).symm).trans hw) (by rw [hb]; unfold bG; rw [if_neg (fun z => z.2 e)])
                · exact hS (p, q, barF w p q x 56 0) (by rw [upL, List.findSome?_cons, hb]; unfold bG; rw [if_pos ⟨by omega, e⟩]) τ hτ
            · rw [if_neg c4, if_pos p00]
              exact nx ρ hG hw (by unfold bH; rw [if_pos ⟨c3, by omega⟩, if_neg (by rw [decide_eq_true_eq]; exact fun z => c4 z.1)])
          · rw [if_neg c3, if_pos p00]
            exact nx ρ hG hw (by unfold bH; rw [if_neg (fun z => c3 z.1)])
        · rw [if_neg (show ¬ (isP w p ∧ isP w q ∧ w (91 + p) ≠ w (91 + q)) from fun z => c2 z.2.2), if_pos p00]
          refine nx ρ hG hw ?_
          unfold bH
          by_cases c3 : w (68 + p) = -1 ∧ w (91 + p) = 0
          · rw [if_pos c3, if_neg (by rw [decide_eq_true_eq]; intro z; have := Classical.not_not.mp c2; omega)]
          · rw [if_neg c3]
theorem barOut_m {w : Int → Int} {g : Nat → Int → Int} {x x2 : Int} {σ0 : Sg} {k142 : Int → Int → Int → Sg → Option (Int × Sg)} {Q : Int × Sg → Prop} (hW : Wf w) (hL : LR w g) (hx : isF w x) : ∀ (r n : Nat) (p : Int) (ρ : Sg), p + r = w 85 → 0 ≤ p → r < n → rd ρ 85 = w → Fr [93, 94] σ0 ρ → ((upL r p).findSome? (fun a => (upL (w 85).toNat 0).findSome? (bH w x a)) = none → ∀ τ, Fr [93, 94] σ0 τ → Q (-1, τ)) → (∀ v, (upL r p).findSome? (fun a => (upL (w 85).toNat 0).findSome? (bH w x a)) = some v → ∀ τ, Fr [93, 94] σ0 τ → wp (k142 v.1 v.2.1 v.2.2 τ) Q) → wp (fX11_bares_L21 k142 x x2 n p ρ) Q
  | 0, n, p, ρ, hi, i0, hn, hw, hG, hN, hS => by
    cases n with
    | zero => omega
    | succ n =>
      rw [fX11_bares_L21, hw, if_neg (by omega), wp_some]
      exact hN rfl ρ hG
  | r + 1, n, p, ρ, hi, i0, hn, hw, hG, hN, hS => by
    have h12 := hW.1.2.2.2.2.2.1
    cases n with
    | zero => omega
    | succ n =>
      rw [fX11_bares_L21, hw, if_pos (by omega)]
      refine barIn_m (σ0 := σ0) hW hL (p := p) ⟨i0, by omega⟩ hx (w 85).toNat FU 0 ρ (by omega) (by omega) (by unfold FU; omega) hw hG (fun e τ hτ => ?_) (fun v e τ hτ => ?_)
      · exact barOut_m hW hL hx r n (p + 1) τ (by omega) (by omega) (by omega) ((funext fun j => (hτ 85 j (by decide)).trans (hG 85 j (by decide)).symm).trans hw) hτ (fun h => hN (by rw [upL, List.findSome?_cons, e]; exact h)) (fun v h => hS v (by rw [upL, List.findSome?_cons, e]; exact h))
      · exact hS v (by rw [upL, List.findSome?_cons, e]) τ hτ
theorem barV_eq {w : Int → Int} {x : Int} : (upL (w 85).toNat 0).findSome? (fun a => (upL (w 85).toNat 0).findSome? (bH w x a)) = barV w x := by
  unfold barV
  rw [frL_eq, frL_eq, find_filter]
  congr 1
  funext a
  rw [find_filter]
  by_cases c : w (68 + a) = -1 ∧ w (91 + a) = 0
  · rw [if_pos (by rw [decide_eq_true_eq]; exact c)]
    congr 1
    funext q
    unfold bH
    rw [if_pos c]
  · rw [if_neg (by rw [decide_eq_true_eq]; exact c)]
    rw [List.findSome?_eq_none_iff]
    intro q _
    unfold bH
    rw [if_neg c]
theorem barV_r {w : Int → Int} {x : Int} {v : Int × Int × Int} (h : barV w x = some v) : isP w v.1 ∧ isP w v.2.1 ∧ isF w v.2.2 := by
  unfold barV at h
  obtain ⟨p, hp, h⟩ := List.exists_of_findSome?_eq_some h
  obtain ⟨q, hq, h⟩ := List.exists_of_findSome?_eq_some h
  unfold bG at h
  by_cases c : 6 ≤ foundW w p q ∧ barF w p q x 56 0 ≠ -1
  · rw [if_pos c] at h
    have h := Option.some.inj h
    rw [← h]
    have a := (frL_mem.mp hp).1
    have b := (frL_mem.mp hq).1
    exact ⟨⟨a.1, (by omega : p < w 85)⟩, ⟨b.1, (by omega : q < w 85)⟩, (barF_r 56 0).resolve_left c.2⟩
  · rw [if_neg c] at h
    exact absurd h (by simp)
theorem op_bares {has : Bool} {N : Nat} (hN : N ≤ 511) (x1 x2 : Int) (h1 : bw x1 = x1) (h2 : bw x2 = x2) : OpE has N (fX10_bares x1 x2) (fX11_bares x1 x2) := by
  intro σ h
  have hC := h.1
  have hW := hC.1
  have h12 := hW.1.2.2.2.2.2.1
  by_cases c1 : isF (rd σ 85) x1
  · by_cases c2 : 0 ≤ x2 ∧ x2 ≤ 2
    · refine opE_ro (v := if x2 = 0 then (match barV (rd σ 85) x1 with | none => -1 | some v => v.1) else if x2 = 1 then (match barV (rd σ 85) x1 with | none => -1 | some v => v.2.1) else (match barV (rd σ 85) x1 with | none => -1 | some v => v.2.2)) h ?_ (fun τ hk => ?_)
      · show wp (fX10_bares x1 x2 σ) _
        unfold fX10_bares
        rw [hasField_c hC, if_pos c1, if_neg n10, within_m, if_pos c2, if_neg n10, wp_bind]
        refine wp_mono (baring_c hC c1) (fun r hr => ?_)
        have hk : Keep σ r.2 := Keep.fr hr.2 (by decide) (by decide)
        rw [hr.1]
        cases e : barV (rd σ 85) x1 with
        | none =>
          show wp (if (-1 : Int) = -1 then _ else _) _
          rw [if_pos rfl, wp_some]
          refine ⟨?_, hk⟩
          simp
        | some v =>
          obtain ⟨p1, p2, f1⟩ := barV_r e
          have fb := isF_b f1
          have a0 := p1.1
          have a1 := p1.2
          have b0 := p2.1
          have b1 := p2.2
          show wp (if (12 * v.1 + v.2.1) * 56 + v.2.2 = -1 then _ else _) _
          show wp (if _ then _ else if _ then some (trm ((12 * v.1 + v.2.1) * 56 + v.2.2) 56, r.2) else if _ then some (tdv (tdv ((12 * v.1 + v.2.1) * 56 + v.2.2) 56) 12, r.2) else some (trm (tdv ((12 * v.1 + v.2.1) * 56 + v.2.2) 56) 12, r.2)) _
          rw [if_neg (by omega), trm_pos (by omega) (by omega) (by omega) (by omega), tdv_pos (x := (12 * v.1 + v.2.1) * 56 + v.2.2) (by omega) (by omega) (by omega) (by omega), show ((12 * v.1 + v.2.1) * 56 + v.2.2) / 56 = 12 * v.1 + v.2.1 by omega, tdv_pos (by omega) (by omega) (by omega) (by omega), trm_pos (by omega) (by omega) (by omega) (by omega), show ((12 * v.1 + v.2.1) * 56 + v.2.2) % 56 = v.2.2 by omega, show (12 * v.1 + v.2.1) / 12 = v.1 by omega, show (12 * v.1 + v.2.1) % 12 = v.2.1 by omega]
          by_cases d2 : x2 = 2
          · rw [if_pos d2, wp_some, if_neg (by omega), if_neg (by omega)]
            exact ⟨rfl, hk⟩
          · rw [if_neg d2]
            by_cases d0 : x2 = 0
            · rw [if_pos d0, wp_some, if_pos d0]
              exact ⟨rfl, hk⟩
            · rw [if_neg d0, wp_some, if_neg d0, if_pos (by omega)]
              exact ⟨rfl, hk⟩
      · have e85 : rd τ 85 = rd σ 85 := hk.1 85 (by decide)
        show wp (fX11_bares x1 x2 τ) _
        unfold fX11_bares
        rw [isField_m hW e85, if_pos c1, if_neg n10, isIn_m, if_pos c2, if_neg n10]
        refine barOut_m (w := rd σ 85) (σ0 := τ) hW hC.2.2.2.2.2.2 c1 (rd σ 85 85).toNat FU 0 τ (by omega) (by omega) (by unfold FU; omega) e85 Fr.rf (fun hb ρ hρ => ?_) (fun v hb ρ hρ => ?_)
        · rw [barV_eq] at hb
          rw [hb]
          exact ⟨by simp, keep_m hρ⟩
        · rw [barV_eq] at hb
          rw [hb]
          show wp (if x2 = 0 then some (v.1, ρ) else if x2 = 1 then some (v.2.1, ρ) else some (v.2.2, ρ)) _
          by_cases d0 : x2 = 0
          · rw [if_pos d0, wp_some, if_pos d0]
            exact ⟨rfl, keep_m hρ⟩
          · rw [if_neg d0, if_neg d0]
            by_cases d1 : x2 = 1
            · rw [if_pos d1, wp_some, if_pos d1]
              exact ⟨rfl, keep_m hρ⟩
            · rw [if_neg d1, wp_some, if_neg d1]
              exact ⟨rfl, keep_m hρ⟩
    · refine opE_no h (v := -1) ?_ ?_
      · unfold fX10_bares
        rw [hasField_c hC, if_pos c1, if_neg n10, within_m, if_neg c2, if_pos p00]
      · unfold fX11_bares
        rw [isField_m hW rfl, if_pos c1, if_neg n10, isIn_m, if_neg c2, if_pos p00]
  · refine opE_no h (v := -1) ?_ ?_
    · unfold fX10_bares
      rw [hasField_c hC, if_neg c1, if_pos p00]
    · unfold fX11_bares
      rw [isField_m hW rfl, if_neg c1, if_pos p00]
