/-! the model's run, and both tellings of THE LAW -/
section RunM
variable {to : Int} {n : Nat} {top i : Int} {σ : Sg}
theorem mi0 (h0 : 0 ≤ i) (h2 : i < 410) : bw (bw (976 + bw (820 * 0)) + bw (2 * i)) = 976 + 2 * i ∧ bw (976 + 2 * i + 1) = 977 + 2 * i := by
  have e1 : bw (820 * 0) = 0 := rfl
  have e2 : bw (976 + 0) = 976 := rfl
  rw [e1, e2, bw_id (z := 2 * i) (by omega) (by omega), bw_id (z := 976 + 2 * i) (by omega) (by omega)]
  exact ⟨rfl, by rw [bw_id] <;> omega⟩
theorem ml_num (h1 : i < to) (h2 : i < 410) (h0 : 0 ≤ i) (t0 : 0 ≤ top) (t1 : top < 420) (hv : rd σ 85 (976 + 2 * i) = 0) : fX11_comesTo_L6 0 to (n + 1) top i σ = fX11_comesTo_L6 0 to n (top + 1) (i + 1) (wr σ 93 top (rd σ 85 (977 + 2 * i))) := by
  obtain ⟨e1, e2⟩ := mi0 (i := i) h0 h2
  rw [fX11_comesTo_L6, if_pos h1, e1, e2, grd_pos (by omega), grd_pos (by omega), hv, if_pos (by decide), if_pos rfl, grd_pos ⟨t0, t1⟩, bw_id (z := top + 1) (by omega) (by omega), bw_id (z := i + 1) (by omega) (by omega)]
theorem ml_nam (h1 : i < to) (h2 : i < 410) (h0 : 0 ≤ i) (t0 : 0 ≤ top) (t1 : top < 420) (hv : 1 ≤ rd σ 85 (976 + 2 * i) ∧ rd σ 85 (976 + 2 * i) ≤ 10) : fX11_comesTo_L6 0 to (n + 1) top i σ = fX11_comesTo_L6 0 to n (top + 1) (i + 1) (wr σ 93 top (rd σ 94 (rd σ 85 (976 + 2 * i)))) := by
  obtain ⟨e1, e2⟩ := mi0 (i := i) h0 h2
  rw [fX11_comesTo_L6, if_pos h1, e1, e2, grd_pos (by omega), grd_pos (by omega), if_pos (by omega), if_neg (by omega), grd_pos (by omega), grd_pos ⟨t0, t1⟩, bw_id (z := top + 1) (by omega) (by omega), bw_id (z := i + 1) (by omega) (by omega)]
theorem ml_part (h1 : i < to) (h2 : i < 410) (h0 : 0 ≤ i) (t0 : 0 ≤ top) (t1 : top < 420) (hv : rd σ 85 (976 + 2 * i) = 26) (hd : rd σ 85 (977 + 2 * i) ≠ 0) : fX11_comesTo_L6 0 to (n + 1) (top + 1) i σ = fX11_comesTo_L6 0 to n (top + 1) (i + 1) (wr σ 93 top (tdv (rd σ 93 top) (rd σ 85 (977 + 2 * i)))) := by
  obtain ⟨e1, e2⟩ := mi0 (i := i) h0 h2
  rw [fX11_comesTo_L6, if_pos h1, e1, e2, grd_pos (by omega), grd_pos (by omega), hv, if_neg (by decide), if_pos rfl, bw_id (z := top + 1 - 1) (by omega) (by omega), show top + 1 - 1 = top by omega, grd_pos ⟨t0, t1⟩, grd_pos hd, grd_pos ⟨t0, t1⟩, bw_id (z := i + 1) (by omega) (by omega)]
theorem ml_not (h1 : i < to) (h2 : i < 410) (h0 : 0 ≤ i) (t0 : 0 ≤ top) (t1 : top < 420) (hv : rd σ 85 (976 + 2 * i) = 30) : fX11_comesTo_L6 0 to (n + 1) (top + 1) i σ = fX11_comesTo_L6 0 to n (top + 1) (i + 1) (wr σ 93 top (bw (1 - rd σ 93 top))) := by
  obtain ⟨e1, e2⟩ := mi0 (i := i) h0 h2
  rw [fX11_comesTo_L6, if_pos h1, e1, e2, grd_pos (by omega), grd_pos (by omega), hv, if_neg (by decide), if_neg (by decide), if_pos rfl, bw_id (z := top + 1 - 1) (by omega) (by omega), show top + 1 - 1 = top by omega, grd_pos ⟨t0, t1⟩, grd_pos ⟨t0, t1⟩, bw_id (z := i + 1) (by omega) (by omega)]
theorem ml_two (h1 : i < to) (h2 : i < 410) (h0 : 0 ≤ i) (t0 : 0 ≤ top) (t1 : top < 419) (hv : 23 ≤ rd σ 85 (976 + 2 * i)) (hv2 : rd σ 85 (976 + 2 * i) ≠ 26) (hv3 : rd σ 85 (976 + 2 * i) ≠ 30) : fX11_comesTo_L6 0 to (n + 1) (top + 2) i σ = fX11_comesTo_L6 0 to n (top + 1) (i + 1) (wr σ 93 top (fX11_both (rd σ 85 (976 + 2 * i)) (rd σ 93 top) (rd σ 93 (top + 1)))) := by
  obtain ⟨e1, e2⟩ := mi0 (i := i) h0 h2
  rw [fX11_comesTo_L6, if_pos h1, e1, e2, grd_pos (by omega), grd_pos (by omega), if_neg (by omega), if_neg hv2, if_neg hv3, bw_id (z := top + 2 + -1) (by omega) (by omega), show top + 2 + -1 = top + 1 by omega, bw_id (z := top + 1 - 1) (by omega) (by omega), show top + 1 - 1 = top by omega, grd_pos ⟨t0, by omega⟩, grd_pos ⟨by omega, by omega⟩, grd_pos ⟨t0, by omega⟩, bw_id (z := i + 1) (by omega) (by omega)]
end RunM
theorem run_m {to : Int} (hto : to ≤ 410) {fc : Int → Int} (hf : ∀ i, bw (fc i) = fc i) {w : Int → Int} {Q : Int × Sg → Prop} : ∀ (ls : List (Int × Int)) (n : Nat) (i : Int) (σ : Sg) (st : List Int) (ts ts2 : List Bool), rd σ 85 = w → MS w to ls i → 0 ≤ i → (to - i).toNat < n → SK (rd σ 93) st → TS st ts → ts.length ≤ 47 → tys ls ts = some ts2 → (∀ j : Int, 1 ≤ j → j ≤ 10 → rd σ 94 j = fc j) → (∀ τ, Fr [93] σ τ → SK (rd τ 93) (evs fc ls st) → Q (rd τ 93 0, τ)) → wp (fX11_comesTo_L6 0 to n (st.length : Int) i σ) Q
  | [], n, i, σ, st, ts, ts2, hw, hC, h0, hn, hS, hT, hb, hy, hF, hk => by
    have hC : i = to := hC
    cases n with
    | zero => omega
    | succ n =>
      rw [fX11_comesTo_L6, if_neg (by omega)]
      exact wp_some.mpr (hk σ Fr.rf hS)
  | s :: t, n, i, σ, st, ts, ts2, hw, hC, h0, hn, hS, hT, hb, hy, hF, hk => by
    have hle := MS_le _ _ hC
    rw [List.length_cons] at hle
    rw [tys] at hy
    have hlen := TS_len hT
    obtain ⟨hc1, hc2, hc3⟩ := hC
    have go : ∀ (m : Nat) (z : Int) (u : List Int) (t1 : List Bool), ty1 s ts = some t1 → ev1 fc s st = z :: u → (to - (i + 1)).toNat < m → SK (rd σ 93) u → bw z = z → wp (fX11_comesTo_L6 0 to m ((u.length : Int) + 1) (i + 1) (wr σ 93 (u.length : Int) z)) Q := by
      intro m z u t1 ht1 he hm hSu hz
      have hFr2 : Fr [93] σ (wr σ 93 (u.length : Int) z) := Fr.rf.wr (List.mem_singleton.mpr rfl)
      rw [ht1] at hy
      have e5 : ∀ j : Int, rd (wr σ 93 (u.length : Int) z) 94 j = rd σ 94 j := fun j => hFr2 _ _ (by decide)
      have e1 : rd (wr σ 93 (u.length : Int) z) 85 = rd σ 85 := funext fun j => hFr2 _ _ (by decide)
      have := run_m hto hf (w := w) (Q := Q) t m (i + 1) (wr σ 93 (u.length : Int) z) (z :: u) t1 ts2 (e1.trans hw) hc3 (by omega) hm (SK_push hSu hz) (by rw [← he]; exact ev1_ok hf ht1 hT) (ty1_len ht1 hb) hy (fun j h1 h2 => (e5 j).trans (hF j h1 h2)) (fun ρ h1 h2 => by
        have := hk ρ (hFr2.tr h1)
        rw [evs, he] at this
        exact this h2)
      rw [List.length_cons] at this
      exact_mod_cast this
    cases h1 : ty1 s ts with
    | none => rw [h1] at hy; cases hy
    | some t1 =>
      rw [← hw] at hc1 hc2
      cases n with
      | zero => omega
      | succ n =>
        rcases ty1_cases h1 with ⟨g0, g1, g2, g3, rfl⟩ | ⟨g0, g3, rfl⟩ | ⟨a, tb, rfl, g⟩
        · rw [ml_num (by omega) (by omega) h0 (by omega) (by omega) (hc1.trans g0), hc2]
          exact go n s.2 st _ h1 (ev1_num g0) (by omega) hS (bw_id (by omega) (by omega))
        · rw [ml_nam (by omega) (by omega) h0 (by omega) (by omega) (by omega), hc1, hF _ (by omega) (by omega)]
          exact go n (fc s.1) st _ h1 (ev1_nam g0) (by omega) hS (hf _)
        · cases st with
          | nil => exact hT.elim
          | cons x xs =>
            rw [List.length_cons, List.length_cons] at hlen
            rw [List.length_cons] at hb
            obtain ⟨q1, q2, q3⟩ := hT
            obtain ⟨r1, r2⟩ := hS
            have hT : TS (x :: xs) (a :: tb) := ⟨q1, q2, q3⟩
            have hty := ty1_cases h1
            rw [List.length_cons, show ((xs.length + 1 : Nat) : Int) = (xs.length : Int) + 1 by omega]
            rcases g with ⟨g0, g1, g2, rfl⟩ | ⟨g0, rfl, rfl⟩ | ⟨b, u, rfl, g4⟩
            · rw [ml_part (by omega) (by omega) h0 (by omega) (by omega) (hc1.trans g0) (by omega), hc2, r1]
              exact go n (tdv x s.2) xs _ h1 (ev1_part g0) (by omega) r2 (tdv_nr _ _)
            · rw [ml_not (by omega) (by omega) h0 (by omega) (by omega) (hc1.trans g0), r1]
              exact go n (bw (1 - x)) xs _ h1 (ev1_not g0) (by omega) r2 (bw_bw _)
            · have g5 : (23 ≤ s.1 ∧ s.1 ≤ 25) ∨ (27 ≤ s.1 ∧ s.1 ≤ 29) ∨ (31 ≤ s.1 ∧ s.1 ≤ 32) := by
                rcases g4 with h | h | h
                · exact Or.inl ⟨h.1, h.2.1⟩
                · exact Or.inr (Or.inl ⟨h.1, h.2.1⟩)
                · exact Or.inr (Or.inr ⟨h.1, h.2.1⟩)
              cases xs with
              | nil => exact q3.elim
              | cons y ys =>
                obtain ⟨r3, r4⟩ := r2
                rw [List.length_cons] at r1 hb
                rw [List.length_cons, List.length_cons] at hlen
                have hr1 : rd σ 93 ((ys.length : Int) + 1) = x := by rw [← r1]; congr 1
                rw [List.length_cons, show ((ys.length + 1 : Nat) : Int) + 1 = (ys.length : Int) + 2 by omega, ml_two (by omega) (by omega) h0 (by omega) (by omega) (by omega) (by omega) (by omega), r3, hr1, hc1]
                exact go n (fX11_both s.1 y x) ys _ h1 (ev1_two g5) (by omega) r4 (both_nr _ _ _)
/-! what THE LAW says, as a function of the row -/
def evW (w fc : Int → Int) (a b : Int) : Int := (evs fc (stW w a b) []).headD 0
def sayN (w fc : Int → Int) (word other : Int) : Nat → Int → Int
  | 0, _ => other
  | n + 1, i => if w (959 + i) = word ∧ (w (943 + i) = w (927 + i) ∨ evW w fc (w (927 + i)) (w (943 + i)) ≠ 0) then evW w fc (w (911 + i)) (w (927 + i)) else sayN w fc word other n (i + 1)
def sayW (w fc : Int → Int) (word other most : Int) : Int := max 0 (min most (sayN w fc word other (w 86).toNat 0))
/-- the class's world: its own rooms by number, what is scratch left out -/
def vw (σ : Sg) (b : Nat) : Nat → Int → Int := fun k i => if k = 2 ∨ k = 15 ∨ k = 16 ∨ 27 ≤ k then 0 else rd σ (b + k) i
/-- line i of THE LAW -/
def LL (w : Int → Int) (g : Nat → Int → Int) (i : Int) : Prop :=
  (20 ≤ w (959 + i) ∧ w (959 + i) ≤ 22) ∧ g 12 i = w (959 + i) - 17 ∧ (0 ≤ g 13 i ∧ g 13 (i + 1) ≤ g 10 7) ∧ (0 ≤ w (911 + i) ∧ w (911 + i) ≤ w (927 + i) ∧ w (927 + i) ≤ w (943 + i) ∧ w (943 + i) ≤ 410) ∧
  CS (g 11) (g 14 i) (stW w (w (911 + i)) (w (927 + i))) (g 13 i) ∧ (∃ t, tys (stW w (w (911 + i)) (w (927 + i))) [] = some [t]) ∧
  CS (g 11) (g 13 (i + 1)) (stW w (w (927 + i)) (w (943 + i))) (g 14 i) ∧ (w (943 + i) = w (927 + i) ∨ tys (stW w (w (927 + i)) (w (943 + i))) [] = some [true])
def LR (w : Int → Int) (g : Nat → Int → Int) : Prop := (0 ≤ w 86 ∧ w 86 ≤ 16) ∧ g 10 6 = w 86 ∧ (0 ≤ g 10 7 ∧ g 10 7 ≤ 400) ∧ ∀ i : Int, 0 ≤ i → i < w 86 → LL w g i
theorem TS1 {st : List Int} {t : Bool} (h : TS st [t]) : ∃ v, st = [v] ∧ (t = true → v = 0 ∨ v = 1) := by
  cases st with
  | nil => exact h.elim
  | cons v u =>
    cases u with
    | nil => exact ⟨v, rfl, h.2.1⟩
    | cons x y => exact h.2.2.elim
theorem evW_of {w fc : Int → Int} (hf : ∀ i, bw (fc i) = fc i) {a b : Int} {t : Bool} (h : tys (stW w a b) [] = some [t]) : evs fc (stW w a b) [] = [evW w fc a b] ∧ (t = true → evW w fc a b = 0 ∨ evW w fc a b = 1) := by
  obtain ⟨v, h1, h2⟩ := TS1 (evs_ok hf _ h (st := []) trivial)
  have h3 : evW w fc a b = v := by rw [evW, h1]; rfl
  rw [h3]
  exact ⟨h1, h2⟩
/-- the class's run of one segment -/
theorem run_cw {b : Nat} {w fc : Int → Int} (hf : ∀ i, bw (fc i) = fc i) {x y p q : Int} {σ : Sg} {t : Bool} (hy : y ≤ 400) (hx : 0 ≤ x) (hC : CS (rd σ (b + 11)) y (stW w p q) x) (ht : tys (stW w p q) [] = some [t]) (hF : ∀ j : Int, 0 ≤ j → j < 10 → rd σ (b + 15) j = fc (j + 1)) : wp (fX2_run (b + 10) x y σ) (fun r => r.1 = evW w fc p q ∧ Fr [b + 16] σ r.2) := by
  unfold fX2_run
  obtain ⟨e1, e2⟩ := evW_of hf ht
  have hm : fJ9_max_7cf53 0 x = x := by rw [max_eq]; omega
  rw [hm]
  refine run_c hy hf (stW w p q) FU x σ [] [] [t] hC hx (by unfold FU; omega) trivial trivial (by simp) ht hF (fun τ h1 h2 => ?_)
  rw [e1] at h2 ⊢
  have h3 : rd τ (b + 16) 0 = evW w fc p q := h2.1
  show wp (if (0 : Int) < 1 then grd ((0 : Int) ≤ bw (1 - 1) ∧ bw (1 - 1) < 48) (some (rd τ (b + 10 + 6) (bw (1 - 1)), τ)) else some (0, τ)) _
  rw [if_pos (by decide), show bw (1 - 1) = 0 from rfl, grd_pos (by decide), wp_some]
  exact ⟨h3, h1⟩
theorem run_mw {w fc : Int → Int} (hf : ∀ i, bw (fc i) = fc i) {p q : Int} {σ : Sg} {t : Bool} (hw : rd σ 85 = w) (hp : 0 ≤ p) (hpq : p ≤ q) (hq : q ≤ 410) (ht : tys (stW w p q) [] = some [t]) (hF : ∀ j : Int, 1 ≤ j → j ≤ 10 → rd σ 94 j = fc j) : wp (fX11_comesTo 0 p q σ) (fun r => r.1 = evW w fc p q ∧ Fr [93] σ r.2) := by
  unfold fX11_comesTo
  obtain ⟨e1, e2⟩ := evW_of hf ht
  refine run_m hq hf (stW w p q) FU p σ [] [] [t] hw (stW_MS hpq) hp (by unfold FU; omega) trivial trivial (by simp) ht hF (fun τ h1 h2 => ?_)
  rw [e1] at h2
  exact ⟨h2.1, h1⟩
theorem tell_c {b : Nat} {w fc : Int → Int} (hf : ∀ i, bw (fc i) = fc i) {word other : Int} {σ : Sg} (hL : LR w (vw σ b)) (hF : ∀ j : Int, 0 ≤ j → j < 10 → rd σ (b + 15) j = fc (j + 1)) : wp (fX2_tell (b + 10) (word - 17) other σ) (fun r => r.1 = sayN w fc word other (w 86).toNat 0 ∧ Fr [b + 16] σ r.2) := by
  unfold fX2_tell
  obtain ⟨hn, h6, h7, hl⟩ := hL
  have key : ∀ (m : Nat) (i : Int) (n : Nat) (τ : Sg), 0 ≤ i → i + m = w 86 → m < n → Fr [b + 16] σ τ → wp (fX2_tell_L2 (b + 10) (fun v7_3 s7 => grd ((0 : Int) ≤ v7_3 ∧ v7_3 < 17) (grd ((0 : Int) ≤ v7_3 ∧ v7_3 < 16) ((fX2_run (b + 10) (rd s7 (b + 10 + 3) v7_3) (rd s7 (b + 10 + 4) v7_3) s7).bind fun q8 => some (q8.1, q8.2)))) (word - 17) other n i τ) (fun r => r.1 = sayN w fc word other m i ∧ Fr [b + 16] σ r.2) := by
    intro m
    induction m with
    | zero =>
      intro i n τ hi him hmn hFr
      cases n with
      | zero => omega
      | succ n =>
        have e6 : rd τ (b + 10) 6 = w 86 := (hFr (b + 10) 6 (by simp)).trans h6
        rw [fX2_tell_L2, e6, if_neg (by omega), wp_some]
        exact ⟨rfl, hFr⟩
    | succ m ih =>
      intro i n τ hi him hmn hFr
      cases n with
      | zero => omega
      | succ n =>
        obtain ⟨k1, k2, k3, k4, k5, ⟨t5, k6⟩, k7, k8⟩ := hl i hi (by omega)
        have e6 : rd τ (b + 10) 6 = w 86 := (hFr (b + 10) 6 (by simp)).trans h6
        have e12 : rd τ (b + 10 + 2) i = w (959 + i) - 17 := (hFr (b + 10 + 2) i (by simp)).trans k2
        have e13 : rd τ (b + 10 + 3) i = vw σ b 13 i := hFr (b + 10 + 3) i (by simp)
        have e13' : rd τ (b + 10 + 3) (i + 1) = vw σ b 13 (i + 1) := hFr (b + 10 + 3) (i + 1) (by simp)
        have e14 : rd τ (b + 10 + 4) i = vw σ b 14 i := hFr (b + 10 + 4) i (by simp)
        have e11 : rd τ (b + 11) = vw σ b 11 := funext fun j => hFr (b + 11) j (by simp)
        have e15 : ∀ j : Int, 0 ≤ j → j < 10 → rd τ (b + 15) j = fc (j + 1) := fun j h1 h2 => (hFr (b + 15) j (by simp)).trans (hF j h1 h2)
        have hle1 := CS_le _ _ k5
        have hle2 := CS_le _ _ k7
        have ei : bw (i + 1) = i + 1 := bw_id (by omega) (by omega)
        rw [fX2_tell_L2, e6, if_pos (by omega), if_pos (by omega), grd_pos ⟨hi, by omega⟩, e12, ei, e13', e14, sayN]
        by_cases hw : w (959 + i) = word
        · rw [if_pos (by omega), grd_pos ⟨hi, by omega⟩, grd_pos ⟨by omega, by omega⟩]
          have hrun : ∀ ρ, Fr [b + 16] τ ρ → wp (grd ((0 : Int) ≤ i ∧ i < 17) (grd ((0 : Int) ≤ i ∧ i < 16) ((fX2_run (b + 10) (rd ρ (b + 10 + 3) i) (rd ρ (b + 10 + 4) i) ρ).bind fun q8 => some (q8.1, q8.2)))) (fun r => r.1 = evW w fc (w (911 + i)) (w (927 + i)) ∧ Fr [b + 16] σ r.2) := by
            intro ρ hρ
            rw [grd_pos ⟨hi, by omega⟩, grd_pos ⟨hi, by omega⟩, wp_bind, hρ (b + 10 + 3) i (by simp), hρ (b + 10 + 4) i (by simp), e13, e14]
            have e11' : rd ρ (b + 11) = vw σ b 11 := (funext fun j => hρ (b + 11) j (by simp)).trans e11
            refine wp_mono (run_cw hf (x := vw σ b 13 i) (y := vw σ b 14 i) (p := w (911 + i)) (q := w (927 + i)) (by omega) k3.1 (by rw [e11']; exact k5) k6 (fun j h1 h2 => (hρ (b + 15) j (by simp)).trans (e15 j h1 h2))) (fun r hr => wp_some.mpr ⟨hr.1, hFr.tr (hρ.tr hr.2)⟩)
          by_cases he : w (943 + i) = w (927 + i)
          · have : vw σ b 14 i = vw σ b 13 (i + 1) := by
              have e : stW w (w (927 + i)) (w (943 + i)) = [] := by rw [stW, he, Int.sub_self]; rfl
              rw [e] at k7
              exact k7
            rw [if_pos this, if_pos ⟨hw, Or.inl he⟩]
            have hh := hrun τ Fr.rf
            rw [e14] at hh
            exact hh
          · have k9 := k8.resolve_left he
            have hne : stW w (w (927 + i)) (w (943 + i)) ≠ [] := by
              intro e
              rw [e] at k9
              cases k9
            have : ¬ vw σ b 14 i = vw σ b 13 (i + 1) := by
              have : 0 < (stW w (w (927 + i)) (w (943 + i))).length := by
                cases h : stW w (w (927 + i)) (w (943 + i)) with
                | nil => exact absurd h hne
                | cons a l => simp
              omega
            rw [if_neg this, grd_pos ⟨hi, by omega⟩, grd_pos ⟨by omega, by omega⟩, wp_bind]
            refine wp_mono (run_cw hf (x := vw σ b 14 i) (y := vw σ b 13 (i + 1)) (p := w (927 + i)) (q := w (943 + i)) (by omega) (by omega) (by rw [e11]; exact k7) k9 e15) (fun r hr => ?_)
            by_cases h0 : r.1 = 0
            · rw [if_pos h0, if_neg (by intro z; rcases z.2 with z | z
                                        · exact he z
                                        · exact z (hr.1 ▸ h0))]
              exact ih (i + 1) n r.2 (by omega) (by omega) (by omega) (hFr.tr hr.2)
            · rw [if_neg h0, if_pos ⟨hw, Or.inr (fun z => h0 (hr.1.trans z))⟩]
              exact hrun r.2 hr.2
        · rw [if_neg (by omega), if_neg (fun z => hw z.1)]
          exact ih (i + 1) n τ (by omega) (by omega) (by omega) hFr
  exact key (w 86).toNat 0 FU σ (by omega) (by omega) (by unfold FU; omega) Fr.rf
theorem isSo_m {w fc : Int → Int} (hf : ∀ i, bw (fc i) = fc i) {g : Nat → Int → Int} {i : Int} {σ : Sg} (hw : rd σ 85 = w) (h0 : 0 ≤ i) (h1 : i < 16) (k : LL w g i) (hF : ∀ j : Int, 1 ≤ j → j ≤ 10 → rd σ 94 j = fc j) : wp (fX11_isSo i σ) (fun r => r.1 = (if w (943 + i) = w (927 + i) ∨ evW w fc (w (927 + i)) (w (943 + i)) ≠ 0 then 1 else 0) ∧ Fr [93] σ r.2) := by
  obtain ⟨-, -, -, k4, -, -, -, k8⟩ := k
  unfold fX11_isSo
  rw [bw_id (z := 943 + i) (by omega) (by omega), bw_id (z := 927 + i) (by omega) (by omega), grd_pos (by omega), grd_pos (by omega), hw]
  by_cases he : w (943 + i) = w (927 + i)
  · rw [if_pos he, if_pos (Or.inl he), wp_some]
    exact ⟨rfl, Fr.rf⟩
  · have k9 := k8.resolve_left he
    rw [if_neg he, grd_pos (by omega), grd_pos (by omega), wp_bind]
    refine wp_mono (run_mw hf hw (by omega) (by omega) (by omega) k9 hF) (fun r hr => ?_)
    have h01 := (evW_of hf k9).2 rfl
    rw [hr.1]
    by_cases h2 : evW w fc (w (927 + i)) (w (943 + i)) = 1
    · rw [if_pos h2, wp_some, if_pos (Or.inr (by omega))]
      exact ⟨rfl, hr.2⟩
    · rw [if_neg h2, wp_some, if_neg (by intro z; rcases z with z | z <;> omega)]
      exact ⟨rfl, hr.2⟩
theorem says_m {w fc : Int → Int} (hf : ∀ i, bw (fc i) = fc i) {g : Nat → Int → Int} {word other most : Int} {σ : Sg} (hw : rd σ 85 = w) (hL : LR w g) (hF : ∀ j : Int, 1 ≤ j → j ≤ 10 → rd σ 94 j = fc j) : wp (fX11_says word other most σ) (fun r => r.1 = sayW w fc word other most ∧ Fr [93] σ r.2) := by
  unfold fX11_says sayW
  obtain ⟨hn, h6, h7, hl⟩ := hL
  have key : ∀ (m : Nat) (i : Int) (n : Nat) (τ : Sg), 0 ≤ i → i + m = w 86 → m < n → Fr [93] σ τ → wp (fX11_says_L3 (fun v5_4 s5 => grd ((0 : Int) ≤ (bw (911 + v5_4)) ∧ (bw (911 + v5_4)) < 1796) (grd ((0 : Int) ≤ (bw (927 + v5_4)) ∧ (bw (927 + v5_4)) < 1796) ((fX11_comesTo 0 (rd s5 85 (bw (911 + v5_4))) (rd s5 85 (bw (927 + v5_4))) s5).bind fun q6 => some ((fX11_greater 0 (fX11_lesser most q6.1)), q6.2)))) (fun s9 => some ((fX11_greater 0 (fX11_lesser most other)), s9)) word other most n i τ) (fun r => r.1 = max 0 (min most (sayN w fc word other m i)) ∧ Fr [93] σ r.2) := by
    intro m
    induction m with
    | zero =>
      intro i n τ hi him hmn hFr
      have e85 : rd τ 85 = w := (funext fun j => hFr 85 j (by decide)).trans hw
      cases n with
      | zero => omega
      | succ n =>
        rw [fX11_says_L3, e85, if_neg (by omega)]
        simp only [wp_some, gre_eq, les_eq, sayN]
        exact ⟨trivial, hFr⟩
    | succ m ih =>
      intro i n τ hi him hmn hFr
      have e85 : rd τ 85 = w := (funext fun j => hFr 85 j (by decide)).trans hw
      have e94 : ∀ j : Int, 1 ≤ j → j ≤ 10 → rd τ 94 j = fc j := fun j h1 h2 => (hFr 94 j (by decide)).trans (hF j h1 h2)
      cases n with
      | zero => omega
      | succ n =>
        have hll := hl i hi (by omega)
        rw [fX11_says_L3, e85, if_pos (by omega), bw_id (z := 959 + i) (by omega) (by omega), grd_pos (by omega), bw_id (z := i + 1) (by omega) (by omega), sayN]
        by_cases hwd : w (959 + i) = word
        · rw [if_pos hwd, wp_bind]
          refine wp_mono (isSo_m hf e85 hi (by omega) hll e94) (fun r hr => ?_)
          by_cases hc : w (943 + i) = w (927 + i) ∨ evW w fc (w (927 + i)) (w (943 + i)) ≠ 0
          · rw [if_pos hc] at hr
            rw [hr.1, if_neg (by decide), if_pos ⟨hwd, hc⟩]
            have e85' : rd r.2 85 = w := (funext fun j => hr.2 85 j (by decide)).trans e85
            obtain ⟨-, -, -, k4, -, ⟨t5, k6⟩, -⟩ := hll
            simp only [e85', bw_id (z := 911 + i) (by omega) (by omega), bw_id (z := 927 + i) (by omega) (by omega), wp_bind, wp_grd]
            refine ⟨by omega, by omega, ?_⟩
            refine wp_mono (run_mw hf e85' (by omega) (by omega) (by omega) k6 (fun j h1 h2 => (hr.2 94 j (by decide)).trans (e94 j h1 h2))) (fun r2 hr2 => ?_)
            simp only [wp_some, gre_eq, les_eq]
            rw [hr2.1]
            exact ⟨rfl, hFr.tr (hr.2.tr hr2.2)⟩
          · rw [if_neg hc] at hr
            rw [hr.1, if_pos rfl, if_neg (fun z => hc z.2)]
            exact ih (i + 1) n r.2 (by omega) (by omega) (by omega) (hFr.tr hr.2)
        · rw [if_neg hwd, if_neg (fun z => hwd z.1)]
          exact ih (i + 1) n τ (by omega) (by omega) (by omega) hFr
  exact key (w 86).toNat 0 FU σ (by omega) (by omega) (by unfold FU; omega) Fr.rf
