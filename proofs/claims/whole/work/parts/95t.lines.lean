/-! all of THE LAW's text, the class -/
def kF (s13 : Sg) : Option (Int × Sg) := if (rd s13 64 0) = 0 then grd ((0 : Int) ≤ (rd (wr s13 64 0 1) 64 5) ∧ (rd (wr s13 64 0 1) 64 5) < 401) (some (0, (wr (wr s13 64 0 1) 64 1 (rd (wr s13 64 0 1) 63 (rd (wr s13 64 0 1) 64 5))))) else grd ((0 : Int) ≤ (rd (wr s13 64 0 (rd s13 64 0)) 64 5) ∧ (rd (wr s13 64 0 (rd s13 64 0)) 64 5) < 401) (some (0, (wr (wr s13 64 0 (rd s13 64 0)) 64 1 (rd (wr s13 64 0 (rd s13 64 0)) 63 (rd (wr s13 64 0 (rd s13 64 0)) 64 5)))))
theorem kF_c {P : Nat → Int} {N : Nat} {s : Sg} {e : Int × Nat} (hP : ∀ j : Nat, j ≤ N → rd s 63 j = P j) (hN : N ≤ 400) (h1 : rd s 64 5 = e.2) (h2 : e.2 ≤ N) (h3 : rd s 64 0 = if e.1 = 1 then 0 else e.1) (h4 : e.1 = 1 ∨ e.1 = 2 ∨ e.1 = 3) : wp (kF s) (fun q => q.1 = 0 ∧ Fr [64] s q.2 ∧ rd q.2 64 0 = e.1 ∧ rd q.2 64 1 = P e.2) := by
  have fin : ∀ v : Int, v = e.1 → wp (grd ((0 : Int) ≤ (rd (wr s 64 0 v) 64 5) ∧ (rd (wr s 64 0 v) 64 5) < 401) (some ((0 : Int), (wr (wr s 64 0 v) 64 1 (rd (wr s 64 0 v) 63 (rd (wr s 64 0 v) 64 5)))))) (fun q => q.1 = 0 ∧ Fr [64] s q.2 ∧ rd q.2 64 0 = e.1 ∧ rd q.2 64 1 = P e.2) := by
    intro v hv
    have e5 : rd (wr s 64 0 v) 64 5 = (e.2 : Int) := by rw [rq_i (by decide)]; exact h1
    rw [e5, grd_pos (by omega), wp_some]
    refine ⟨rfl, (Fr.rf.wr (by decide)).wr (by decide), ?_, ?_⟩
    · show rd (wr (wr s 64 0 v) 64 1 _) 64 0 = _
      rw [rq_i (by decide), rq_s, hv, bw_id (by omega) (by omega)]
    · show rd (wr (wr s 64 0 v) 64 1 _) 64 1 = _
      rw [rq_s, rq_c (by decide), hP e.2 h2, ← hP e.2 h2, rd_bw]
  unfold kF
  rw [h3]
  by_cases c : e.1 = 1
  · rw [if_pos c, if_pos p00]; exact fin 1 c.symm
  · rw [if_neg c, if_neg (by omega)]; exact fin e.1 rfl
def CRd (P : Nat → Int) (σ : Sg) (r : Except (Int × Nat) (Ls × List Ln)) (o : Option (Int × Sg)) : Prop := match r with
  | .error e => wp o (fun q => q.1 = 0 ∧ Fr [64, 38, 39, 40, 41, 42] σ q.2 ∧ rd q.2 64 0 = e.1 ∧ rd q.2 64 1 = P e.2)
  | .ok a => wp o (fun q => q.1 = 1 ∧ Fr [64, 38, 39, 40, 41, 42] σ q.2 ∧ rd q.2 64 0 = 0 ∧ rd q.2 64 1 = rd σ 64 1 ∧ LCc (encL a.1) q.2 ∧ LnC a.2 a.1 q.2)
section
variable {K V P : Nat → Int} {N : Nat}
theorem lawS_c (H : HK K V N) : ∀ (n : Nat) (x2 : Int) (j : Nat) (ls : Ls) (lns : List Ln) (σ : Sg), TKs K V N σ → (∀ j : Nat, j ≤ N → rd σ 63 j = P j) → N - j < n → AtC K N σ j (encL ls) σ → (encL ls).length ≤ j → LnC lns ls σ → lns.length ≤ 16 → 0 ≤ x2 → x2 ≤ j → CRd P σ (lisA K V n j ls lns) (fX4_reads_L52 kF 0 n x2 σ)
  | 0, x2, j, ls, lns, σ, T, hP, hn, h, hb, hl, h16, y0, y1 => by omega
  | n + 1, x2, j, ls, lns, σ, T, hP, hn, h, hb, hl, h16, y0, y1 => by
    have hN := H.1
    have h5 := h.2.2.1
    rw [fX4_reads_L52, if_neg (by omega), h5.2.2, lisA]
    by_cases c : K j = 0
    · rw [if_pos c, if_pos c]
      exact ⟨_, rfl, rfl, Fr.rf, h.2.1.2.2, rfl, h.2.2.2, hl⟩
    · rw [if_neg c, if_neg c, if_pos p00]
      have hlt := H.lt h5.2.1 c
      have r := line_c H T (hn := h16) h hb hl
      have k := liA_ok H (cnt := lns.length) h5.2.1 ls
      cases e : liA K V lns.length j ls with
      | error x =>
        rw [e] at r k
        obtain ⟨⟨q1, q2⟩, o1, o2, o3, o4, o5, o6⟩ := r
        have o2 : q1 = 0 := o2
        rw [o1, Option.bind_some, o2]
        show CRd P σ (.error x) (fX4_reads_J105 (fX4_reads_L52 kF 0 n) kF 0 x2 0 q2)
        unfold fX4_reads_J105
        rw [if_pos p00]
        obtain ⟨q, w1, w2, w3, w4, w5⟩ := kF_c (P := P) (N := N) (s := q2) (e := x) (fun j hj => (o3 63 _ (by decide)).trans (hP j hj)) hN o4 o5 o6 k.1
        exact ⟨q, w1, w2, o3.tr (w3.mo (by decide)), w4, w5⟩
      | ok a =>
        rw [e] at r k
        obtain ⟨k1, k2, k3, k4, k5, k6⟩ := k
        obtain ⟨⟨q1, q2⟩, o1, o2, o3, o4, o5, o6⟩ := r
        have o2 : q1 = 1 := o2
        have o3 : Fr [64, 38, 39, 40, 41, 42] σ q2 := o3
        have o4 : rd q2 64 1 = rd σ 64 1 := o4
        rw [o1, Option.bind_some, o2]
        show CRd P σ (lisA K V n a.1 a.2.2.2.2 (lns ++ [a.2])) (fX4_reads_J105 (fX4_reads_L52 kF 0 n) kF 0 x2 1 q2)
        unfold fX4_reads_J105
        rw [if_neg n10, bw_id (z := x2 + 1) (by omega) (by omega)]
        have nx := lawS_c H n (x2 + 1) a.1 a.2.2.2.2 (lns ++ [a.2]) q2 (TKs_fr T o3 (by decide) (by decide)) (fun j hj => (o3 63 _ (by decide)).trans (hP j hj)) (by omega) o5 (by omega) o6 (by rw [List.length_append]; simp; omega) (by omega) (by omega)
        cases e2 : lisA K V n a.1 a.2.2.2.2 (lns ++ [a.2]) with
        | error x =>
          rw [e2] at nx
          obtain ⟨q, w1, w2, w3, w4, w5⟩ := nx
          exact ⟨q, w1, w2, o3.tr w3, w4, w5⟩
        | ok b =>
          rw [e2] at nx
          obtain ⟨q, w1, w2, w3, w4, w5, w6, w7⟩ := nx
          exact ⟨q, w1, w2, o3.tr w3, w4, w5.trans o4, w6, w7⟩
/-- what all lines are -/
def LsOK (ls : Ls) (lns : List Ln) : Prop := lns.length ≤ 16 ∧ ∀ i : Nat, i < lns.length → LnOK (gL lns i) ∧ ∃ rest, ls = (gL lns i).2.2.2 ++ rest
theorem lisA_ok (H : HK K V N) : ∀ (n j : Nat) (ls : Ls) (lns : List Ln), N - j < n → j ≤ N → (encL ls).length ≤ j → LsOK ls lns → match lisA K V n j ls lns with
    | .error x => (x.1 = 1 ∨ x.1 = 2 ∨ x.1 = 3) ∧ x.2 ≤ N
    | .ok a => (encL a.1).length ≤ N ∧ LsOK a.1 a.2
  | 0, j, ls, lns, hn, hj, hb, hl => by omega
  | n + 1, j, ls, lns, hn, hj, hb, hl => by
    rw [lisA]
    by_cases c : K j = 0
    · rw [if_pos c]; exact ⟨by show (encL ls).length ≤ N; omega, hl⟩
    · rw [if_neg c]
      have k := liA_ok H (cnt := lns.length) hj ls
      cases e : liA K V lns.length j ls with
      | error x =>
        rw [e] at k
        exact ⟨k.1, k.2.2⟩
      | ok a =>
        rw [e] at k
        obtain ⟨k1, k2, k3, k4, k5, k6⟩ := k
        refine lisA_ok H n a.1 a.2.2.2.2 (lns ++ [a.2]) (by omega) k2 (by omega) ⟨by have := hl.1; rw [List.length_append]; simp; omega, fun i hi => ?_⟩
        rw [List.length_append] at hi
        simp only [List.length_cons, List.length_nil] at hi
        by_cases e3 : i = lns.length
        · rw [e3, gL_1]
          exact ⟨k4, [], (List.append_nil _).symm⟩
        · rw [gL_l (by omega)]
          obtain ⟨m1, rest, m2⟩ := hl.2 i (by omega)
          obtain ⟨-, ⟨A, a1, -⟩, B, b1, -⟩ := k4
          refine ⟨m1, rest ++ A ++ B, ?_⟩
          rw [b1, a1, k3]
          conv => lhs; rw [m2]
          simp only [List.append_assoc]
end
/-! all of THE LAW's text, the model -/
def FrL (σ0 τ : Sg) : Prop := ∀ (c : Nat) (i : Int), c ≠ 90 → c ≠ 89 → ¬ (c = 84 ∧ (i = 13 ∨ i = 14 ∨ (17 ≤ i ∧ i ≤ 22) ∨ i = 24)) → rd τ c i = rd σ0 c i
theorem FrL.rf {σ : Sg} : FrL σ σ := fun _ _ _ _ _ => rfl
theorem FrL.tr {σ τ ρ : Sg} (h : FrL σ τ) (k : FrL τ ρ) : FrL σ ρ := fun c i a b d => (k c i a b d).trans (h c i a b d)
theorem FrL.fm {σ τ ρ : Sg} (h : FrL σ τ) (k : FrM τ ρ) : FrL σ ρ := fun c i a b d => (k c i a (fun q => d ⟨q.1, by omega⟩)).trans (h c i a b d)
theorem FrL.wr {σ τ : Sg} (h : FrL σ τ) {i v : Int} (hi : i = 13 ∨ i = 14 ∨ (17 ≤ i ∧ i ≤ 22) ∨ i = 24) : FrL σ (wr τ 84 i v) := fun c j a b d => by
  rw [rd_wr, if_neg (fun q => d ⟨q.1, by rw [q.2]; exact hi⟩)]
  exact h c j a b d
theorem frl9 {σ τ : Sg} (h : FrL σ τ) {i v : Int} : FrL σ (wr τ 89 i v) := fun c j a b d => by
  rw [rd_wr, if_neg (fun q => b q.1)]
  exact h c j a b d
def LnM (lns : List Ln) (τ : Sg) : Prop := ∀ i : Nat, i < lns.length → rd τ 89 (4 * (i : Int)) = (gL lns i).2.1.length ∧ rd τ 89 (4 * (i : Int) + 1) = (gL lns i).2.2.1.length ∧ rd τ 89 (4 * (i : Int) + 2) = (gL lns i).2.2.2.length ∧ rd τ 89 (4 * (i : Int) + 3) = (gL lns i).1
section
variable {t : Int → Int} {z : Int} {N : Nat}
theorem AtM_base {σ0 : Sg} {d : Int} {j : Nat} {ls : Ls} {τ : Sg} (h : AtM t z N σ0 d j ls τ) : AtM t z N τ d j ls τ := ⟨FrM.rf, h.2⟩
theorem AtM_w {σ0 : Sg} {d : Int} {j : Nat} {ls : Ls} {τ : Sg} {i v : Int} (h : AtM t z N σ0 d j ls τ) : AtM t z N (wr τ 89 i v) d j ls (wr τ 89 i v) := by
  obtain ⟨-, ⟨a2, a3, a4⟩, ⟨a5, a6⟩, a7⟩ := h
  refine ⟨FrM.rf, ⟨⟨?_, ?_, fun i a b => ?_⟩, ⟨?_, ?_, ?_, fun q => ?_⟩, ?_⟩, ⟨?_, fun i hi => ?_⟩, a7⟩
  · rw [rq_c (by decide)]; exact a2.1
  · rw [rq_c (by decide)]; exact a2.2.1
  · rw [rq_c (by decide)]; exact a2.2.2 i a b
  · rw [rq_c (by decide)]; exact a3.1
  · rw [rq_c (by decide)]; exact a3.2.1
  · rw [rq_c (by decide)]; exact a3.2.2.1
  · rw [rq_c (by decide)]; exact a3.2.2.2 q
  · rw [rq_c (by decide)]; exact a4
  · rw [rq_c (by decide)]; exact a5
  · rw [rq_c (by decide), rq_c (by decide)]; exact a6 i hi
theorem AtM_13 {σ0 : Sg} {d : Int} {j : Nat} {ls : Ls} {τ : Sg} {v : Int} (h : AtM t z N σ0 d j ls τ) : AtM t z N (wr τ 84 13 v) d j ls (wr τ 84 13 v) := by
  obtain ⟨-, ⟨a2, a3, a4⟩, ⟨a5, a6⟩, a7⟩ := h
  refine ⟨FrM.rf, ⟨⟨?_, ?_, fun i a b => ?_⟩, ⟨?_, ?_, ?_, fun q => ?_⟩, ?_⟩, ⟨?_, fun i hi => ?_⟩, a7⟩
  · rw [rq_i (by decide)]; exact a2.1
  · rw [rq_i (by decide)]; exact a2.2.1
  · rw [rq_c (by decide)]; exact a2.2.2 i a b
  · rw [rq_i (by decide)]; exact a3.1
  · rw [rq_i (by decide)]; exact a3.2.1
  · rw [rq_i (by decide)]; exact a3.2.2.1
  · rw [rq_i (by decide)]; exact a3.2.2.2 q
  · rw [rq_i (by decide)]; exact a4
  · rw [rq_i (by decide)]; exact a5
  · rw [rq_c (by decide), rq_c (by decide)]; exact a6 i hi
def MLi (t : Int → Int) (z : Int) (N : Nat) (lns : List Ln) (σ : Sg) (r : Except (Int × Nat) (Nat × Ln)) (o : Option (Int × Sg)) : Prop := match r with
  | .error e => wp o (fun q => q.1 = 0 ∧ FrL σ q.2 ∧ rd q.2 84 21 = e.1 ∧ rd q.2 84 22 = pT t z e.2)
  | .ok a => wp o (fun q => q.1 = 1 ∧ FrL σ q.2 ∧ AtM t z N q.2 0 a.1 a.2.2.2.2 q.2 ∧ rd q.2 84 13 = lns.length ∧ LnM (lns ++ [a.2]) q.2)
theorem line_m (hO : TO t z) (H : HK (kT t z) (vT t z) N) {d : Int} {j : Nat} {ls : Ls} {lns : List Ln} (h16 : lns.length ≤ 16) {σ : Sg} (h : AtM t z N σ d j ls σ) (hb : (encL ls).length ≤ j) (h13 : rd σ 84 13 = lns.length) (hl : LnM lns σ) : MLi t z N lns σ (liA (kT t z) (vT t z) lns.length j ls) (fX11_aLine σ) := by
  have hN := H.1
  have hj := h.2.2.2
  have tk : rd σ 84 18 = mkK 0 (kT t z j) := h.2.1.2.1.2.1
  have kr := kT_r (t := t) (z := z) j
  obtain ⟨-, -, ml, mlv, -⟩ := mk0 kr
  unfold fX11_aLine liA
  rw [tk, isIn_m]
  by_cases c : 3 ≤ kT t z j ∧ kT t z j ≤ 5
  · have hlt := H.lt hj (by omega)
    rw [if_pos (ml.mpr c), if_neg n10, if_pos c, h13]
    by_cases c2 : lns.length = 16
    · rw [if_pos (show (lns.length : Int) = 16 by omega), if_pos c2]
      obtain ⟨q, e1, e2, e3, e4, e5⟩ := bad_m (f := 3) (d2 := d) (by decide) h
      exact ⟨q, e1, e2, FrL.rf.fm e3, e4, e5⟩
    · rw [if_neg (show ¬ (lns.length : Int) = 16 by omega), if_neg c2, rq_i (by decide), h13, rq_i (by decide), tk, mlv c, bw_id (z := 4 * (lns.length : Int)) (by omega) (by omega), bw_id (z := 4 * (lns.length : Int) + 3) (by omega) (by omega), grd_pos (by omega)]
      have h0 : AtM t z N (wr σ 84 24 0) 0 j ls (wr σ 84 24 0) := AtM_base (dep_m (d2 := 0) h (by decide))
      have h1 := AtM_w (i := 4 * (lns.length : Int) + 3) (v := 17 + kT t z j) h0
      obtain ⟨s6, p6, h6⟩ := next_at hO h1 hlt
      have f1 : FrL σ (wr (wr σ 84 24 0) 89 (4 * (lns.length : Int) + 3) (17 + kT t z j)) := frl9 (FrL.rf.wr (by omega))
      have f6 : FrL σ s6 := f1.fm h6.1
      have c13 : ∀ τ, FrM (wr (wr σ 84 24 0) 89 (4 * (lns.length : Int) + 3) (17 + kT t z j)) τ → rd τ 84 13 = lns.length := fun τ f => by
        rw [f 84 13 (by decide) (by omega), rq_c (by decide), rq_i (by decide)]; exact h13
      rw [p6, Option.bind_some, c13 s6 h6.1, bw_id (z := 4 * (lns.length : Int)) (by omega) (by omega), grd_pos (by omega), h6.2.2.1.1]
      have h7 := AtM_w (i := 4 * (lns.length : Int)) (v := (ls.length : Int)) h6
      have f7 : FrL σ (wr s6 89 (4 * (lns.length : Int)) (ls.length : Int)) := frl9 f6
      have ll := encL_le ls
      have r2 := suA_m hO H h7 (by omega)
      have k2 := TyA_suA H (show j + 1 ≤ N from hlt) ls
      cases e2 : suA (kT t z) (vT t z) (j + 1) ls with
      | error x =>
        rw [e2] at r2
        obtain ⟨⟨q1, q2⟩, o1, o2, o3, o4, o5⟩ := r2
        have o2 : q1 = 0 := o2
        rw [o1, Option.bind_some, o2]
        exact ⟨_, rfl, rfl, f7.fm o3, o4, o5⟩
      | ok a =>
        rw [e2] at r2 k2
        obtain ⟨k21, k22, new, k23, k24, k25⟩ := k2
        obtain ⟨⟨q1, s2⟩, o1, o2, h2⟩ := r2
        have o2 : q1 = 1 := o2
        have h2 : AtM t z N (wr s6 89 (4 * (lns.length : Int)) (ls.length : Int)) 0 a.1 a.2 s2 := h2
        have f2 : FrL σ s2 := f7.fm h2.1
        have d13 : ∀ τ, FrM (wr s6 89 (4 * (lns.length : Int)) (ls.length : Int)) τ → rd τ 84 13 = lns.length := fun τ f => by
          rw [f 84 13 (by decide) (by omega), rq_c (by decide)]; exact c13 s6 h6.1
        rw [o1, Option.bind_some, o2]
        show MLi t z N lns σ _ (if (1 : Int) = 0 then _ else grd ((0 : Int) ≤ (bw ((bw (4 * (rd s2 84 13))) + 1)) ∧ (bw ((bw (4 * (rd s2 84 13))) + 1)) < 64) (if (rd (wr s2 89 (bw ((bw (4 * (rd s2 84 13))) + 1)) (rd s2 84 14)) 84 18) = 3 then (fX11_next0 (wr s2 89 (bw ((bw (4 * (rd s2 84 13))) + 1)) (rd s2 84 14))).bind fun s11 => (fX11_any 40 s11).bind fun q12 => if q12.1 = 0 then some (0, q12.2) else fX11_aLine_J123 q12.2 else fX11_aLine_J123 (wr s2 89 (bw ((bw (4 * (rd s2 84 13))) + 1)) (rd s2 84 14))))
        rw [if_neg n10, d13 s2 h2.1, bw_id (z := 4 * (lns.length : Int)) (by omega) (by omega), bw_id (z := 4 * (lns.length : Int) + 1) (by omega) (by omega), grd_pos (by omega), h2.2.2.1.1]
        have h3 := AtM_w (i := 4 * (lns.length : Int) + 1) (v := (a.2.length : Int)) h2
        have f3 : FrL σ (wr s2 89 (4 * (lns.length : Int) + 1) (a.2.length : Int)) := frl9 f2
        have lena : (encL a.2).length ≤ a.1 := by
          rw [k23, encL_app, List.length_append]; omega
        have tk3 : rd (wr s2 89 (4 * (lns.length : Int) + 1) (a.2.length : Int)) 84 18 = mkK 0 (kT t z a.1) := h3.2.1.2.1.2.1
        obtain ⟨⟨-, -, m3, -⟩, -⟩ := mk0 (kT_r (t := t) (z := z) a.1)
        have fin : ∀ (b : Nat × Ls) (s : Sg), AtM t z N (wr s2 89 (4 * (lns.length : Int) + 1) (a.2.length : Int)) 0 b.1 b.2 s → (encL b.2).length ≤ b.1 → MLi t z N lns σ (if kT t z b.1 = 59 then .ok (b.1 + 1, (kT t z j + 17, ls, a.2, b.2)) else .error (1, b.1)) (fX11_aLine_J123 s) := by
          intro b s hs hbb
          have fs : FrL σ s := f3.fm hs.1
          have e13 : rd s 84 13 = lns.length := by
            rw [hs.1 84 13 (by decide) (by omega), rq_c (by decide)]; exact d13 s2 h2.1
          have llb := encL_le b.2
          have hbN := hs.2.2.2
          have lla := encL_le a.2
          unfold fX11_aLine_J123
          rw [e13, bw_id (z := 4 * (lns.length : Int)) (by omega) (by omega), bw_id (z := 4 * (lns.length : Int) + 2) (by omega) (by omega), grd_pos (by omega), hs.2.2.1.1]
          have h4 := AtM_w (i := 4 * (lns.length : Int) + 2) (v := (b.2.length : Int)) hs
          have f4 : FrL σ (wr s 89 (4 * (lns.length : Int) + 2) (b.2.length : Int)) := frl9 fs
          obtain ⟨-, ⟨-, -, -, -, -, -, m59, -⟩, -⟩ := mk0 (kT_r (t := t) (z := z) b.1)
          have r := need_m hO H h4 m59 (by decide)
          unfold clA at r
          by_cases c3 : kT t z b.1 = 59
          · rw [if_pos c3] at r ⊢
            obtain ⟨⟨q1, q2⟩, o1, o2, o3⟩ := r
            have o2 : q1 = 1 := o2
            have o3 : AtM t z N (wr s 89 (4 * (lns.length : Int) + 2) (b.2.length : Int)) 0 (b.1 + 1) b.2 q2 := o3
            rw [o1, Option.bind_some, o2]
            have g89 : ∀ q : Int, rd q2 89 q = rd (wr (wr (wr (wr σ 89 (4 * (lns.length : Int) + 3) (17 + kT t z j)) 89 (4 * (lns.length : Int)) (ls.length : Int)) 89 (4 * (lns.length : Int) + 1) (a.2.length : Int)) 89 (4 * (lns.length : Int) + 2) (b.2.length : Int)) 89 q := fun q => by
              rw [o3.1 89 _ (by decide) (by omega), rd_wr, rd_wr, hs.1 89 _ (by decide) (by omega), rd_wr, rd_wr, h2.1 89 _ (by decide) (by omega), rd_wr, rd_wr, h6.1 89 _ (by decide) (by omega), rd_wr, rd_wr, rd_wr, if_neg (show ¬ ((89 : Nat) = 84 ∧ q = 24) by omega)]
            refine ⟨_, rfl, rfl, f4.fm o3.1, AtM_base o3, ?_, fun i hi => ?_⟩
            · show rd q2 84 13 = _
              rw [o3.1 84 13 (by decide) (by omega), rq_c (by decide)]; exact e13
            · rw [List.length_append] at hi
              simp only [List.length_cons, List.length_nil] at hi
              show rd q2 89 _ = _ ∧ rd q2 89 _ = _ ∧ rd q2 89 _ = _ ∧ rd q2 89 _ = _
              rw [g89, g89, g89, g89]
              by_cases e : i = lns.length
              · rw [e, gL_1]
                refine ⟨?_, ?_, ?_, ?_⟩
                · rw [rq_i (by omega), rq_i (by omega), rq_s, bw_id (by omega) (by omega)]
                · rw [rq_i (by omega), rq_s, bw_id (by omega) (by omega)]
                · rw [rq_s, bw_id (by omega) (by omega)]
                · rw [rq_i (by omega), rq_i (by omega), rq_i (by omega), rq_s, bw_id (by omega) (by omega)]
                  show 17 + kT t z j = kT t z j + 17
                  omega
              · obtain ⟨w1, w2, w3, w4⟩ := hl i (by omega)
                rw [gL_l (by omega)]
                refine ⟨?_, ?_, ?_, ?_⟩
                · rw [rq_i (by omega), rq_i (by omega), rq_i (by omega), rq_i (by omega)]; exact w1
                · rw [rq_i (by omega), rq_i (by omega), rq_i (by omega), rq_i (by omega)]; exact w2
                · rw [rq_i (by omega), rq_i (by omega), rq_i (by omega), rq_i (by omega)]; exact w3
                · rw [rq_i (by omega), rq_i (by omega), rq_i (by omega), rq_i (by omega)]; exact w4
          · rw [if_neg c3] at r ⊢
            obtain ⟨⟨q1, q2⟩, o1, o2, o3, o4, o5⟩ := r
            have o2 : q1 = 0 := o2
            rw [o1, Option.bind_some, o2]
            exact ⟨_, rfl, rfl, f4.fm o3, o4, o5⟩
        show MLi t z N lns σ (match whA (kT t z) (vT t z) a.1 a.2 with
          | .error e => .error e
          | .ok b => if kT t z b.1 = 59 then .ok (b.1 + 1, (kT t z j + 17, ls, a.2, b.2)) else .error (1, b.1)) _
        unfold whA
        rw [tk3]
        by_cases c6 : kT t z a.1 = 6
        · have hl6 := H.lt k22 (by omega)
          rw [if_pos (m3.mpr c6), if_pos c6]
          obtain ⟨s3, p3, h33⟩ := next_at hO h3 hl6
          rw [p3, Option.bind_some]
          have r4 := bA_m hO H h33 (by omega)
          have k4 := TyF_anA H (TyF_onA H 8) (a.1 + 1) a.2 hl6
          cases e4 : anA (kT t z) (onA (kT t z) (vT t z) 8) (a.1 + 1) a.2 with
          | error x =>
            rw [e4] at r4
            obtain ⟨⟨q1, q2⟩, o1, o2, o3, o4, o5⟩ := r4
            have o2 : q1 = 0 := o2
            rw [o1, Option.bind_some, o2]
            exact ⟨_, rfl, rfl, f3.fm o3, o4, o5⟩
          | ok b =>
            rw [e4] at r4 k4
            obtain ⟨k41, k42, nw4, k43, k44, k45⟩ := k4
            obtain ⟨⟨q1, s4⟩, o1, o2, h4⟩ := r4
            have o2 : q1 = 1 := o2
            rw [o1, Option.bind_some, o2]
            show MLi t z N lns σ _ (if (1 : Int) = 0 then _ else fX11_aLine_J123 s4)
            rw [if_neg n10]
            exact fin b s4 h4 (by rw [k43, encL_app, List.length_append]; omega)
        · rw [if_neg (fun q => c6 (m3.mp q)), if_neg c6]
          exact fin a _ h3 lena
  · rw [if_neg (fun q => c (ml.mp q)), if_pos p00, if_neg c]
    obtain ⟨q, e1, e2, e3, e4, e5⟩ := bad_m (f := 1) (d2 := d) (by decide) h
    exact ⟨q, e1, e2, FrL.rf.fm e3, e4, e5⟩
def MRd (t : Int → Int) (z : Int) (σ : Sg) (r : Except (Int × Nat) (Ls × List Ln)) (o : Option (Int × Sg)) : Prop := match r with
  | .error e => wp o (fun q => q.1 = 0 ∧ FrL σ q.2 ∧ rd q.2 84 21 = e.1 ∧ rd q.2 84 22 = pT t z e.2)
  | .ok a => wp o (fun q => q.1 = 1 ∧ FrL σ q.2 ∧ LM a.1 q.2 ∧ rd q.2 84 13 = a.2.length ∧ LnM a.2 q.2)
theorem lawS_m (hO : TO t z) (H : HK (kT t z) (vT t z) N) : ∀ (n j : Nat) (d : Int) (ls : Ls) (lns : List Ln) (σ : Sg), N - j < n → AtM t z N σ d j ls σ → (encL ls).length ≤ j → rd σ 84 13 = lns.length → LnM lns σ → lns.length ≤ 16 → MRd t z σ (lisA (kT t z) (vT t z) n j ls lns) (fX11_readsLaw_L12 n 1 σ)
  | 0, j, d, ls, lns, σ, hn, h, hb, h13, hl, h16 => by omega
  | n + 1, j, d, ls, lns, σ, hn, h, hb, h13, hl, h16 => by
    have hN := H.1
    have hj := h.2.2.2
    have tk : rd σ 84 18 = mkK 0 (kT t z j) := h.2.1.2.1.2.1
    obtain ⟨⟨m0, -⟩, -⟩ := mk0 (kT_r (t := t) (z := z) j)
    rw [fX11_readsLaw_L12, if_neg n10, tk, lisA]
    by_cases c : kT t z j = 0
    · rw [if_pos (m0.mpr c), if_pos c]
      exact ⟨_, rfl, rfl, FrL.rf, h.2.2.1, h13, hl⟩
    · rw [if_neg (fun q => c (m0.mp q)), if_neg c]
      have hlt := H.lt hj c
      have r := line_m hO H h16 h hb h13 hl
      have k := liA_ok H (cnt := lns.length) hj ls
      cases e : liA (kT t z) (vT t z) lns.length j ls with
      | error x =>
        rw [e] at r
        obtain ⟨⟨q1, q2⟩, o1, o2, o3, o4, o5⟩ := r
        have o2 : q1 = 0 := o2
        have o3 : FrL σ q2 := o3
        have o4 : rd q2 84 21 = x.1 := o4
        have o5 : rd q2 84 22 = pT t z x.2 := o5
        rw [o1, Option.bind_some, o2]
        show MRd t z σ (.error x) (if (0 : Int) = 0 then fX11_readsLaw_L12 n 0 (wr q2 84 13 (bw ((rd q2 84 13) + 0))) else _)
        rw [if_pos p00]
        cases n with
        | zero => omega
        | succ n =>
          rw [fX11_readsLaw_L12, if_pos p00]
          refine ⟨_, rfl, rfl, o3.wr (by omega), ?_, ?_⟩
          · show rd (wr q2 84 13 _) 84 21 = _
            rw [rq_i (by decide)]; exact o4
          · show rd (wr q2 84 13 _) 84 22 = _
            rw [rq_i (by decide)]; exact o5
      | ok a =>
        rw [e] at r k
        obtain ⟨k1, k2, k3, k4, k5, k6⟩ := k
        obtain ⟨⟨q1, q2⟩, o1, o2, o3, o4, o5, o6⟩ := r
        have o2 : q1 = 1 := o2
        have o3 : FrL σ q2 := o3
        have o5 : rd q2 84 13 = lns.length := o5
        rw [o1, Option.bind_some, o2]
        show MRd t z σ (lisA (kT t z) (vT t z) n a.1 a.2.2.2.2 (lns ++ [a.2])) (if (1 : Int) = 0 then _ else fX11_readsLaw_L12 n 1 (wr q2 84 13 (bw ((rd q2 84 13) + 1))))
        rw [if_neg n10, o5, bw_id (z := (lns.length : Int) + 1) (by omega) (by omega)]
        have nx := lawS_m hO H n a.1 0 a.2.2.2.2 (lns ++ [a.2]) (wr q2 84 13 ((lns.length : Int) + 1)) (by omega) (AtM_13 o4) (by omega) (by rw [rq_s, bw_id (by omega) (by omega), List.length_append]; simp) (fun i hi => by rw [rq_c (by decide), rq_c (by decide), rq_c (by decide), rq_c (by decide)]; exact o6 i hi) (by rw [List.length_append]; simp; omega)
        have fr : FrL σ (wr q2 84 13 ((lns.length : Int) + 1)) := o3.wr (by omega)
        cases e2 : lisA (kT t z) (vT t z) n a.1 a.2.2.2.2 (lns ++ [a.2]) with
        | error x =>
          rw [e2] at nx
          obtain ⟨q, w1, w2, w3, w4, w5⟩ := nx
          exact ⟨q, w1, w2, fr.tr w3, w4, w5⟩
        | ok b =>
          rw [e2] at nx
          obtain ⟨q, w1, w2, w3, w4, w5, w6⟩ := nx
          exact ⟨q, w1, w2, fr.tr w3, w4, w5, w6⟩
end
