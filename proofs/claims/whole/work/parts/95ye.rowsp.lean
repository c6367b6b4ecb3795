/-! all rows, the model -/
def FrK (σ τ : Sg) : Prop := ∀ (c : Nat) (i : Int), c ≠ 91 → ¬ (c = 84 ∧ (i = 15 ∨ (17 ≤ i ∧ i ≤ 22))) → rd τ c i = rd σ c i
theorem FrK.rf {σ : Sg} : FrK σ σ := fun _ _ _ _ => rfl
theorem FrK.tr {σ τ ρ : Sg} (h : FrK σ τ) (k : FrK τ ρ) : FrK σ ρ := fun c i a b => (k c i a b).trans (h c i a b)
theorem FrK.fn {σ τ ρ : Sg} (h : FrK σ τ) (k : FrN τ ρ) : FrK σ ρ := fun c i a b => (k c i a (fun q => b ⟨q.1, Or.inr q.2⟩)).trans (h c i a b)
theorem FrK.w15 {σ τ : Sg} (h : FrK σ τ) {v : Int} : FrK σ (wr τ 84 15 v) := fun c j a b => by
  rw [rd_wr, if_neg (fun q => b ⟨q.1, Or.inl q.2⟩)]
  exact h c j a b
theorem FrT.fk {σ τ ρ : Sg} (h : FrT σ τ) (k : FrK τ ρ) : FrT σ ρ := fun c i a b d e => (k c i d (fun q => e ⟨q.1, by omega⟩)).trans (h c i a b d e)
def RoM (k : Int) (rs : List Rw) (m : Int → Int) : Prop := ∀ i : Nat, i < rs.length → if k = 1 then m (4 * (i : Int)) = (gR rs i).1 ∧ m (4 * (i : Int) + 1) = (gR rs i).2.1 ∧ m (4 * (i : Int) + 2) = (gR rs i).2.2.1 ∧ m (4 * (i : Int) + 3) = (gR rs i).2.2.2 else if k = 2 then m (2 * (i : Int)) = (gR rs i).1 ∧ m (2 * (i : Int) + 1) = (gR rs i).2.1 else m (3 * (i : Int)) = (gR rs i).1 ∧ m (3 * (i : Int) + 1) = (gR rs i).2.1 ∧ m (3 * (i : Int) + 2) = (gR rs i).2.2.1
theorem RoM_add {k : Int} {rs : List Rw} {m : Int → Int} {r : Rw} (h : RoM k rs m) : RoM k (rs ++ [r]) (rowM k rs.length m r) := by
  intro i hi
  rw [List.length_append] at hi
  simp only [List.length_cons, List.length_nil] at hi
  unfold rowM
  have ho : i ≠ rs.length → _ := fun e => h i (by omega)
  by_cases c1 : k = 1
  · rw [if_pos c1, if_pos c1]
    by_cases e : i = rs.length
    · rw [e, gR_1]
      refine ⟨?_, ?_, ?_, ?_⟩
      · rw [upz_n (by omega), upz_n (by omega), upz_n (by omega), upz_s]
      · rw [upz_n (by omega), upz_n (by omega), upz_s]
      · rw [upz_n (by omega), upz_s]
      · rw [upz_s]
    · have q := ho e
      rw [if_pos c1] at q
      rw [gR_l (by omega)]
      obtain ⟨q1, q2, q3, q4⟩ := q
      refine ⟨?_, ?_, ?_, ?_⟩
      · rw [upz_n (by omega), upz_n (by omega), upz_n (by omega), upz_n (by omega)]; exact q1
      · rw [upz_n (by omega), upz_n (by omega), upz_n (by omega), upz_n (by omega)]; exact q2
      · rw [upz_n (by omega), upz_n (by omega), upz_n (by omega), upz_n (by omega)]; exact q3
      · rw [upz_n (by omega), upz_n (by omega), upz_n (by omega), upz_n (by omega)]; exact q4
  · rw [if_neg c1, if_neg c1]
    by_cases c2 : k = 2
    · rw [if_pos c2, if_pos c2]
      by_cases e : i = rs.length
      · rw [e, gR_1]
        refine ⟨?_, ?_⟩
        · rw [upz_n (by omega), upz_s]
        · rw [upz_s]
      · have q := ho e
        rw [if_neg c1, if_pos c2] at q
        rw [gR_l (by omega)]
        obtain ⟨q1, q2⟩ := q
        refine ⟨?_, ?_⟩
        · rw [upz_n (by omega), upz_n (by omega)]; exact q1
        · rw [upz_n (by omega), upz_n (by omega)]; exact q2
    · rw [if_neg c2, if_neg c2]
      by_cases e : i = rs.length
      · rw [e, gR_1]
        refine ⟨?_, ?_, ?_⟩
        · rw [upz_n (by omega), upz_n (by omega), upz_s]
        · rw [upz_n (by omega), upz_s]
        · rw [upz_s]
      · have q := ho e
        rw [if_neg c1, if_neg c2] at q
        rw [gR_l (by omega)]
        obtain ⟨q1, q2, q3⟩ := q
        refine ⟨?_, ?_, ?_⟩
        · rw [upz_n (by omega), upz_n (by omega), upz_n (by omega)]; exact q1
        · rw [upz_n (by omega), upz_n (by omega), upz_n (by omega)]; exact q2
        · rw [upz_n (by omega), upz_n (by omega), upz_n (by omega)]; exact q3
def begK (k : Int) : Int := if k = 1 then 20 else if k = 2 then 22 else 23
def begM (k : Int) : Int := if k = 1 then 7 else if k = 2 then 9 else 11
theorem beg_mk {k c : Int} (hk : k = 1 ∨ k = 2 ∨ k = 3) (h : 0 ≤ c ∧ c ≤ 62) : mkK k c = begM k ↔ c = begK k := by
  rcases hk with rfl | rfl | rfl
  · exact (mk_1 h).1
  · exact (mk_2 h).1
  · exact (mk_3 h).1
section
variable {t : Int → Int} {z : Int} {N : Nat} {w : Int → Int}
theorem liR_be {K V : Nat → Int} {k : Int} {n j : Nat} (hb : beF K (begK k) (capR k) n j ≠ 0) : liR K V w k n j = .error (beF K (begK k) (capR k) n j, j) := by
  unfold liR begK capR at *
  by_cases c1 : k = 1
  · simp only [if_pos c1] at hb ⊢
    unfold voA ck
    rw [if_neg hb]
  · simp only [if_neg c1] at hb ⊢
    by_cases c2 : k = 2
    · simp only [if_pos c2] at hb ⊢
      unfold weA ck
      rw [if_neg hb]
    · simp only [if_neg c2] at hb ⊢
      unfold waA ck
      rw [if_neg hb]
theorem li_m {k : Int} (hk : k = 1 ∨ k = 2 ∨ k = 3) (hO : TO t z) (H : HK (kT t z) (vT t z) N) (hW : Wf w) {σ : Sg} (hw : rd σ 85 = w) {n j : Nat} {m : Int → Int} (h : AtN t z k N σ j m σ) (h15 : rd σ 84 15 = n) (hb : beF (kT t z) (begK k) (capR k) n j = 0) : MR t z k N σ (mapR (liR (kT t z) (vT t z) w k n j) (rowM k n m)) (fX11_aRow σ) := by
  unfold fX11_aRow
  rw [h.2.1.2.1]
  rcases hk with rfl | rfl | rfl
  · exact vo_m hO H hW hw h h15 hb
  · exact we_m hO H h h15 hb
  · exact wa_m hO H hW hw h h15 hb
def MRr (t : Int → Int) (z k : Int) (σ : Sg) (r : Except (Int × Nat) (List Rw)) (o : Option (Int × Sg)) : Prop := match r with
  | .error e => wp o (fun q => q.1 = 0 ∧ FrK σ q.2 ∧ rd q.2 84 21 = e.1 ∧ rd q.2 84 22 = pT t z e.2)
  | .ok rs => wp o (fun q => q.1 = 1 ∧ FrK σ q.2 ∧ rd q.2 84 15 = rs.length ∧ RoM k rs (rd q.2 91))
theorem rowsL_m {k : Int} (hk : k = 1 ∨ k = 2 ∨ k = 3) (hO : TO t z) (H : HK (kT t z) (vT t z) N) (hW : Wf w) : ∀ (m j : Nat) (rs : List Rw) (σ : Sg), N - j < m → AtN t z k N σ j (rd σ 91) σ → rd σ 85 = w → rd σ 84 15 = rs.length → RoM k rs (rd σ 91) → (rs.length : Int) ≤ capR k → MRr t z k σ (rowsA (kT t z) (vT t z) w k m j rs) (fX11_readsRows_L36 (fun s8 => (fX11_bad 1 s8).bind fun q9 => some (q9.1, q9.2)) (fun s10 => (fX11_bad 3 s10).bind fun q11 => some (q11.1, q11.2)) (begM k) m 1 σ)
  | 0, j, rs, σ, hn, h, hw, h15, hr, hcap => by omega
  | m + 1, j, rs, σ, hn, h, hw, h15, hr, hcap => by
    have hN := H.1
    have hj := h.2.2.2.1
    have tk : rd σ 84 18 = mkK k (kT t z j) := h.2.2.1.2.1
    have kr := kT_r (t := t) (z := z) j
    have hk3 : 0 ≤ k ∧ k ≤ 3 := by omega
    have m0 := (mk_num hk3 kr).2.1
    have mb := beg_mk hk kr
    rw [fX11_readsRows_L36, if_neg n10, tk, rowsA]
    by_cases c : kT t z j = 0
    · rw [if_pos (m0.mpr c), if_pos c]
      exact ⟨_, rfl, rfl, FrK.rf, h15, hr⟩
    · rw [if_neg (fun q => c (m0.mp q)), if_neg c]
      have hlt := H.lt hj c
      by_cases cb : kT t z j = begK k
      · rw [if_pos (mb.mpr cb), h.2.1.2.1, h15]
        have eJ : ∀ A B : Option (Int × Sg), ∀ f : Int → Option (Int × Sg), (if k = 1 then f 16 else f 12) = f (capR k) := fun _ _ f => by
          unfold capR
          split <;> rfl
        rw [eJ none none (fun y => fX11_readsRows_J80 (fX11_readsRows_L36 (fun s8 => (fX11_bad 1 s8).bind fun q9 => some (q9.1, q9.2)) (fun s10 => (fX11_bad 3 s10).bind fun q11 => some (q11.1, q11.2)) (begM k) m) (fun s10 => (fX11_bad 3 s10).bind fun q11 => some (q11.1, q11.2)) (begM k) (rs.length : Int) y σ)]
        unfold fX11_readsRows_J80
        by_cases cc : (rs.length : Int) = capR k
        · rw [if_pos cc]
          have be : beF (kT t z) (begK k) (capR k) rs.length j = 3 := by unfold beF; rw [if_pos cb, if_neg (by omega)]
          rw [liR_be (by rw [be]; decide), be]
          obtain ⟨q, w1, w2, w3, w4, w5⟩ := badN_m (f := 3) (by decide) h
          exact ⟨q, w1, w2, FrK.rf.fn w3, w4, w5⟩
        · rw [if_neg cc]
          have be : beF (kT t z) (begK k) (capR k) rs.length j = 0 := by unfold beF; rw [if_pos cb, if_pos (by omega)]
          have r := li_m hk hO H hW hw h h15 be
          cases e : liR (kT t z) (vT t z) w k rs.length j with
          | error x =>
            rw [e] at r
            obtain ⟨⟨q1, q2⟩, o1, o2, o3, o4, o5⟩ := r
            have o2 : q1 = 0 := o2
            have o3 : FrN σ q2 := o3
            have o4 : rd q2 84 21 = x.1 := o4
            have o5 : rd q2 84 22 = pT t z x.2 := o5
            rw [o1, Option.bind_some, o2]
            show MRr t z k σ (.error x) (if (0 : Int) = 0 then fX11_readsRows_L36 _ _ (begM k) m 0 (wr q2 84 15 (bw ((rd q2 84 15) + 0))) else _)
            rw [if_pos p00]
            cases m with
            | zero => omega
            | succ m =>
              rw [fX11_readsRows_L36, if_pos p00]
              refine ⟨_, rfl, rfl, (FrK.rf.fn o3).w15, ?_, ?_⟩
              · show rd (wr q2 84 15 _) 84 21 = _
                rw [rq_i (by decide)]; exact o4
              · show rd (wr q2 84 15 _) 84 22 = _
                rw [rq_i (by decide)]; exact o5
          | ok a =>
            rw [e] at r
            have lk := liR_ok e
            obtain ⟨⟨q1, q2⟩, o1, o2, o3⟩ := r
            have o2 : q1 = 1 := o2
            have o3 : AtN t z k N σ a.1 (rowM k rs.length (rd σ 91) a.2) q2 := o3
            have e15 : rd q2 84 15 = rs.length := (o3.1 84 15 (by decide) (by omega)).trans h15
            have hc16 : capR k ≤ 16 := by unfold capR; split <;> decide
            rw [o1, Option.bind_some, o2]
            show MRr t z k σ (rowsA (kT t z) (vT t z) w k m a.1 (rs ++ [a.2])) (if (1 : Int) = 0 then _ else fX11_readsRows_L36 _ _ (begM k) m 1 (wr q2 84 15 (bw ((rd q2 84 15) + 1))))
            rw [if_neg n10, e15, bw_id (z := (rs.length : Int) + 1) (by omega) (by omega)]
            have h91 : rd (wr q2 84 15 ((rs.length : Int) + 1)) 91 = rowM k rs.length (rd σ 91) a.2 := by
              rw [← o3.2.2.2.2]
              exact funext fun i => rq_c (by decide)
            have hA : AtN t z k N (wr q2 84 15 ((rs.length : Int) + 1)) a.1 (rd (wr q2 84 15 ((rs.length : Int) + 1)) 91) (wr q2 84 15 ((rs.length : Int) + 1)) := by
              obtain ⟨-, ⟨a2, a3, a4⟩, ⟨a5, a6, a7, a8⟩, a9, a10⟩ := o3
              refine ⟨FrN.rf, ⟨?_, ?_, fun i a b => ?_⟩, ⟨?_, ?_, ?_, fun q => ?_⟩, a9, rfl⟩
              · rw [rq_i (by decide)]; exact a2
              · rw [rq_i (by decide)]; exact a3
              · rw [rq_c (by decide)]; exact a4 i a b
              · rw [rq_i (by decide)]; exact a5
              · rw [rq_i (by decide)]; exact a6
              · rw [rq_i (by decide)]; exact a7
              · rw [rq_i (by decide)]; exact a8 q
            have fr : FrK σ (wr q2 84 15 ((rs.length : Int) + 1)) := (FrK.rf.fn o3.1).w15
            have nx := rowsL_m hk hO H hW m a.1 (rs ++ [a.2]) (wr q2 84 15 ((rs.length : Int) + 1)) (by omega) hA ((funext fun i => fr 85 i (by decide) (by omega)).trans hw) (by rw [rq_s, bw_id (by omega) (by omega), List.length_append]; simp) (by rw [h91]; exact RoM_add hr) (by rw [List.length_append]; simp; omega)
            cases e2 : rowsA (kT t z) (vT t z) w k m a.1 (rs ++ [a.2]) with
            | error x =>
              rw [e2] at nx
              obtain ⟨q, w1, w2, w3, w4, w5⟩ := nx
              exact ⟨q, w1, w2, fr.tr w3, w4, w5⟩
            | ok b =>
              rw [e2] at nx
              obtain ⟨q, w1, w2, w3, w4, w5⟩ := nx
              exact ⟨q, w1, w2, fr.tr w3, w4, w5⟩
      · rw [if_neg (fun q => cb (mb.mp q))]
        have be : beF (kT t z) (begK k) (capR k) rs.length j = 1 := by unfold beF; rw [if_neg cb]
        rw [liR_be (by rw [be]; decide), be]
        obtain ⟨q, w1, w2, w3, w4, w5⟩ := badN_m (f := 1) (by decide) h
        exact ⟨q, w1, w2, FrK.rf.fn w3, w4, w5⟩
end
theorem puts_m {x1 x2 x3 e : Int} {n : Nat} {σ : Sg} (h15 : rd σ 84 15 = n) (he : x3 * (n : Int) = e) (he2 : 0 ≤ e ∧ e ≤ 64) (h1 : 0 ≤ x1 ∧ x1 < 1796) (h2 : 0 ≤ x2 ∧ x2 < 1000) (h12 : x1 < x2) (hn : n ≤ 64) : wp (fX11_puts x1 x2 x3 σ) (fun r => r.1 = n ∧ Fr [85] σ r.2 ∧ rd r.2 85 x1 = n ∧ (∀ j : Int, j ≠ x1 → (j < x2 ∨ x2 + e ≤ j) → rd r.2 85 j = rd σ 85 j) ∧ ∀ q : Int, 0 ≤ q → q < e → rd r.2 85 (x2 + q) = rd σ 91 q) := by
  unfold fX11_puts
  rw [grd_pos h1, h15]
  have f0 : Fr [85] σ (wr σ 85 x1 n) := Fr.rf.wr (by decide)
  refine loopM (F := fun m q => fX11_puts_L13 x2 x3 m q.1 q.2) (fun q : Int × Sg => (0 ≤ q.1 ∧ q.1 ≤ e) ∧ Fr [85] σ q.2 ∧ rd q.2 85 x1 = n ∧ (∀ j : Int, j ≠ x1 → (j < x2 ∨ x2 + e ≤ j) → rd q.2 85 j = rd σ 85 j) ∧ ∀ p : Int, 0 ≤ p → p < q.1 → rd q.2 85 (x2 + p) = rd σ 91 p) (fun q => (e - q.1).toNat) ?_ FU (0, wr σ 85 x1 n) (by unfold FU; simp only; omega) ⟨by simp only; omega, f0, by simp only; rw [rq_s, bw_id (by omega) (by omega)], fun j a _ => by simp only; rw [rq_i a], fun p a b => by simp only at b; omega⟩
  rintro m ⟨i, ρ⟩ ⟨hi, hG, hx, hA, hB⟩ ih
  show wp (fX11_puts_L13 x2 x3 (m + 1) i ρ) _
  simp only at hi hG hx hA hB
  have e15 : rd ρ 84 15 = n := (hG 84 15 (by decide)).trans h15
  rw [fX11_puts_L13, e15, he, bw_id (z := e) (by omega) (by omega)]
  by_cases hl : i < e
  · rw [if_pos hl, bw_id (z := x2 + i) (by omega) (by omega), bw_id (z := i + 1) (by omega) (by omega), grd_pos (by omega), grd_pos (by omega)]
    refine ih (i + 1, wr ρ 85 (x2 + i) (rd ρ 91 i)) ⟨by simp only; omega, hG.wr (by decide), ?_, fun j a b => ?_, fun p p0 p1 => ?_⟩ (by simp only; omega)
    · simp only
      rw [rq_i (by omega)]; exact hx
    · simp only
      rw [rq_i (by omega)]; exact hA j a b
    · simp only at p1 ⊢
      by_cases e : p = i
      · rw [e, rq_s, rd_bw]; exact hG 91 i (by decide)
      · rw [rq_i (by omega)]; exact hB p p0 (by omega)
  · rw [if_neg hl, wp_some]
    have e0 : i = e := by omega
    rw [e0] at hB
    exact ⟨rfl, hG, hx, hA, hB⟩
