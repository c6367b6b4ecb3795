/-! VOWS, WEATHER, WANTS read: a line is a row of tokens -/
abbrev Rw := Int × Int × Int × Int
abbrev Pl := Except (Int × Nat) (Nat × Rw)
def ck (c : Int) (j : Nat) (r : Pl) : Pl := if c = 0 then r else .error (c, j)
def woF (K : Nat → Int) (c : Int) (j : Nat) : Int := if K j = c then 0 else 1
def nuF (K V : Nat → Int) (lo hi : Int) (j : Nat) : Int := if K j = 1 then (if lo ≤ V j ∧ V j ≤ hi then 0 else 2) else 1
def fiF (K V : Nat → Int) (w : Int → Int) (j : Nat) : Int := if K j = 1 then (if isF w (V j) then 0 else 2) else 1
def p1F (K V : Nat → Int) (w : Int → Int) (j : Nat) : Int := if K j = 1 then (if isP w (V j) then 0 else 2) else 1
def p2F (K V : Nat → Int) (w : Int → Int) (a : Int) (j : Nat) : Int := if K j = 1 then (if isP w (V j) ∧ w (91 + a) ≠ w (91 + V j) then 0 else 2) else 1
def beF (K : Nat → Int) (c cap : Int) (n j : Nat) : Int := if K j = c then (if (n : Int) < cap then 0 else 3) else 1
def voA (K V : Nat → Int) (w : Int → Int) (n j : Nat) : Pl := ck (beF K 20 16 n j) j (ck (nuF K V 0 999 (j + 1)) (j + 1) (ck (p1F K V w (j + 2)) (j + 2) (ck (woF K 8 (j + 3)) (j + 3) (ck (p2F K V w (V (j + 2)) (j + 4)) (j + 4) (ck (woF K 21 (j + 5)) (j + 5) (ck (fiF K V w (j + 6)) (j + 6) (ck (woF K 59 (j + 7)) (j + 7) (.ok (j + 8, (V (j + 1), V (j + 2), V (j + 4), V (j + 6)))))))))))
def weA (K V : Nat → Int) (n j : Nat) : Pl := ck (beF K 22 12 n j) j (ck (nuF K V 1 60 (j + 1)) (j + 1) (ck (woF K 17 (j + 2)) (j + 2) (ck (nuF K V 0 30 (j + 3)) (j + 3) (ck (woF K 59 (j + 4)) (j + 4) (.ok (j + 5, (V (j + 1), V (j + 3), 0, 0)))))))
def waA (K V : Nat → Int) (w : Int → Int) (n j : Nat) : Pl := ck (beF K 23 12 n j) j (ck (fiF K V w (j + 1)) (j + 1) (ck (woF K 20 (j + 2)) (j + 2) (ck (nuF K V 0 999 (j + 3)) (j + 3) (ck (woF K 24 (j + 4)) (j + 4) (ck (nuF K V 1 99 (j + 5)) (j + 5) (ck (woF K 59 (j + 6)) (j + 6) (.ok (j + 7, (V (j + 1), V (j + 3), V (j + 5), 0)))))))))
def liR (K V : Nat → Int) (w : Int → Int) (k : Int) (n j : Nat) : Pl := if k = 1 then voA K V w n j else if k = 2 then weA K V n j else waA K V w n j
def rowsA (K V : Nat → Int) (w : Int → Int) (k : Int) : Nat → Nat → List Rw → Except (Int × Nat) (List Rw)
  | 0, j, rs => .ok rs
  | m + 1, j, rs => if K j = 0 then .ok rs else match liR K V w k rs.length j with
    | .error e => .error e
    | .ok a => rowsA K V w k m a.1 (rs ++ [a.2])
def gR (l : List Rw) (i : Nat) : Rw := l.getD i (0, 0, 0, 0)
theorem gR_l {c d : List Rw} {i : Nat} (h : i < c.length) : gR (c ++ d) i = gR c i := by
  unfold gR
  rw [List.getD_eq_getElem?_getD, List.getD_eq_getElem?_getD, List.getElem?_append_left h]
theorem gR_1 {c : List Rw} {x : Rw} : gR (c ++ [x]) c.length = x := by
  unfold gR
  rw [List.getD_eq_getElem?_getD, List.getElem?_append_right (Nat.le_refl _), Nat.sub_self]
  rfl
/-! the class -/
def StC (K : Nat → Int) (N : Nat) (σ0 : Sg) (c : Int) (j : Nat) (Q : Sg → Prop) (o : Option (Int × Sg)) : Prop := (c = 0 → wp o (fun q => q.1 = 1 ∧ AtC K N σ0 (j + 1) [] q.2 ∧ Q q.2)) ∧ (c ≠ 0 → (c = 1 ∨ c = 2 ∨ c = 3) ∧ wp o (fun q => q.1 = 0 ∧ BadC N σ0 c j q.2))
def CLr (K : Nat → Int) (N : Nat) (σ0 : Sg) (c0 n : Nat) (r : Pl) (o : Option (Int × Sg)) : Prop := match r with
  | .error e => (e.1 = 1 ∨ e.1 = 2 ∨ e.1 = 3) ∧ wp o (fun q => q.1 = 0 ∧ BadC N σ0 e.1 e.2 q.2)
  | .ok a => wp o (fun q => q.1 = 1 ∧ Fr [64, 38, 39, c0, c0 + 1] σ0 q.2 ∧ AtC K N q.2 a.1 [] q.2 ∧ rd q.2 64 1 = rd σ0 64 1 ∧ rd q.2 c0 2 = (n : Int) + 1 ∧ rd q.2 c0 1 = rd σ0 c0 1 ∧ ∀ i : Int, rd q.2 (c0 + 1) i = if i = 4 * (n : Int) + 3 then a.2.2.2.2 else if i = 4 * (n : Int) + 2 then a.2.2.2.1 else if i = 4 * (n : Int) + 1 then a.2.2.1 else if i = 4 * (n : Int) then a.2.1 else rd σ0 (c0 + 1) i)
section
variable {K V : Nat → Int} {N : Nat} {σ0 : Sg} {w : Int → Int}
theorem StC_bd {c0 n : Nat} {c : Int} {j : Nat} {Q : Sg → Prop} {o : Option (Int × Sg)} {r : Pl} {k : Int × Sg → Option (Int × Sg)} (h : StC K N σ0 c j Q o) (hk0 : ∀ s, k (0, s) = some (0, s)) (hk : ∀ s, c = 0 → AtC K N σ0 (j + 1) [] s → Q s → CLr K N σ0 c0 n r (k (1, s))) : CLr K N σ0 c0 n (ck c j r) (o.bind k) := by
  unfold ck
  by_cases e : c = 0
  · obtain ⟨⟨q1, q2⟩, e1, e2, e3, e4⟩ := h.1 e
    have e2 : q1 = 1 := e2
    rw [if_pos e, e1, Option.bind_some, e2]
    exact hk q2 e e3 e4
  · obtain ⟨h0, ⟨q1, q2⟩, e1, e2, e3⟩ := h.2 e
    have e2 : q1 = 0 := e2
    rw [if_neg e, e1, Option.bind_some, e2, hk0]
    exact ⟨h0, _, rfl, rfl, e3⟩
theorem stc_pass (H : HK K V N) (T : TKs K V N σ0) {j : Nat} {τ : Sg} {Q : Sg → Prop} (h : AtC K N σ0 j [] τ) (hj : K j ≠ 0) (hQ : ∀ s, rd s 64 7 = rd τ 64 7 → Q s) : wp ((fX4_pass τ).bind fun s => some ((1 : Int), s)) (fun q => q.1 = 1 ∧ AtC K N σ0 (j + 1) [] q.2 ∧ Q q.2) := by
  have hlt := H.lt h.2.2.1.2.1 hj
  obtain ⟨s, p1, p2⟩ := pass_c H T h hlt
  have h5 := h.2.2.1.1
  have hN := H.1
  refine ⟨(1, s), by rw [p1]; rfl, rfl, p2, hQ s ?_⟩
  unfold fX4_pass at p1
  rw [h5, if_pos (by omega)] at p1
  unfold grd at p1
  split at p1
  · cases p1
    rw [rq_i (by decide), rq_i (by decide)]
  · cases p1
theorem stc_bad {j : Nat} {τ : Sg} (h : AtC K N σ0 j [] τ) : wp (some ((0 : Int), τ)) (fun q => q.1 = 0 ∧ BadC N σ0 1 j q.2) := ⟨_, rfl, rfl, h.1, h.2.2.1.1, h.2.2.1.2.1, by rw [if_pos rfl]; exact h.2.1.2.2⟩
theorem stc_ref {f : Int} {j : Nat} {τ : Sg} (h : AtC K N σ0 j [] τ) (hf : f = 2 ∨ f = 3) : wp ((fX4_refuse f τ).bind fun q => some (q.1, q.2)) (fun q => q.1 = 0 ∧ BadC N σ0 f j q.2) :=
  ⟨_, rfl, rfl, h.1.wr (by decide), (rq_i (by decide)).trans h.2.2.1.1, h.2.2.1.2.1, by
    show rd (wr τ 64 0 f) 64 0 = _
    rw [rq_s, if_neg (show ¬ f = 1 by omega), bw_id (by omega) (by omega)]⟩
theorem wo_c (H : HK K V N) (T : TKs K V N σ0) {c : Int} (hc : c ≠ 0) {j : Nat} {τ : Sg} (h : AtC K N σ0 j [] τ) : StC K N σ0 (woF K c j) j (fun _ => True) (fX4_passes c τ) := by
  unfold fX4_passes
  rw [h.2.2.1.2.2]
  refine ⟨fun e => ?_, fun e => ?_⟩
  · have e1 : K j = c := by
      unfold woF at e
      by_cases q : K j = c
      · exact q
      · rw [if_neg q] at e; exact absurd e (by decide)
    rw [if_pos e1]
    exact stc_pass H T h (by rw [e1]; exact hc) (fun _ _ => trivial)
  · have e1 : ¬ K j = c := fun q => e (by unfold woF; rw [if_pos q])
    have ef : woF K c j = 1 := by unfold woF; rw [if_neg e1]
    rw [ef, if_neg e1]
    exact ⟨Or.inl rfl, stc_bad h⟩
theorem be_c (H : HK K V N) (T : TKs K V N σ0) {c cap : Int} (hc : c ≠ 0) {c2 N2 n j : Nat} {τ : Sg} (h : AtC K N σ0 j [] τ) (h2 : rd τ c2 2 = n) (h1 : rd τ c2 1 = cap) : StC K N σ0 (beF K c cap n j) j (fun _ => True) (fX4_begins c2 N2 c τ) := by
  unfold fX4_begins fX4_begins_J25 beF
  rw [h.2.2.1.2.2, h1, h2]
  by_cases e1 : K j = c
  · rw [if_pos e1, if_pos e1]
    by_cases e2 : (n : Int) < cap
    · rw [if_pos e2, if_pos e2]
      refine ⟨fun _ => ?_, fun e => absurd rfl e⟩
      unfold fX4_passes
      rw [h.2.2.1.2.2, if_pos e1]
      obtain ⟨q, p1, p2⟩ := stc_pass (Q := fun _ => True) H T h (by rw [e1]; exact hc) (fun _ _ => trivial)
      exact ⟨q, by rw [p1]; rfl, p2⟩
    · rw [if_neg e2, if_neg e2]
      exact ⟨fun e => absurd e (by decide), fun _ => ⟨Or.inr (Or.inr rfl), stc_ref h (Or.inr rfl)⟩⟩
  · rw [if_neg e1, if_neg e1]
    refine ⟨fun e => absurd e (by decide), fun _ => ⟨Or.inl rfl, ?_⟩⟩
    unfold fX4_passes
    rw [h.2.2.1.2.2, if_neg e1]
    exact stc_bad h
theorem nu_c (H : HK K V N) (T : TKs K V N σ0) {lo hi : Int} {j : Nat} {τ : Sg} (h : AtC K N σ0 j [] τ) : StC K N σ0 (nuF K V lo hi j) j (fun s => rd s 64 7 = V j) (fX4_passesNumber lo hi τ) := by
  have h5 := h.2.2.1
  have hN := H.1
  unfold fX4_passesNumber nuF
  rw [h5.2.2]
  by_cases e1 : K j = 1
  · have hv := H.2.2.2 j e1
    have eV : rd τ 62 (j : Int) = V j := (h.1 62 _ (by decide)).trans ((T j h5.2.1).2 e1)
    rw [if_pos e1, if_pos e1, h5.1, grd_pos (by omega), eV, rq_s, bw_id (z := V j) (by omega) (by omega)]
    have h7 : AtC K N σ0 j [] (wr τ 64 7 (V j)) := by
      obtain ⟨a1, ⟨a2, a3, a4⟩, ⟨a5, a6, a7⟩, a8, a9⟩ := h
      refine ⟨a1.wr (by decide), ⟨?_, ?_, ?_⟩, ⟨?_, a6, ?_⟩, ?_, fun i hi => absurd hi (Nat.not_lt_zero _)⟩
      · rw [rq_c (by decide)]; exact a2
      · rw [rq_i (by decide)]; exact a3
      · rw [rq_i (by decide)]; exact a4
      · rw [rq_i (by decide)]; exact a5
      · rw [rq_i (by decide)]; exact a7
      · rw [rq_c (by decide)]; exact a8
    unfold fX4_passesNumber_J42
    by_cases e2 : V j < lo
    · rw [if_pos e2, if_neg (by omega)]
      exact ⟨fun e => absurd e (by decide), fun _ => ⟨Or.inr (Or.inl rfl), stc_ref h7 (Or.inl rfl)⟩⟩
    · rw [if_neg e2]
      by_cases e3 : hi < V j
      · rw [if_pos e3, if_neg (by omega)]
        exact ⟨fun e => absurd e (by decide), fun _ => ⟨Or.inr (Or.inl rfl), stc_ref h7 (Or.inl rfl)⟩⟩
      · rw [if_neg e3, if_pos (by omega)]
        refine ⟨fun _ => ?_, fun e => absurd rfl e⟩
        refine stc_pass (Q := fun s => rd s 64 7 = V j) H T h7 (by omega) (fun s hs => ?_)
        show rd s 64 7 = V j
        rw [hs, rq_s, bw_id (by omega) (by omega)]
  · rw [if_neg e1, if_neg e1]
    exact ⟨fun e => absurd e (by decide), fun _ => ⟨Or.inl rfl, stc_bad h⟩⟩
theorem StC_tail {c : Int} {j : Nat} {Q : Sg → Prop} {o : Option (Int × Sg)} (h : StC K N σ0 c j Q o) : StC K N σ0 c j Q (o.bind fun q => some (q.1, q.2)) := by
  refine ⟨fun e => ?_, fun e => ⟨(h.2 e).1, ?_⟩⟩
  · obtain ⟨q, p1, p2⟩ := h.1 e
    exact ⟨q, by rw [p1]; rfl, p2⟩
  · obtain ⟨q, p1, p2⟩ := (h.2 e).2
    exact ⟨q, by rw [p1]; rfl, p2⟩
theorem StC_c {c c2 : Int} {j : Nat} {Q : Sg → Prop} {o : Option (Int × Sg)} (h : StC K N σ0 c j Q o) (e : c2 = c) : StC K N σ0 c2 j Q o := by rw [e]; exact h
theorem CW39 {j : Nat} {τ : Sg} (hC : CW 150 w σ0 1) (h : AtC K N σ0 j [] τ) : CW 150 w τ 1 := by
  refine hC.fr h.1 (fun c hc => ?_)
  simp only [List.mem_cons, List.not_mem_nil, or_false] at hc
  omega
theorem fi_c (H : HK K V N) (T : TKs K V N σ0) (hC : CW 150 w σ0 1) {j : Nat} {τ : Sg} (h : AtC K N σ0 j [] τ) : StC K N σ0 (fiF K V w j) j (fun s => rd s 64 7 = V j) (fX4_passesField τ) := by
  have h5 := h.2.2.1
  have hN := H.1
  have nu := StC_tail (nu_c (lo := 0) (hi := 55) H T h)
  unfold fX4_passesField fX4_passesField_J36
  rw [h5.2.2]
  by_cases e1 : K j = 1
  · have eV : rd τ 62 (j : Int) = V j := (h.1 62 _ (by decide)).trans ((T j h5.2.1).2 e1)
    rw [if_pos e1, h5.1, grd_pos (by omega), eV, hasField_c (CW39 hC h) (V j)]
    by_cases e2 : isF w (V j)
    · rw [if_pos e2, if_neg n10]
      refine StC_c nu ?_
      unfold fiF nuF
      have := isF_b e2
      rw [if_pos e1, if_pos e1, if_pos e2, if_pos (by omega)]
    · rw [if_neg e2, if_pos p00]
      have ef : fiF K V w j = 2 := by unfold fiF; rw [if_pos e1, if_neg e2]
      rw [ef]
      exact ⟨fun e => absurd e (by decide), fun _ => ⟨Or.inr (Or.inl rfl), stc_ref h (Or.inl rfl)⟩⟩
  · rw [if_neg e1]
    refine StC_c nu ?_
    unfold fiF nuF
    rw [if_neg e1, if_neg e1]
theorem pe_c (H : HK K V N) (T : TKs K V N σ0) (hC : CW 150 w σ0 1) {a : Int} {j : Nat} {τ : Sg} (h : AtC K N σ0 j [] τ) : StC K N σ0 (if isP w a then p2F K V w a j else p1F K V w j) j (fun s => rd s 64 7 = V j) (fX4_passesPerson a τ) := by
  have h5 := h.2.2.1
  have hN := H.1
  have hC2 := CW39 hC h
  have h12 := hC.1.1.2.2.2.2.2.1
  have nu := StC_tail (nu_c (lo := 0) (hi := 11) H T h)
  have side : ∀ p, isP w p → rd τ 5 p = w (91 + p) := fun p hp => (hC2.2.2.2.1.2 p hp).1
  unfold fX4_passesPerson fX4_passesPerson_J82 fX4_passesPerson_J76
  rw [h5.2.2]
  by_cases e1 : K j = 1
  · have eV : rd τ 62 (j : Int) = V j := (h.1 62 _ (by decide)).trans ((T j h5.2.1).2 e1)
    rw [if_pos e1, h5.1, grd_pos (by omega), eV, has_c hC2 (V j), has_c hC2 a]
    by_cases e2 : isP w (V j)
    · have v1 := e2.1
      have v2 := e2.2
      rw [if_pos e2, if_neg n10]
      by_cases e3 : isP w a
      · have a1 := e3.1
        have a2 := e3.2
        rw [if_pos e3, if_pos e3, if_neg n10, grd_pos (by omega), grd_pos (by omega), side (V j) e2, side a e3]
        by_cases e4 : w (91 + V j) = w (91 + a)
        · rw [if_pos e4]
          have ef : p2F K V w a j = 2 := by unfold p2F; rw [if_pos e1, if_neg (fun q => q.2 e4.symm)]
          rw [ef]
          exact ⟨fun e => absurd e (by decide), fun _ => ⟨Or.inr (Or.inl rfl), stc_ref h (Or.inl rfl)⟩⟩
        · rw [if_neg e4]
          refine StC_c nu ?_
          unfold p2F nuF
          rw [if_pos e1, if_pos e1, if_pos ⟨e2, fun q => e4 q.symm⟩, if_pos (by omega)]
      · rw [if_neg e3, if_neg e3, if_pos p00]
        refine StC_c nu ?_
        unfold p1F nuF
        rw [if_pos e1, if_pos e1, if_pos e2, if_pos (by omega)]
    · rw [if_neg e2, if_pos p00]
      have ef : (if isP w a then p2F K V w a j else p1F K V w j) = 2 := by
        have g2 : p2F K V w a j = 2 := by unfold p2F; rw [if_pos e1, if_neg (fun q => e2 q.1)]
        have g1 : p1F K V w j = 2 := by unfold p1F; rw [if_pos e1, if_neg e2]
        rw [g2, g1]
        split <;> rfl
      rw [ef]
      exact ⟨fun e => absurd e (by decide), fun _ => ⟨Or.inr (Or.inl rfl), stc_ref h (Or.inl rfl)⟩⟩
  · rw [if_neg e1]
    refine StC_c nu ?_
    unfold p2F p1F nuF
    rw [if_neg e1, if_neg e1, if_neg e1]
    split <;> rfl
theorem addR_c {c0 N0 n j : Nat} {cap x1 x2 x3 x4 : Int} {τ : Sg} (hc0 : c0 = 45 ∨ c0 = 47 ∨ c0 = 49) (h : AtC K N σ0 j [] τ) (h2 : rd σ0 c0 2 = n) (h1 : rd σ0 c0 1 = cap) (hn : (n : Int) < cap) (hcap : cap ≤ 16) (hN0 : 4 * cap ≤ (N0 : Int)) (b1 : bw x1 = x1) (b2 : bw x2 = x2) (b3 : bw x3 = x3) (b4 : bw x4 = x4) : CLr K N σ0 c0 n (.ok (j, (x1, x2, x3, x4))) ((fX6_add c0 N0 x1 x2 x3 x4 τ).bind fun q => if q.1 = 0 then some (0, q.2) else some (1, q.2)) := by
  obtain ⟨a1, ⟨a2, a3, a4⟩, ⟨a5, a6, a7⟩, a8, a9⟩ := h
  have f0 : ∀ i, rd τ c0 i = rd σ0 c0 i := fun i => a1 c0 i (by simp only [List.mem_cons, List.not_mem_nil, or_false]; omega)
  have f1 : ∀ i, rd τ (c0 + 1) i = rd σ0 (c0 + 1) i := fun i => a1 (c0 + 1) i (by simp only [List.mem_cons, List.not_mem_nil, or_false]; omega)
  unfold fX6_add
  have nc : c0 ≠ c0 + 1 := by omega
  simp only [rq_c nc, f0, h2, h1]
  rw [if_pos hn, bw_id (z := (n : Int) * 4) (by omega) (by omega), bw_id (z := (n : Int) * 4 + 1) (by omega) (by omega), bw_id (z := (n : Int) * 4 + 2) (by omega) (by omega), bw_id (z := (n : Int) * 4 + 3) (by omega) (by omega), bw_id (z := (n : Int) + 1) (by omega) (by omega), grd_pos (by omega), grd_pos (by omega), grd_pos (by omega), grd_pos (by omega), Option.bind_some]
  have fr : Fr [64, 38, 39, c0, c0 + 1] σ0 (wr (wr (wr (wr (wr τ (c0 + 1) ((n : Int) * 4) x1) (c0 + 1) ((n : Int) * 4 + 1) x2) (c0 + 1) ((n : Int) * 4 + 2) x3) (c0 + 1) ((n : Int) * 4 + 3) x4) c0 2 ((n : Int) + 1)) := (((((a1.mo (by simp)).wr (by simp)).wr (by simp)).wr (by simp)).wr (by simp)).wr (by simp)
  have k64 : ∀ (c : Nat) (i : Int), c ≠ c0 → c ≠ c0 + 1 → rd (wr (wr (wr (wr (wr τ (c0 + 1) ((n : Int) * 4) x1) (c0 + 1) ((n : Int) * 4 + 1) x2) (c0 + 1) ((n : Int) * 4 + 2) x3) (c0 + 1) ((n : Int) * 4 + 3) x4) c0 2 ((n : Int) + 1)) c i = rd τ c i := fun c i e1 e2 => by
    rw [rq_c e1, rq_c e2, rq_c e2, rq_c e2, rq_c e2]
  refine ⟨_, rfl, rfl, fr, ⟨Fr.rf, ⟨rfl, rfl, ?_⟩, ⟨?_, a6, ?_⟩, ?_, fun i hi => absurd hi (Nat.not_lt_zero _)⟩, ?_, ?_, ?_, fun i => ?_⟩
  · exact (k64 64 0 (by omega) (by omega)).trans a4
  · exact (k64 64 5 (by omega) (by omega)).trans a5
  · exact (k64 64 6 (by omega) (by omega)).trans a7
  · exact (k64 38 7 (by omega) (by omega)).trans a8
  · exact (k64 64 1 (by omega) (by omega)).trans a3
  · show rd (wr _ c0 2 ((n : Int) + 1)) c0 2 = _
    rw [rq_s, bw_id (by omega) (by omega)]
  · show rd (wr _ c0 2 ((n : Int) + 1)) c0 1 = _
    rw [rq_i (by decide), rq_c nc, rq_c nc, rq_c nc, rq_c nc, f0]
  · show rd (wr _ c0 2 ((n : Int) + 1)) (c0 + 1) i = _
    rw [rq_c (Ne.symm nc), wr_row, wr_row, wr_row, wr_row, b1, b2, b3, b4, show 4 * (n : Int) = (n : Int) * 4 by omega, ← f1]
    rfl
end
