/-! the class reads THE LAW's text -/
def TKs (K V : Nat → Int) (N : Nat) (σ : Sg) : Prop := ∀ j : Nat, j ≤ N → rd σ 61 j = K j ∧ (K j = 1 → rd σ 62 j = V j)
def LCc (c : List Int) (σ : Sg) : Prop := rd σ 38 7 = c.length ∧ ∀ i : Nat, i < c.length → rd σ 39 i = c.getD i 0
def AtC (K : Nat → Int) (N : Nat) (σ0 : Sg) (j : Nat) (c : List Int) (τ : Sg) : Prop := Fr [64, 38, 39] σ0 τ ∧ (rd τ 38 6 = rd σ0 38 6 ∧ rd τ 64 1 = rd σ0 64 1 ∧ rd τ 64 0 = 0) ∧ (rd τ 64 5 = j ∧ j ≤ N ∧ rd τ 64 6 = K j) ∧ LCc c τ
def BadC (N : Nat) (σ0 : Sg) (f : Int) (j : Nat) (τ : Sg) : Prop := Fr [64, 38, 39] σ0 τ ∧ rd τ 64 5 = j ∧ j ≤ N ∧ rd τ 64 0 = if f = 1 then 0 else f
def CRes (K : Nat → Int) (N : Nat) (σ0 : Sg) (r : Ps) (o : Option (Int × Sg)) : Prop := match r with
  | .error e => wp o (fun q => q.1 = 0 ∧ BadC N σ0 e.1 e.2 q.2)
  | .ok a => wp o (fun q => q.1 = 1 ∧ AtC K N σ0 a.1 (encL a.2) q.2)
theorem gD_l {c d : List Int} {i : Nat} (h : i < c.length) : (c ++ d).getD i 0 = c.getD i 0 := by
  rw [List.getD_eq_getElem?_getD, List.getD_eq_getElem?_getD, List.getElem?_append_left h]
theorem gD_r {c d : List Int} (i : Nat) : (c ++ d).getD (c.length + i) 0 = d.getD i 0 := by
  rw [List.getD_eq_getElem?_getD, List.getD_eq_getElem?_getD, List.getElem?_append_right (Nat.le_add_right _ _), Nat.add_sub_cancel_left]
section
variable {K V : Nat → Int} {N : Nat} {σ0 : Sg}
theorem CRes_bd {r : Ps} {g : Nat → Ls → Ps} {o : Option (Int × Sg)} {k : Int × Sg → Option (Int × Sg)} (h : CRes K N σ0 r o) (hk0 : ∀ s, k (0, s) = some (0, s)) (hk1 : ∀ j l s, r = .ok (j, l) → AtC K N σ0 j (encL l) s → CRes K N σ0 (g j l) (k (1, s))) : CRes K N σ0 (bdP r g) (o.bind k) := by
  cases r with
  | error e =>
    obtain ⟨⟨q1, q2⟩, e1, e2, e3⟩ := h
    have e2 : q1 = 0 := e2
    rw [e1, Option.bind_some, e2, hk0]
    exact ⟨_, rfl, rfl, e3⟩
  | ok a =>
    obtain ⟨⟨q1, q2⟩, e1, e2, e3⟩ := h
    have e2 : q1 = 1 := e2
    rw [e1, Option.bind_some, e2]
    exact hk1 a.1 a.2 q2 rfl e3
theorem CRes_w {r : Ps} {o : Option Sg} {k : Sg → Option (Int × Sg)} {Q : Sg → Prop} (h : wp o Q) (hk : ∀ s, Q s → CRes K N σ0 r (k s)) : CRes K N σ0 r (o.bind k) := by
  obtain ⟨s, e1, e2⟩ := h
  rw [e1, Option.bind_some]
  exact hk s e2
theorem CRes_err {f : Int} {j : Nat} {c : List Int} {τ : Sg} (h : AtC K N σ0 j c τ) (hf : f = 1) : CRes K N σ0 (.error (f, j)) (some (0, τ)) := ⟨_, rfl, rfl, h.1, h.2.2.1.1, h.2.2.1.2.1, by rw [if_pos hf]; exact h.2.1.2.2⟩
theorem CRes_ref {f : Int} {j : Nat} {c : List Int} {τ : Sg} (h : AtC K N σ0 j c τ) (hf : f = 2 ∨ f = 3) : CRes K N σ0 (.error (f, j)) ((fX4_refuse f τ).bind fun q => some (q.1, q.2)) :=
  ⟨_, rfl, rfl, h.1.wr (by decide), (rq_i (by decide)).trans h.2.2.1.1, h.2.2.1.2.1, by
    show rd (wr τ 64 0 f) 64 0 = _
    rw [rq_s, if_neg (show ¬ f = 1 by omega), bw_id (by omega) (by omega)]⟩
theorem CRes_done {j : Nat} {ls : Ls} {τ : Sg} (h : AtC K N σ0 j (encL ls) τ) : CRes K N σ0 (.ok (j, ls)) (some (1, τ)) := ⟨_, rfl, rfl, h⟩
theorem pass_c (H : HK K V N) (T : TKs K V N σ0) {j : Nat} {c : List Int} {τ : Sg} (h : AtC K N σ0 j c τ) (hj : j < N) : wp (fX4_pass τ) (AtC K N σ0 (j + 1) c) := by
  obtain ⟨h1, ⟨h2, h3, h4⟩, ⟨h5, h6, h7⟩, h8, h9⟩ := h
  have hN := H.1
  have a1 : j + 1 ≤ N := hj
  have a2 : (j : Int) < 400 := by omega
  have a3 : (0 : Int) ≤ ((j + 1 : Nat) : Int) ∧ ((j + 1 : Nat) : Int) < 401 := by omega
  have a4 : bw ((j : Int) + 1) = ((j + 1 : Nat) : Int) := by rw [bw_id (by omega) (by omega)]; omega
  have t1 := (T (j + 1) a1).1
  unfold fX4_pass
  have e : rd (wr τ 64 5 (bw ((j : Int) + 1))) 64 5 = ((j + 1 : Nat) : Int) := by rw [rq_s, bw_bw, a4]
  have eK : rd (wr τ 64 5 (bw ((j : Int) + 1))) 61 ((j + 1 : Nat) : Int) = K (j + 1) := by
    rw [rq_c (by decide), h1 61 _ (by decide)]; exact t1
  rw [h5, if_pos a2, e, grd_pos a3, eK, wp_some]
  refine ⟨(h1.wr (by decide)).wr (by decide), ⟨?_, ?_, ?_⟩, ⟨?_, a1, ?_⟩, ?_, fun i hi => ?_⟩
  · rw [rq_c (by decide), rq_c (by decide)]; exact h2
  · rw [rq_i (by decide), rq_i (by decide)]; exact h3
  · rw [rq_i (by decide), rq_i (by decide)]; exact h4
  · rw [rq_i (by decide)]; exact e
  · rw [rq_s, ← t1, rd_bw]
  · rw [rq_c (by decide), rq_c (by decide)]; exact h8
  · rw [rq_c (by decide), rq_c (by decide)]; exact h9 i hi
theorem put1_c {j : Nat} {c : List Int} {τ : Sg} {v : Int} (h : AtC K N σ0 j c τ) (hc : c.length < 400) (hv : bw v = v) : wp (fX2_put 38 v τ) (AtC K N σ0 j (c ++ [v])) := by
  obtain ⟨h1, ⟨h2, h3, h4⟩, ⟨h5, h6, h7⟩, h8, h9⟩ := h
  unfold fX2_put
  rw [h8, if_pos (by omega), grd_pos (by omega), show (38 : Nat) + 1 = 39 from rfl, rq_c (by decide), h8, bw_id (z := ((c.length : Nat) : Int) + 1) (by omega) (by omega), wp_some]
  refine ⟨(h1.wr (by decide)).wr (by decide), ⟨?_, ?_, ?_⟩, ⟨?_, h6, ?_⟩, ?_, fun i hi => ?_⟩
  · rw [rq_i (by decide), rq_c (by decide)]; exact h2
  · rw [rq_c (by decide), rq_c (by decide)]; exact h3
  · rw [rq_c (by decide), rq_c (by decide)]; exact h4
  · rw [rq_c (by decide), rq_c (by decide)]; exact h5
  · rw [rq_c (by decide), rq_c (by decide)]; exact h7
  · rw [rq_s, bw_id (by omega) (by omega), List.length_append]; simp
  · rw [List.length_append] at hi
    simp only [List.length_cons, List.length_nil] at hi
    rw [rq_c (by decide)]
    by_cases e : i = c.length
    · have g := gD_r (c := c) (d := [v]) 0
      rw [Nat.add_zero] at g
      rw [e, rq_s, hv, g]; rfl
    · rw [rq_i (by omega), h9 i (by omega), gD_l (by omega)]
theorem joint_eq {k : Int} (h : 0 ≤ k ∧ k ≤ 100) : fX2_codeOfJoint k = -11 - k := bw_id (by omega) (by omega)
theorem putS_c {j : Nat} {ls : Ls} {τ : Sg} {v : Int} {s : Int × Int} (h : AtC K N σ0 j (encL ls) τ) (hc : (encL ls).length < 400) (hv : encS s = [v]) (hb : -100 ≤ v ∧ v ≤ 9999) : wp (fX2_put 38 v τ) (AtC K N σ0 j (encL (ls ++ [s]))) := by
  rw [encL_app, encL_one, hv]
  exact put1_c h hc (bw_id (by omega) (by omega))
theorem unit_c (H : HK K V N) (T : TKs K V N σ0) {j : Nat} {ls : Ls} {τ : Sg} (h : AtC K N σ0 j (encL ls) τ) (hc : (encL ls).length ≤ j) : CRes K N σ0 (unA K V j ls) (fX4_readsUnit τ) := by
  have h5 := h.2.2.1
  have hN := H.1
  unfold fX4_readsUnit unA
  rw [h5.2.2]
  by_cases c1 : K j = 1
  · have hl := H.lt h5.2.1 (by omega)
    have hv := H.2.2.2 j c1
    have eV : rd τ 62 (j : Int) = V j := (h.1 62 _ (by decide)).trans ((T j h5.2.1).2 c1)
    rw [if_pos c1, if_pos c1, h5.1, grd_pos (by omega), eV]
    refine CRes_w (putS_c (s := (0, V j)) h (by omega) rfl (by omega)) (fun s hs => ?_)
    unfold fX4_readsUnit_J73
    exact CRes_w (pass_c H T hs hl) (fun s2 hs2 => CRes_done hs2)
  · rw [if_neg c1, if_neg c1]
    by_cases c2 : 10 ≤ K j ∧ K j ≤ 19
    · have hl := H.lt h5.2.1 (by omega)
      rw [if_pos c2, if_neg (show ¬ K j < 10 by omega), if_neg (show ¬ 19 < K j by omega)]
      have en : fX2_codeOfName (K j) = -(K j - 9) := by
        unfold fX2_codeOfName
        rw [bw_id (z := K j - 10) (by omega) (by omega), bw_id (by omega) (by omega)]; omega
      rw [en]
      refine CRes_w (putS_c (s := (K j - 9, 0)) h (by omega) ?_ (by omega)) (fun s hs => ?_)
      · unfold encS
        rw [if_neg (show ¬ K j - 9 = 26 by omega), if_neg (show ¬ K j - 9 = 0 by omega), if_pos (show K j - 9 < 23 by omega)]
      · unfold fX4_readsUnit_J73
        exact CRes_w (pass_c H T hs hl) (fun s2 hs2 => CRes_done hs2)
    · rw [if_neg c2]
      by_cases c3 : K j < 10
      · rw [if_pos c3]; exact CRes_err h rfl
      · rw [if_neg c3, if_pos (by omega)]; exact CRes_err h rfl
theorem passes_c (H : HK K V N) (T : TKs K V N σ0) {j : Nat} {ls : Ls} {τ : Sg} {x : Int} (hx : x ≠ 0) (h : AtC K N σ0 j (encL ls) τ) : CRes K N σ0 (clA K x j ls) (fX4_passes x τ) := by
  unfold fX4_passes clA
  rw [h.2.2.1.2.2]
  by_cases c : K j = x
  · rw [if_pos c, if_pos c]
    exact CRes_w (pass_c H T h (H.lt h.2.2.1.2.1 (by rw [c]; exact hx))) (fun s hs => CRes_done hs)
  · rw [if_neg c, if_neg c]; exact CRes_err h rfl
theorem TyA_len {h : Nat} {pre post : List Bool} {j : Nat} {ls : Ls} {j1 : Nat} {l1 : Ls} {e : Nat} {r : Ps} (k : TyA N h e pre post j ls r) (q : r = .ok (j1, l1)) : (encL l1).length + j ≤ (encL ls).length + j1 + e ∧ j ≤ j1 ∧ j1 ≤ N := by
  rw [q] at k
  obtain ⟨a1, a2, new, a3, a4, a5⟩ := k
  have a3 : l1 = ls ++ new := a3
  have a4 : (encL new).length + j ≤ j1 + e := a4
  refine ⟨?_, a1, a2⟩
  rw [a3, encL_app, List.length_append]; omega
/-! its sums -/
def rstS (K V : Nat → Int) (x1 x2 : Int) (j : Nat) (ls : Ls) : Ps := bdP (if x1 = 0 then unA K V j ls else prG K V x1 j ls) (fun j1 l1 => bdP (prL K V j1 l1) (fun j2 l2 => bdP (if x2 = 0 then .ok (j2, l2) else apS (suC x2) j2 l2) (suL K V)))
theorem rstS_1 (H : HK K V N) {x2 : Int} {j : Nat} (ls : Ls) (hj : j ≤ N) : bdP (prL K V j ls) (fun j2 l2 => bdP (if x2 = 0 then .ok (j2, l2) else apS (suC x2) j2 l2) (suL K V)) = if isPr (K j) = true then rstS K V (K j) x2 (j + 1) ls else bdP (if x2 = 0 then .ok (j, ls) else apS (suC x2) j ls) (suL K V) := by
  rw [prL_unf H ls hj]
  by_cases c : isPr (K j) = true
  · rw [if_pos c, if_pos c, bdP_assoc, rstS, if_neg (fun q => by rw [q] at c; cases c)]
  · rw [if_neg c, if_neg c, bdP_ok]
theorem rstS_2 (H : HK K V N) {j : Nat} (ls : Ls) (hj : j ≤ N) : suL K V j ls = if isSu (K j) = true then rstS K V 0 (K j) (j + 1) ls else .ok (j, ls) := by
  rw [suL_unf H ls hj]
  by_cases c : isSu (K j) = true
  · rw [if_pos c, if_pos c, suG, prA, bdP_assoc, bdP_assoc, rstS, if_pos rfl]
    have n0 : ¬ K j = 0 := fun q => by rw [q] at c; cases c
    simp only [if_neg n0]
  · rw [if_neg c, if_neg c]
theorem sum_c (H : HK K V N) (T : TKs K V N σ0) : ∀ (m n : Nat) (x1 x2 x3 : Int) (j : Nat) (ls : Ls) (τ : Sg), N - j < m → m ≤ n → AtC K N σ0 j (encL ls) τ → (x1 = 0 ∨ x1 = 42 ∨ x1 = 47) → (x2 = 0 ∨ x2 = 43 ∨ x2 = 45) → (encL ls).length + (if x1 = 0 then 0 else 1) + (if x2 = 0 then 0 else 1) ≤ j → 0 ≤ x3 → x3 ≤ j → CRes K N σ0 (rstS K V x1 x2 j ls) (fX4_readsSum_L6 (fun s23 => (fX4_refuse 2 s23).bind fun q24 => some (q24.1, q24.2)) n x1 x2 x3 τ) := by
  intro m
  induction m with
  | zero => intro n x1 x2 x3 j ls τ hm; omega
  | succ m ih =>
    intro n x1 x2 x3 j ls τ hm hn h hx1 hx2 hb y0 y1
    cases n with
    | zero => omega
    | succ n =>
      have h5 := h.2.2.1
      have hN := H.1
      -- a + or - behind it, or none
      have aft2 : ∀ (j1 : Nat) (l1 : Ls) (s : Sg), AtC K N σ0 j1 (encL l1) s → j < j1 → (encL l1).length ≤ j1 → CRes K N σ0 (suL K V j1 l1) (fX4_readsSum_J138 (fX4_readsSum_J165 (fX4_readsSum_L6 (fun s23 => (fX4_refuse 2 s23).bind fun q24 => some (q24.1, q24.2)) n) 0 x3) 0 x3 s) := by
        intro j1 l1 s hs hj1 hb1
        have s5 := hs.2.2.1
        have more : isSu (K j1) = true → K j1 ≠ 0 → CRes K N σ0 (suL K V j1 l1) (fX4_readsSum_J165 (fX4_readsSum_L6 (fun s23 => (fX4_refuse 2 s23).bind fun q24 => some (q24.1, q24.2)) n) 0 x3 (K j1) s) := by
          intro c c0
          have hl := H.lt s5.2.1 c0
          rw [rstS_2 H l1 s5.2.1, if_pos c]
          unfold fX4_readsSum_J165 fX4_readsSum_J175
          rw [if_pos p00, if_neg c0, bw_id (z := x3 + 1) (by omega) (by omega)]
          have c1 : K j1 = 43 ∨ K j1 = 45 := of_decide_eq_true c
          exact CRes_w (pass_c H T hs hl) (fun s2 hs2 => ih n 0 (K j1) (x3 + 1) (j1 + 1) l1 s2 (by omega) (by omega) hs2 (Or.inl rfl) (Or.inr c1) (by rw [if_pos rfl, if_neg c0]; omega) (by omega) (by omega))
        unfold fX4_readsSum_J138
        rw [s5.2.2]
        by_cases c1 : K j1 = 43
        · rw [if_pos c1]; exact more (decide_eq_true (Or.inl c1)) (by omega)
        rw [if_neg c1]
        by_cases c2 : K j1 = 45
        · rw [if_pos c2]; exact more (decide_eq_true (Or.inr c2)) (by omega)
        rw [if_neg c2, rstS_2 H l1 s5.2.1, if_neg (fun q => (of_decide_eq_true q).elim c1 c2)]
        unfold fX4_readsSum_J165
        rw [if_pos p00, if_pos p00]
        exact CRes_done hs
      -- behind an operand
      have aft : ∀ (j1 : Nat) (l1 : Ls) (s : Sg), AtC K N σ0 j1 (encL l1) s → j < j1 → (encL l1).length + (if x2 = 0 then 0 else 1) ≤ j1 → CRes K N σ0 (bdP (prL K V j1 l1) (fun j2 l2 => bdP (if x2 = 0 then .ok (j2, l2) else apS (suC x2) j2 l2) (suL K V))) (fX4_readsSum_J89 (fX4_readsSum_L6 (fun s23 => (fX4_refuse 2 s23).bind fun q24 => some (q24.1, q24.2)) n) x2 x3 s) := by
        intro j1 l1 s hs hj1 hb1
        have s5 := hs.2.2.1
        rw [rstS_1 H l1 s5.2.1]
        have more : isPr (K j1) = true → CRes K N σ0 (if isPr (K j1) = true then rstS K V (K j1) x2 (j1 + 1) l1 else bdP (if x2 = 0 then .ok (j1, l1) else apS (suC x2) j1 l1) (suL K V)) (fX4_readsSum_J107 (fX4_readsSum_J115 (fX4_readsSum_L6 (fun s23 => (fX4_refuse 2 s23).bind fun q24 => some (q24.1, q24.2)) n) x2 x3) x2 x3 s) := by
          intro c
          have c1 : K j1 = 42 ∨ K j1 = 47 := of_decide_eq_true c
          have c0 : ¬ K j1 = 0 := by omega
          have hl := H.lt s5.2.1 c0
          rw [if_pos c]
          unfold fX4_readsSum_J107 fX4_readsSum_J115 fX4_readsSum_J165 fX4_readsSum_J175
          rw [s5.2.2, if_neg c0, if_neg c0, bw_id (z := x3 + 1) (by omega) (by omega)]
          exact CRes_w (pass_c H T hs hl) (fun s2 hs2 => ih n (K j1) x2 (x3 + 1) (j1 + 1) l1 s2 (by omega) (by omega) hs2 (Or.inr c1) hx2 (by rw [if_neg c0]; omega) (by omega) (by omega))
        unfold fX4_readsSum_J89
        rw [s5.2.2]
        by_cases c1 : K j1 = 42
        · rw [if_pos c1]; exact more (decide_eq_true (Or.inl c1))
        rw [if_neg c1]
        by_cases c2 : K j1 = 47
        · rw [if_pos c2]; exact more (decide_eq_true (Or.inr c2))
        rw [if_neg c2, if_neg (fun q => (of_decide_eq_true q).elim c1 c2)]
        unfold fX4_readsSum_J115
        rw [if_pos p00]
        by_cases e2 : x2 = 0
        · rw [if_pos e2] at hb1
          rw [if_pos e2, if_pos e2, bdP_ok]
          exact aft2 j1 l1 s hs hj1 (by omega)
        · rw [if_neg e2] at hb1
          rw [if_neg e2, if_neg e2, joint_eq (by omega)]
          show CRes K N σ0 (suL K V j1 (l1 ++ [suC x2])) _
          refine CRes_w (putS_c (s := suC x2) hs (by omega) ?_ (by omega)) (fun s2 hs2 => aft2 j1 _ s2 hs2 hj1 ?_)
          · rcases hx2 with q | q | q
            · exact absurd q e2
            · rw [q]; rfl
            · rw [q]; rfl
          · rw [encL_app, encL_one, List.length_append, encS_len]
            have : ¬ (suC x2).1 = 26 := by unfold suC; split <;> decide
            rw [if_neg this]; omega
      rw [fX4_readsSum_L6, if_neg (by omega), h5.2.2]
      by_cases d : x1 = 47
      · have opE : (if x1 = 0 then unA K V j ls else prG K V x1 j ls) = dvA K V j ls := by
          rw [if_neg (by omega), prG, if_neg (by omega)]
        rw [if_pos d, rstS, opE, dvA]
        unfold fX4_readsSum_J48
        rw [h5.2.2]
        by_cases c1 : K j = 1
        · have hl := H.lt h5.2.1 (by omega)
          have hv := H.2.2.2 j c1
          have eV : rd τ 62 (j : Int) = V j := (h.1 62 _ (by decide)).trans ((T j h5.2.1).2 c1)
          rw [if_pos c1, if_pos c1, h5.1, grd_pos (by omega), eV]
          by_cases c2 : V j = 0
          · rw [if_pos c2, if_pos c2]
            exact CRes_ref h (Or.inl rfl)
          · rw [if_neg c2, if_neg c2, if_pos d, if_pos c1, bdP_ok]
            unfold fX4_readsSum_J62
            have u := unit_c H T h (by omega)
            rw [unA, if_pos c1] at u
            obtain ⟨⟨q1, q2⟩, u1, u2, u3⟩ := u
            have u2 : q1 = 1 := u2
            have u3 : AtC K N σ0 (j + 1) (encL (ls ++ [(0, V j)])) q2 := u3
            rw [u1, Option.bind_some, u2]
            show CRes K N σ0 _ (if (1 : Int) = 0 then _ else if x1 = 0 then _ else (fX2_put 38 (fX2_codeOfJoint x1) q2).bind _)
            rw [if_neg n10, if_neg (show ¬ x1 = 0 by omega), joint_eq (by omega), d, show (-11 : Int) - 47 = -58 from rfl]
            rw [if_neg (show ¬ x1 = 0 by omega)] at hb
            have hlen : (encL (ls ++ [(0, V j)])).length = (encL ls).length + 1 := by
              rw [encL_app, List.length_append]; rfl
            have e3 : encL (ls ++ [(0, V j)]) ++ [-58] = encL (ls ++ [(26, V j)]) := by
              rw [encL_app, encL_app, List.append_assoc]; rfl
            have e4 : (encL (ls ++ [(26, V j)])).length = (encL ls).length + 2 := by
              rw [encL_app, List.length_append]; rfl
            refine CRes_w (put1_c (v := -58) u3 (by omega) (by decide)) (fun s2 hs2 => aft (j + 1) (ls ++ [(26, V j)]) s2 (by rw [← e3]; exact hs2) (by omega) ?_)
            rw [e4]; omega
        · rw [if_neg c1, if_neg c1, if_pos d, if_neg c1]
          exact CRes_err h rfl
      · rw [if_neg d]
        unfold fX4_readsSum_J48
        rw [if_neg d]
        unfold fX4_readsSum_J62
        have u := unit_c H T h (by omega)
        by_cases d0 : x1 = 0
        · rw [if_pos d0] at hb
          rw [rstS, if_pos d0]
          refine CRes_bd u (fun s => rfl) (fun j1 l1 s e1 hs => ?_)
          have tl := TyA_len (TyA_unA H h5.2.1 ls) e1
          show CRes K N σ0 _ (if (1 : Int) = 0 then _ else if x1 = 0 then _ else _)
          rw [if_neg n10, if_pos d0]
          have lt : j < j1 := by
            unfold unA at e1
            split at e1
            · cases e1; omega
            · split at e1
              · cases e1; omega
              · cases e1
          exact aft j1 l1 s hs lt (by omega)
        · rw [if_neg d0] at hb
          have d2 : x1 = 42 := by omega
          rw [rstS, if_neg d0, prG, if_pos d2, bdP_assoc]
          refine CRes_bd u (fun s => rfl) (fun j1 l1 s e1 hs => ?_)
          have tl := TyA_len (TyA_unA H h5.2.1 ls) e1
          show CRes K N σ0 _ (if (1 : Int) = 0 then _ else if x1 = 0 then _ else (fX2_put 38 (fX2_codeOfJoint x1) s).bind _)
          rw [if_neg n10, if_neg d0, joint_eq (by omega), d2]
          have lt : j < j1 := by
            unfold unA at e1
            split at e1
            · cases e1; omega
            · split at e1
              · cases e1; omega
              · cases e1
          have s5 := hs.2.2.1
          refine CRes_w (putS_c (s := (25, 0)) hs (by omega) rfl (by decide)) (fun s2 hs2 => ?_)
          show CRes K N σ0 (bdP (apS (25, 0) j1 l1) _) _
          refine aft j1 (l1 ++ [(25, 0)]) s2 hs2 lt ?_
          have e4 : (encL (l1 ++ [(25, 0)])).length = (encL l1).length + 1 := by
            rw [encL_app, List.length_append]; rfl
          rw [e4]; omega
theorem sumA_c (H : HK K V N) (T : TKs K V N σ0) {j : Nat} {ls : Ls} {τ : Sg} (h : AtC K N σ0 j (encL ls) τ) (hb : (encL ls).length ≤ j) : CRes K N σ0 (suA K V j ls) (fX4_readsSum τ) := by
  have e : suA K V j ls = rstS K V 0 0 j ls := by
    rw [suA, prA, bdP_assoc, rstS, if_pos rfl]
    simp only [if_true, bdP_ok]
  rw [e]
  unfold fX4_readsSum
  exact sum_c H T (N + 1) FU 0 0 0 j ls τ (by omega) (by have := H.1; unfold FU; omega) h (Or.inl rfl) (Or.inl rfl) (by simpa using hb) (Int.le_refl _) (by omega)
end
