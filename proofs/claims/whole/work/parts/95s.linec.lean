/-! THE LAW's lines, read by both -/
abbrev Ln := Int × Ls × Ls × Ls
def gL (l : List Ln) (i : Nat) : Ln := l.getD i (0, [], [], [])
theorem gL_l {c d : List Ln} {i : Nat} (h : i < c.length) : gL (c ++ d) i = gL c i := by
  unfold gL
  rw [List.getD_eq_getElem?_getD, List.getD_eq_getElem?_getD, List.getElem?_append_left h]
theorem gL_1 {c : List Ln} {x : Ln} : gL (c ++ [x]) c.length = x := by
  unfold gL
  rw [List.getD_eq_getElem?_getD, List.getElem?_append_right (Nat.le_refl _), Nat.sub_self]
  rfl
def whA (K V : Nat → Int) (j : Nat) (ls : Ls) : Ps := if K j = 6 then anA K (onA K V 8) (j + 1) ls else .ok (j, ls)
def liA (K V : Nat → Int) (cnt j : Nat) (ls : Ls) : Except (Int × Nat) (Nat × Ln) := if 3 ≤ K j ∧ K j ≤ 5 then (if cnt = 16 then .error (3, j) else match suA K V (j + 1) ls with
    | .error e => .error e
    | .ok a => match whA K V a.1 a.2 with
      | .error e => .error e
      | .ok b => if K b.1 = 59 then .ok (b.1 + 1, (K j + 17, ls, a.2, b.2)) else .error (1, b.1)) else .error (1, j)
def lisA (K V : Nat → Int) : Nat → Nat → Ls → List Ln → Except (Int × Nat) (Ls × List Ln)
  | 0, j, ls, lns => .ok (ls, lns)
  | n + 1, j, ls, lns => if K j = 0 then .ok (ls, lns) else match liA K V lns.length j ls with
    | .error e => .error e
    | .ok a => lisA K V n a.1 a.2.2.2.2 (lns ++ [a.2])
/-- what a line is -/
def LnOK (r : Ln) : Prop := (20 ≤ r.1 ∧ r.1 ≤ 22) ∧ (∃ A, r.2.2.1 = r.2.1 ++ A ∧ tys A [] = some [false]) ∧ ∃ B, r.2.2.2 = r.2.2.1 ++ B ∧ (B = [] ∨ tys B [] = some [true])
section
variable {K V : Nat → Int} {N : Nat}
theorem TyA_whA (H : HK K V N) {j : Nat} (hj : j ≤ N) (ls : Ls) : match whA K V j ls with
    | .error x => (x.1 = 1 ∨ x.1 = 2 ∨ x.1 = 3) ∧ j ≤ x.2 ∧ x.2 ≤ N
    | .ok a => j ≤ a.1 ∧ a.1 ≤ N ∧ ∃ new, a.2 = ls ++ new ∧ (encL new).length + j ≤ a.1 ∧ (new = [] ∨ tys new [] = some [true]) := by
  unfold whA
  by_cases c : K j = 6
  · rw [if_pos c]
    have hlt := H.lt hj (by omega)
    have k := TyF_anA H (TyF_onA H 8) (j + 1) ls hlt
    cases e : anA K (onA K V 8) (j + 1) ls with
    | error x =>
      rw [e] at k
      exact ⟨k.1, by have := k.2.1; omega, k.2.2⟩
    | ok a =>
      rw [e] at k
      obtain ⟨a1, a2, new, a3, a4, a5⟩ := k
      exact ⟨by omega, a2, new, a3, by omega, Or.inr (a5 [] (by decide))⟩
  · rw [if_neg c]
    exact ⟨Nat.le_refl _, hj, [], (List.append_nil _).symm, by show 0 + j ≤ j; omega, Or.inl rfl⟩
theorem liA_ok (H : HK K V N) {cnt j : Nat} (hj : j ≤ N) (ls : Ls) : match liA K V cnt j ls with
    | .error x => (x.1 = 1 ∨ x.1 = 2 ∨ x.1 = 3) ∧ j ≤ x.2 ∧ x.2 ≤ N
    | .ok a => j < a.1 ∧ a.1 ≤ N ∧ a.2.2.1 = ls ∧ LnOK a.2 ∧ (encL a.2.2.2.2).length + j ≤ (encL ls).length + a.1 ∧ cnt ≠ 16 := by
  unfold liA
  by_cases c : 3 ≤ K j ∧ K j ≤ 5
  · have hlt := H.lt hj (by omega)
    rw [if_pos c]
    by_cases c2 : cnt = 16
    · rw [if_pos c2]; exact ⟨Or.inr (Or.inr rfl), Nat.le_refl _, hj⟩
    · rw [if_neg c2]
      have k := TyA_suA H (show j + 1 ≤ N from hlt) ls
      cases e : suA K V (j + 1) ls with
      | error x =>
        rw [e] at k
        exact ⟨k.1, by have := k.2.1; omega, k.2.2⟩
      | ok a =>
        rw [e] at k
        obtain ⟨a1, a2, new, a3, a4, a5⟩ := k
        have k2 := TyA_whA H a2 a.2
        show match (match whA K V a.1 a.2 with
          | .error e => .error e
          | .ok b => if K b.1 = 59 then .ok (b.1 + 1, (K j + 17, ls, a.2, b.2)) else .error (1, b.1) : Except (Int × Nat) (Nat × Ln)) with
          | .error x => (x.1 = 1 ∨ x.1 = 2 ∨ x.1 = 3) ∧ j ≤ x.2 ∧ x.2 ≤ N
          | .ok a => j < a.1 ∧ a.1 ≤ N ∧ a.2.2.1 = ls ∧ LnOK a.2 ∧ (encL a.2.2.2.2).length + j ≤ (encL ls).length + a.1 ∧ cnt ≠ 16
        cases e2 : whA K V a.1 a.2 with
        | error x =>
          rw [e2] at k2
          exact ⟨k2.1, by have := k2.2.1; omega, k2.2.2⟩
        | ok b =>
          rw [e2] at k2
          obtain ⟨b1, b2, nw2, b3, b4, b5⟩ := k2
          show match (if K b.1 = 59 then .ok (b.1 + 1, (K j + 17, ls, a.2, b.2)) else .error (1, b.1) : Except (Int × Nat) (Nat × Ln)) with
            | .error x => (x.1 = 1 ∨ x.1 = 2 ∨ x.1 = 3) ∧ j ≤ x.2 ∧ x.2 ≤ N
            | .ok a => j < a.1 ∧ a.1 ≤ N ∧ a.2.2.1 = ls ∧ LnOK a.2 ∧ (encL a.2.2.2.2).length + j ≤ (encL ls).length + a.1 ∧ cnt ≠ 16
          by_cases c3 : K b.1 = 59
          · have hl2 := H.lt b2 (by omega)
            rw [if_pos c3]
            refine ⟨by show j < b.1 + 1; omega, hl2, rfl, ⟨by show 20 ≤ K j + 17 ∧ K j + 17 ≤ 22; omega, ⟨new, a3, a5 [] (by decide)⟩, nw2, b3, b5⟩, ?_, c2⟩
            show (encL b.2).length + j ≤ (encL ls).length + (b.1 + 1)
            rw [b3, a3, encL_app, encL_app, List.length_append, List.length_append]; omega
          · rw [if_neg c3]; exact ⟨Or.inl rfl, by show j ≤ b.1; omega, b2⟩
  · rw [if_neg c]; exact ⟨Or.inl rfl, Nat.le_refl _, hj⟩
end
/-! the class -/
def LnC (lns : List Ln) (ls : Ls) (τ : Sg) : Prop := rd τ 38 6 = lns.length ∧ rd τ 41 lns.length = (encL ls).length ∧ ∀ i : Nat, i < lns.length → rd τ 40 i = (gL lns i).1 - 17 ∧ rd τ 41 i = (encL (gL lns i).2.1).length ∧ rd τ 42 i = (encL (gL lns i).2.2.1).length ∧ rd τ 41 ((i : Int) + 1) = (encL (gL lns i).2.2.2).length
section
variable {K V : Nat → Int} {N : Nat} {σ0 : Sg}
theorem AtC_base {j : Nat} {c : List Int} {τ : Sg} (h : AtC K N σ0 j c τ) : AtC K N τ j c τ := ⟨Fr.rf, ⟨rfl, rfl, h.2.1.2.2⟩, h.2.2.1, h.2.2.2⟩
theorem TKs_fr {l : List Nat} {σ τ : Sg} (T : TKs K V N σ) (h : Fr l σ τ) (h1 : 61 ∉ l) (h2 : 62 ∉ l) : TKs K V N τ := fun j hj => ⟨(h 61 j h1).trans (T j hj).1, fun q => (h 62 j h2).trans ((T j hj).2 q)⟩
theorem AtC_wr {j : Nat} {c : List Int} {τ : Sg} {k : Nat} {i v : Int} (h : AtC K N τ j c τ) (hk : k ≠ 64 ∧ k ≠ 38 ∧ k ≠ 39 ∨ k = 38 ∧ i = 6) : AtC K N (wr τ k i v) j c (wr τ k i v) := by
  obtain ⟨-, ⟨-, -, h4⟩, ⟨h5, h6, h7⟩, h8, h9⟩ := h
  refine ⟨Fr.rf, ⟨rfl, rfl, ?_⟩, ⟨?_, h6, ?_⟩, ?_, fun q hq => ?_⟩
  · rw [rq_c (by omega)]; exact h4
  · rw [rq_c (by omega)]; exact h5
  · rw [rq_c (by omega)]; exact h7
  · rw [rd_wr, if_neg (by omega)]; exact h8
  · rw [rq_c (by omega)]; exact h9 q hq
def CLi (K : Nat → Int) (N : Nat) (lns : List Ln) (σ : Sg) (r : Except (Int × Nat) (Nat × Ln)) (o : Option (Int × Sg)) : Prop := match r with
  | .error e => wp o (fun q => q.1 = 0 ∧ Fr [64, 38, 39, 40, 41, 42] σ q.2 ∧ rd q.2 64 5 = e.2 ∧ e.2 ≤ N ∧ rd q.2 64 0 = if e.1 = 1 then 0 else e.1)
  | .ok a => wp o (fun q => q.1 = 1 ∧ Fr [64, 38, 39, 40, 41, 42] σ q.2 ∧ rd q.2 64 1 = rd σ 64 1 ∧ AtC K N q.2 a.1 (encL a.2.2.2.2) q.2 ∧ LnC (lns ++ [a.2]) a.2.2.2.2 q.2)
theorem line_c (H : HK K V N) (T : TKs K V N σ0) {j : Nat} {ls : Ls} {lns : List Ln} {hn : lns.length ≤ 16} (h : AtC K N σ0 j (encL ls) σ0) (hb : (encL ls).length ≤ j) (hl : LnC lns ls σ0) : CLi K N lns σ0 (liA K V lns.length j ls) (fX4_lawLine σ0) := by
  have hN := H.1
  obtain ⟨l1, l2, l3⟩ := hl
  have h5 := h.2.2.1
  have mid : 3 ≤ K j ∧ K j ≤ 5 → CLi K N lns σ0 (liA K V lns.length j ls) (fX4_lawLine_J34 σ0) := by
    intro c
    have hlt := H.lt h5.2.1 (by omega)
    unfold fX4_lawLine_J34 liA
    rw [l1, if_pos c]
    by_cases c2 : lns.length = 16
    · rw [if_pos c2, if_neg (by omega)]
      refine ⟨_, rfl, rfl, Fr.rf.wr (by decide), (rq_i (by decide)).trans h5.1, h5.2.1, ?_⟩
      show rd (wr σ0 64 0 3) 64 0 = _
      rw [rq_s]; rfl
    · rw [if_neg c2, if_pos (by omega), grd_pos (by omega), h5.2.2]
      -- the about is written
      have ha : AtC K N (wr σ0 40 lns.length (K j)) j (encL ls) (wr σ0 40 lns.length (K j)) := AtC_wr h (Or.inl (by decide))
      have Ta : TKs K V N (wr σ0 40 lns.length (K j)) := TKs_fr T (Fr.rf.wr (l := [40]) (by decide)) (by decide) (by decide)
      obtain ⟨s1, p1, h1⟩ := pass_c H Ta ha hlt
      rw [p1, Option.bind_some]
      have r2 := sumA_c H Ta h1 (by omega)
      have k2 := TyA_suA H (show j + 1 ≤ N from hlt) ls
      cases e2 : suA K V (j + 1) ls with
      | error x =>
        rw [e2] at r2
        obtain ⟨⟨q1, q2⟩, o1, o2, o3, o4, o5, o6⟩ := r2
        have o2 : q1 = 0 := o2
        rw [o1, Option.bind_some, o2]
        refine ⟨_, rfl, rfl, ?_, o4, o5, o6⟩
        exact ((Fr.rf.wr (by decide) : Fr [64, 38, 39, 40, 41, 42] σ0 (wr σ0 40 lns.length (K j)))).tr (o3.mo (by decide))
      | ok a =>
        rw [e2] at r2 k2
        obtain ⟨k21, k22, new, k23, k24, k25⟩ := k2
        obtain ⟨⟨q1, s2⟩, o1, o2, h2⟩ := r2
        have o2 : q1 = 1 := o2
        have h2 : AtC K N (wr σ0 40 lns.length (K j)) a.1 (encL a.2) s2 := h2
        rw [o1, Option.bind_some, o2]
        have f2 : Fr [64, 38, 39, 40, 41, 42] σ0 s2 := (Fr.rf.wr (by decide) : Fr [64, 38, 39, 40, 41, 42] σ0 (wr σ0 40 lns.length (K j))).tr (h2.1.mo (by decide))
        have z2 : rd s2 38 7 = (encL a.2).length := h2.2.2.2.1
        show CLi K N lns σ0 _ (if (1 : Int) = 0 then _ else grd ((0 : Int) ≤ lns.length ∧ (lns.length : Int) < 16) (if (rd (wr s2 42 lns.length (rd s2 38 7)) 64 6) = 6 then (fX4_pass (wr s2 42 lns.length (rd s2 38 7))).bind fun s7 => (fX4_readsEither 40 0 s7).bind fun q8 => if q8.1 = 0 then some (0, q8.2) else fX4_lawLine_J107 lns.length q8.2 else fX4_lawLine_J107 lns.length (wr s2 42 lns.length (rd s2 38 7))))
        rw [if_neg n10, grd_pos (by omega), z2]
        have hb3 : AtC K N (wr s2 42 lns.length ((encL a.2).length : Int)) a.1 (encL a.2) (wr s2 42 lns.length ((encL a.2).length : Int)) := AtC_wr (AtC_base h2) (Or.inl (by decide))
        have fb3 : Fr [64, 38, 39, 40, 41, 42] σ0 (wr s2 42 lns.length ((encL a.2).length : Int)) := f2.wr (by decide)
        have Tb : TKs K V N (wr s2 42 lns.length ((encL a.2).length : Int)) := TKs_fr T fb3 (by decide) (by decide)
        rw [hb3.2.2.1.2.2]
        have lena : (encL a.2).length ≤ a.1 := by
          rw [k23, encL_app, List.length_append]; omega
        -- its end
        have fin : ∀ (b : Nat × Ls) (s : Sg), AtC K N (wr s2 42 lns.length ((encL a.2).length : Int)) b.1 (encL b.2) s → (encL b.2).length ≤ b.1 → CLi K N lns σ0 (if K b.1 = 59 then .ok (b.1 + 1, (K j + 17, ls, a.2, b.2)) else .error (1, b.1)) (fX4_lawLine_J107 lns.length s) := by
          intro b s hs hbb
          have s5 := hs.2.2.1
          have fs : Fr [64, 38, 39, 40, 41, 42] σ0 s := fb3.tr (hs.1.mo (by decide))
          unfold fX4_lawLine_J107
          rw [bw_id (z := ((lns.length : Nat) : Int) + 1) (by omega) (by omega), grd_pos (by omega), hs.2.2.2.1]
          have hc : AtC K N (wr (wr s 41 ((lns.length : Int) + 1) ((encL b.2).length : Int)) 38 6 ((lns.length : Int) + 1)) b.1 (encL b.2) (wr (wr s 41 ((lns.length : Int) + 1) ((encL b.2).length : Int)) 38 6 ((lns.length : Int) + 1)) := AtC_wr (AtC_wr (AtC_base hs) (Or.inl (by decide))) (Or.inr ⟨rfl, rfl⟩)
          have fc : Fr [64, 38, 39, 40, 41, 42] σ0 (wr (wr s 41 ((lns.length : Int) + 1) ((encL b.2).length : Int)) 38 6 ((lns.length : Int) + 1)) := (fs.wr (by decide)).wr (by decide)
          have r := passes_c (x := 59) H (TKs_fr T fc (by decide) (by decide)) (by decide) hc
          unfold clA at r
          by_cases c3 : K b.1 = 59
          · rw [if_pos c3] at r ⊢
            obtain ⟨⟨q1, q2⟩, o1, o2, o3⟩ := r
            have o2 : q1 = 1 := o2
            have o3 : AtC K N (wr (wr s 41 ((lns.length : Int) + 1) ((encL b.2).length : Int)) 38 6 ((lns.length : Int) + 1)) (b.1 + 1) (encL b.2) q2 := o3
            rw [o1, Option.bind_some, o2]
            refine ⟨_, rfl, rfl, fc.tr (o3.1.mo (by decide)), ?_, AtC_base o3, ?_, ?_, fun i hi => ?_⟩
            · show rd q2 64 1 = _
              rw [o3.2.1.2.1, rq_c (by decide), rq_c (by decide), hs.2.1.2.1, rq_c (by decide), h2.2.1.2.1, rq_c (by decide)]
            · show rd q2 38 6 = _
              rw [o3.2.1.1, rq_s, bw_id (by omega) (by omega), List.length_append]; simp
            · show rd q2 41 _ = ((encL b.2).length : Int)
              rw [o3.1 41 _ (by decide), rq_c (by decide), List.length_append]
              have : (((lns.length + [((K j + 17, ls, a.2, b.2) : Ln)].length : Nat)) : Int) = (lns.length : Int) + 1 := by simp
              rw [this, rq_s, bw_id (by omega) (by omega)]
            · rw [List.length_append] at hi
              simp only [List.length_cons, List.length_nil] at hi
              have g40 : ∀ q : Int, rd q2 40 q = rd (wr σ0 40 lns.length (K j)) 40 q := fun q => by
                rw [o3.1 40 _ (by decide), rq_c (by decide), rq_c (by decide), hs.1 40 _ (by decide), rq_c (by decide), h2.1 40 _ (by decide)]
              have g41 : ∀ q : Int, rd q2 41 q = rd (wr σ0 41 ((lns.length : Int) + 1) ((encL b.2).length : Int)) 41 q := fun q => by
                rw [o3.1 41 _ (by decide), rq_c (by decide), rd_wr, rd_wr, hs.1 41 _ (by decide), rq_c (by decide), h2.1 41 _ (by decide), rq_c (by decide)]
              have g42 : ∀ q : Int, rd q2 42 q = rd (wr σ0 42 lns.length ((encL a.2).length : Int)) 42 q := fun q => by
                rw [o3.1 42 _ (by decide), rq_c (by decide), rq_c (by decide), hs.1 42 _ (by decide), rd_wr, rd_wr, h2.1 42 _ (by decide), rq_c (by decide)]
              show rd q2 40 i = _ ∧ rd q2 41 i = _ ∧ rd q2 42 i = _ ∧ rd q2 41 ((i : Int) + 1) = _
              rw [g40, g41, g42, g41]
              by_cases e : i = lns.length
              · rw [e, gL_1, rq_s, rq_i (by omega), rq_s, rq_s]
                refine ⟨?_, l2, bw_id (by omega) (by omega), bw_id (by omega) (by omega)⟩
                show bw (K j) = K j + 17 - 17
                rw [bw_id (by omega) (by omega)]; omega
              · obtain ⟨w1, w2, w3, w4⟩ := l3 i (by omega)
                rw [gL_l (by omega), rq_i (by omega), rq_i (by omega), rq_i (by omega), rq_i (by omega)]
                exact ⟨w1, w2, w3, w4⟩
          · rw [if_neg c3] at r ⊢
            obtain ⟨⟨q1, q2⟩, o1, o2, o3, o4, o5, o6⟩ := r
            have o2 : q1 = 0 := o2
            rw [o1, Option.bind_some, o2]
            exact ⟨_, rfl, rfl, fc.tr (o3.mo (by decide)), o4, o5, o6⟩
        show CLi K N lns σ0 (match whA K V a.1 a.2 with
          | .error e => .error e
          | .ok b => if K b.1 = 59 then .ok (b.1 + 1, (K j + 17, ls, a.2, b.2)) else .error (1, b.1)) _
        unfold whA
        by_cases c6 : K a.1 = 6
        · have hl6 := H.lt k22 (by omega)
          rw [if_pos c6, if_pos c6]
          obtain ⟨s3, p3, h3⟩ := pass_c H Tb hb3 hl6
          rw [p3, Option.bind_some]
          have r4 := bA_c H Tb h3 (by omega)
          have k4 := TyF_anA H (TyF_onA H 8) (a.1 + 1) a.2 hl6
          cases e4 : anA K (onA K V 8) (a.1 + 1) a.2 with
          | error x =>
            rw [e4] at r4
            obtain ⟨⟨q1, q2⟩, o1, o2, o3, o4, o5, o6⟩ := r4
            have o2 : q1 = 0 := o2
            rw [o1, Option.bind_some, o2]
            exact ⟨_, rfl, rfl, fb3.tr (o3.mo (by decide)), o4, o5, o6⟩
          | ok b =>
            rw [e4] at r4 k4
            obtain ⟨k41, k42, nw4, k43, k44, k45⟩ := k4
            obtain ⟨⟨q1, s4⟩, o1, o2, h4⟩ := r4
            have o2 : q1 = 1 := o2
            rw [o1, Option.bind_some, o2]
            show CLi K N lns σ0 _ (if (1 : Int) = 0 then _ else fX4_lawLine_J107 lns.length s4)
            rw [if_neg n10]
            exact fin b s4 h4 (by rw [k43, encL_app, List.length_append]; omega)
        · rw [if_neg c6, if_neg c6]
          exact fin a _ hb3 lena
  unfold fX4_lawLine
  rw [h5.2.2]
  by_cases c3 : K j = 3
  · rw [if_pos c3]; exact mid (by omega)
  rw [if_neg c3]
  by_cases c4 : K j = 4
  · rw [if_pos c4]; exact mid (by omega)
  rw [if_neg c4]
  by_cases c5 : K j = 5
  · rw [if_pos c5]; exact mid (by omega)
  rw [if_neg c5, liA, if_neg (by omega)]
  exact ⟨_, rfl, rfl, Fr.rf, h5.1, h5.2.1, h.2.1.2.2⟩
end
