/-! the class reads a B -/
section
variable {K V : Nat → Int} {N : Nat} {σ0 : Sg}
def restE (K : Nat → Int) (f : Nat → Ls → Ps) (x2 x3 : Int) (j : Nat) (ls : Ls) : Ps := bdP (f j ls) (fun j1 l1 => bdP (if x2 = 0 then .ok (j1, l1) else apS (31, 0) j1 l1) (fun j2 l2 => bdP (anL K f j2 l2) (fun j3 l3 => bdP (if x3 = 0 then .ok (j3, l3) else apS (32, 0) j3 l3) (orL K f))))
theorem restE_1 (H : HK K V N) {f : Nat → Ls → Ps} {h : Nat} (F : TyF N h f) {x3 : Int} {j : Nat} (ls : Ls) (hj : j ≤ N) : bdP (anL K f j ls) (fun j3 l3 => bdP (if x3 = 0 then .ok (j3, l3) else apS (32, 0) j3 l3) (orL K f)) = if K j = 8 then restE K f 1 x3 (j + 1) ls else bdP (if x3 = 0 then .ok (j, ls) else apS (32, 0) j ls) (orL K f) := by
  rw [anL_unf H F ls hj]
  by_cases c : K j = 8
  · rw [if_pos c, if_pos (show isAn (K j) = true from decide_eq_true c), bdP_assoc, bdP_assoc, restE]
    simp only [if_neg n10]
  · rw [if_neg c, if_neg (show ¬ isAn (K j) = true from fun q => c (of_decide_eq_true q)), bdP_ok]
theorem restE_2 (H : HK K V N) {f : Nat → Ls → Ps} {h : Nat} (F : TyF N h f) {j : Nat} (ls : Ls) (hj : j ≤ N) : orL K f j ls = if K j = 7 then restE K f 0 1 (j + 1) ls else .ok (j, ls) := by
  rw [orL_unf H F ls hj]
  by_cases c : K j = 7
  · rw [if_pos c, if_pos (show isOr (K j) = true from decide_eq_true c), evA, bdP_assoc, bdP_assoc, restE]
    simp only [if_neg n10, if_true, bdP_ok]
  · rw [if_neg c, if_neg (show ¬ isOr (K j) = true from fun q => c (of_decide_eq_true q))]
theorem either_c (H : HK K V N) (T : TKs K V N σ0) {f : Nat → Ls → Ps} {h0 : Nat} (F : TyF N h0 f) {rE rS : Int → Sg → Option (Int × Sg)} {x1 : Int} (hS : ∀ j ls τ, AtC K N σ0 j (encL ls) τ → (encL ls).length ≤ j → CRes K N σ0 (f j ls) (rS x1 τ)) : ∀ (m n : Nat) (x2 x3 x4 : Int) (j : Nat) (ls : Ls) (τ : Sg), N - j < m → m ≤ n → AtC K N σ0 j (encL ls) τ → (x2 = 0 ∨ x2 = 1) → (x3 = 0 ∨ x3 = 1) → (encL ls).length + (if x2 = 0 then 0 else 1) + (if x3 = 0 then 0 else 1) ≤ j → 0 ≤ x4 → x4 ≤ j → CRes K N σ0 (restE K f x2 x3 j ls) (fX4_readsEither_L7 rE rS x1 n x2 x3 x4 τ) := by
  intro m
  induction m with
  | zero => intro n x2 x3 x4 j ls τ hm; omega
  | succ m ih =>
    intro n x2 x3 x4 j ls τ hm hn h hx2 hx3 hb y0 y1
    cases n with
    | zero => omega
    | succ n =>
      have h5 := h.2.2.1
      have hN := H.1
      -- an or behind it, or none
      have aft2 : ∀ (j1 : Nat) (l1 : Ls) (s : Sg), AtC K N σ0 j1 (encL l1) s → j ≤ j1 → (encL l1).length ≤ j1 → CRes K N σ0 (orL K f j1 l1) (fX4_readsEither_J82 rE rS (fX4_readsEither_J97 rE rS (fX4_readsEither_L7 rE rS x1 n) x1 0 x4) x1 0 x4 s) := by
        intro j1 l1 s hs hj1 hb1
        have s5 := hs.2.2.1
        unfold fX4_readsEither_J82
        rw [s5.2.2, restE_2 H F l1 s5.2.1]
        by_cases c : K j1 = 7
        · have hl := H.lt s5.2.1 (by omega)
          rw [if_pos c, if_pos c]
          unfold fX4_readsEither_J97 fX4_readsEither_J107
          rw [if_pos p00, if_neg n10, bw_id (z := x4 + 1) (by omega) (by omega)]
          exact CRes_w (pass_c H T hs hl) (fun s2 hs2 => ih n 0 1 (x4 + 1) (j1 + 1) l1 s2 (by omega) (by omega) hs2 (Or.inl rfl) (Or.inr rfl) (by rw [if_pos rfl, if_neg n10]; omega) (by omega) (by omega))
        · rw [if_neg c, if_neg c]
          unfold fX4_readsEither_J97
          rw [if_pos p00, if_pos p00]
          exact CRes_done hs
      -- behind a C
      have aft : ∀ (j1 : Nat) (l1 : Ls) (s : Sg), AtC K N σ0 j1 (encL l1) s → j ≤ j1 → (encL l1).length + (if x3 = 0 then 0 else 1) ≤ j1 → CRes K N σ0 (bdP (anL K f j1 l1) (fun j3 l3 => bdP (if x3 = 0 then .ok (j3, l3) else apS (32, 0) j3 l3) (orL K f))) (fX4_readsEither_J44 rE rS (fX4_readsEither_L7 rE rS x1 n) x1 x3 x4 s) := by
        intro j1 l1 s hs hj1 hb1
        have s5 := hs.2.2.1
        unfold fX4_readsEither_J44
        rw [s5.2.2, restE_1 H F l1 s5.2.1]
        by_cases c : K j1 = 8
        · have hl := H.lt s5.2.1 (by omega)
          rw [if_pos c, if_pos c]
          unfold fX4_readsEither_J58
          rw [if_neg n10]
          unfold fX4_readsEither_J97 fX4_readsEither_J107
          rw [if_neg n10, bw_id (z := x4 + 1) (by omega) (by omega)]
          exact CRes_w (pass_c H T hs hl) (fun s2 hs2 => ih n 1 x3 (x4 + 1) (j1 + 1) l1 s2 (by omega) (by omega) hs2 (Or.inr rfl) hx3 (by rw [if_neg n10]; omega) (by omega) (by omega))
        · rw [if_neg c, if_neg c]
          unfold fX4_readsEither_J58
          rw [if_pos p00]
          by_cases e3 : x3 = 0
          · rw [if_pos e3] at hb1
            rw [if_pos e3, if_pos e3, bdP_ok]
            exact aft2 j1 l1 s hs hj1 (by omega)
          · rw [if_neg e3] at hb1
            rw [if_neg e3, if_neg e3, joint_eq (by omega)]
            show CRes K N σ0 (orL K f j1 (l1 ++ [(32, 0)])) _
            have e4 : (encL (l1 ++ [(32, 0)])).length = (encL l1).length + 1 := by
              rw [encL_app, List.length_append]; rfl
            exact CRes_w (putS_c (s := (32, 0)) hs (by omega) rfl (by decide)) (fun s2 hs2 => aft2 j1 _ s2 hs2 hj1 (by rw [e4]; omega))
      rw [fX4_readsEither_L7, if_neg (by omega), restE]
      refine CRes_bd (hS j ls τ h (by omega)) (fun s => rfl) (fun j1 l1 s e1 hs => ?_)
      have tl := TyA_len (F j ls h5.2.1) e1
      by_cases d : x2 = 0
      · rw [if_pos d] at hb
        show CRes K N σ0 _ (if (1 : Int) = 0 then _ else if x2 = 0 then _ else _)
        rw [if_neg n10, if_pos d, if_pos d, bdP_ok]
        exact aft j1 l1 s hs tl.2.1 (by omega)
      · rw [if_neg d] at hb
        show CRes K N σ0 _ (if (1 : Int) = 0 then _ else if x2 = 0 then _ else (fX2_put 38 (fX2_codeOfJoint 8) s).bind _)
        rw [if_neg n10, if_neg d, if_neg d, joint_eq (by omega)]
        rw [apS, bdP_ok]
        have e4 : (encL (l1 ++ [(31, 0)])).length = (encL l1).length + 1 := by
          rw [encL_app, List.length_append]; rfl
        exact CRes_w (putS_c (s := (31, 0)) hs (by omega) rfl (by decide)) (fun s2 hs2 => aft j1 _ s2 hs2 tl.2.1 (by rw [e4]; omega))
theorem anA_rest {f : Nat → Ls → Ps} (j : Nat) (ls : Ls) : anA K f j ls = restE K f 0 0 j ls := by
  rw [anA, evA, bdP_assoc, restE]
  simp only [if_true, bdP_ok]
theorem anA_c (H : HK K V N) (T : TKs K V N σ0) {f : Nat → Ls → Ps} {h0 : Nat} (F : TyF N h0 f) {rE rS : Int → Sg → Option (Int × Sg)} {x1 : Int} (hS : ∀ j ls τ, AtC K N σ0 j (encL ls) τ → (encL ls).length ≤ j → CRes K N σ0 (f j ls) (rS x1 τ)) {j : Nat} {ls : Ls} {τ : Sg} (h : AtC K N σ0 j (encL ls) τ) (hb : (encL ls).length ≤ j) : CRes K N σ0 (anA K f j ls) (gX4_readsEither rE rS x1 τ) := by
  rw [anA_rest]
  unfold gX4_readsEither
  exact either_c H T F hS (N + 1) FU 0 0 0 j ls τ (by omega) (by have := H.1; unfold FU; omega) h (Or.inl rfl) (Or.inl rfl) (by simpa using hb) (Int.le_refl _) (by omega)
theorem tsA_c (H : HK K V N) (T : TKs K V N σ0) {j : Nat} {ls : Ls} {τ : Sg} (rE rS : Int → Sg → Option (Int × Sg)) (h : AtC K N σ0 j (encL ls) τ) (hb : (encL ls).length ≤ j) : CRes K N σ0 (tsA K V j ls) ((fX4_readsSum τ).bind fun q14 => if q14.1 = 0 then some (0, q14.2) else (fX4_passes 60 q14.2).bind fun q16 => if q16.1 = 0 then (fX4_passes 61 q16.2).bind fun q22 => if q22.1 = 0 then (fX4_passes 62 q22.2).bind fun q24 => if q24.1 = 0 then some (0, q24.2) else fX4_readsSingle_J131 rE rS (rd q14.2 64 6) q24.2 else fX4_readsSingle_J131 rE rS (rd q14.2 64 6) q22.2 else fX4_readsSingle_J131 rE rS (rd q14.2 64 6) q16.2) := by
  have h5 := h.2.2.1
  refine CRes_bd (sumA_c H T h hb) (fun s => rfl) (fun j1 l1 s e1 hs => ?_)
  have tl := TyA_len (TyA_suA H h5.2.1 ls) e1
  have s5 := hs.2.2.1
  have hN := H.1
  show CRes K N σ0 _ (if (1 : Int) = 0 then _ else (fX4_passes 60 s).bind fun q16 => if q16.1 = 0 then (fX4_passes 61 q16.2).bind fun q22 => if q22.1 = 0 then (fX4_passes 62 q22.2).bind fun q24 => if q24.1 = 0 then some (0, q24.2) else fX4_readsSingle_J131 rE rS (rd s 64 6) q24.2 else fX4_readsSingle_J131 rE rS (rd s 64 6) q22.2 else fX4_readsSingle_J131 rE rS (rd s 64 6) q16.2)
  rw [if_neg n10, s5.2.2, tsE]
  have no : ∀ x : Int, K j1 ≠ x → fX4_passes x s = some (0, s) := fun x hx => by
    unfold fX4_passes
    rw [s5.2.2, if_neg hx]
  have yes : ∀ x : Int, K j1 = x → x ≠ 0 → ∃ s2, fX4_passes x s = some (1, s2) ∧ AtC K N σ0 (j1 + 1) (encL l1) s2 := fun x hx x0 => by
    have p := passes_c H T x0 hs
    rw [clA, if_pos hx] at p
    obtain ⟨⟨q1, q2⟩, p1, p2, p3⟩ := p
    have p2 : q1 = 1 := p2
    rw [p2] at p1
    exact ⟨q2, p1, p3⟩
  have fin : (K j1 = 60 ∨ K j1 = 61 ∨ K j1 = 62) → ∀ s2, AtC K N σ0 (j1 + 1) (encL l1) s2 → CRes K N σ0 (bdP (suA K V (j1 + 1) l1) (apS (K j1 - 33, 0))) (fX4_readsSingle_J131 rE rS (K j1) s2) := by
    intro c s2 hs2
    unfold fX4_readsSingle_J131
    refine CRes_bd (sumA_c H T hs2 (by omega)) (fun s => rfl) (fun j3 l3 s3 e3 hs3 => ?_)
    have tl3 := TyA_len (TyA_suA H hs2.2.2.1.2.1 l1) e3
    show CRes K N σ0 _ (if (1 : Int) = 0 then _ else (fX2_put 38 (fX2_codeOfJoint (K j1)) s3).bind _)
    rw [if_neg n10, joint_eq (by omega)]
    have s35 := hs3.2.2.1
    refine CRes_w (putS_c (s := (K j1 - 33, 0)) hs3 (by omega) ?_ (by omega)) (fun s4 hs4 => CRes_done hs4)
    rcases c with c | c | c <;> rw [c] <;> rfl
  by_cases c0 : K j1 = 60
  · obtain ⟨s2, p1, p2⟩ := yes 60 c0 (by decide)
    rw [p1, Option.bind_some, if_pos (Or.inl c0)]
    exact fin (Or.inl c0) s2 p2
  rw [no 60 c0, Option.bind_some]
  show CRes K N σ0 _ (if (0 : Int) = 0 then (fX4_passes 61 s).bind fun q22 => if q22.1 = 0 then (fX4_passes 62 q22.2).bind fun q24 => if q24.1 = 0 then some (0, q24.2) else fX4_readsSingle_J131 rE rS (K j1) q24.2 else fX4_readsSingle_J131 rE rS (K j1) q22.2 else _)
  rw [if_pos p00]
  by_cases c1 : K j1 = 61
  · obtain ⟨s2, p1, p2⟩ := yes 61 c1 (by decide)
    rw [p1, Option.bind_some, if_pos (Or.inr (Or.inl c1))]
    exact fin (Or.inr (Or.inl c1)) s2 p2
  rw [no 61 c1, Option.bind_some]
  show CRes K N σ0 _ (if (0 : Int) = 0 then (fX4_passes 62 s).bind fun q24 => if q24.1 = 0 then some (0, q24.2) else fX4_readsSingle_J131 rE rS (K j1) q24.2 else _)
  rw [if_pos p00]
  by_cases c2 : K j1 = 62
  · obtain ⟨s2, p1, p2⟩ := yes 62 c2 (by decide)
    rw [p1, Option.bind_some, if_pos (Or.inr (Or.inr c2))]
    exact fin (Or.inr (Or.inr c2)) s2 p2
  rw [no 62 c2, Option.bind_some, if_neg (fun q => q.elim c0 (fun q => q.elim c1 c2))]
  exact CRes_err hs rfl
theorem onA_c (H : HK K V N) (T : TKs K V N σ0) : ∀ (r n : Nat) (x1 : Int), r ≤ 8 → x1 = 8 - (r : Int) → 2 * r + 1 ≤ n → ∀ j ls τ, AtC K N σ0 j (encL ls) τ → (encL ls).length ≤ j → CRes K N σ0 (onA K V r j ls) ((rg_X4_readsEither n).2 x1 τ) := by
  intro r
  induction r with
  | zero =>
    intro n x1 hr hx hn j ls τ h hb
    have h5 := h.2.2.1
    cases n with
    | zero => omega
    | succ n =>
      show CRes K N σ0 _ (gX4_readsSingle ((rg_X4_readsEither n).1) ((rg_X4_readsEither n).2) x1 τ)
      unfold gX4_readsSingle fX4_readsSingle_J17
      rw [h5.2.2, onA, if_neg (show ¬ x1 < 8 by omega)]
      by_cases c1 : K j = 9
      · rw [if_pos c1, if_pos (Or.inl c1)]; exact CRes_ref h (Or.inr rfl)
      rw [if_neg c1]
      by_cases c2 : K j = 40
      · rw [if_pos c2, if_pos (Or.inr c2)]; exact CRes_ref h (Or.inr rfl)
      rw [if_neg c2, if_neg (fun q => q.elim c1 c2)]
      exact tsA_c H T _ _ h hb
  | succ r ih =>
    intro n x1 hr hx hn j ls τ h hb
    have h5 := h.2.2.1
    have hN := H.1
    cases n with
    | zero => omega
    | succ n =>
      show CRes K N σ0 _ (gX4_readsSingle ((rg_X4_readsEither n).1) ((rg_X4_readsEither n).2) x1 τ)
      unfold gX4_readsSingle fX4_readsSingle_J17
      rw [h5.2.2, onA, if_pos (show x1 < 8 by omega), bw_id (z := x1 + 1) (by omega) (by omega)]
      by_cases c1 : K j = 9
      · have hl := H.lt h5.2.1 (by omega)
        rw [if_pos c1, if_pos c1]
        refine CRes_w (pass_c H T h hl) (fun s hs => ?_)
        rw [if_neg (show ¬ K j = 40 by omega)]
        refine CRes_bd (ih n (x1 + 1) (by omega) (by omega) (by omega) (j + 1) ls s hs (by omega)) (fun s => rfl) (fun j3 l3 s3 e3 hs3 => ?_)
        have tl3 := TyA_len (TyF_onA H r (j + 1) ls hl) e3
        show CRes K N σ0 _ (if (1 : Int) = 0 then _ else (fX2_put 38 (-20) s3).bind _)
        rw [if_neg n10]
        exact CRes_w (putS_c (s := (30, 0)) hs3 (by omega) rfl (by decide)) (fun s4 hs4 => CRes_done hs4)
      rw [if_neg c1, if_neg c1]
      by_cases c2 : K j = 40
      · have hl := H.lt h5.2.1 (by omega)
        rw [if_pos c2, if_pos c2]
        refine CRes_w (pass_c H T h hl) (fun s hs => ?_)
        rw [if_pos c2]
        have st : CRes K N σ0 (anA K (onA K V r) (j + 1) ls) ((rg_X4_readsEither n).1 (x1 + 1) s) := by
          cases n with
          | zero => omega
          | succ n =>
            show CRes K N σ0 _ (gX4_readsEither ((rg_X4_readsEither n).1) ((rg_X4_readsEither n).2) (x1 + 1) s)
            exact anA_c H T (TyF_onA H r) (fun j ls τ a b => ih n (x1 + 1) (by omega) (by omega) (by omega) j ls τ a b) hs (by omega)
        refine CRes_bd st (fun s => rfl) (fun j3 l3 s3 e3 hs3 => ?_)
        show CRes K N σ0 _ (if (1 : Int) = 0 then _ else (fX4_passes 41 s3).bind fun q6 => if q6.1 = 0 then some (0, q6.2) else some (1, q6.2))
        rw [if_neg n10, ← bdP_id (clA K 41 j3 l3)]
        exact CRes_bd (passes_c H T (by decide) hs3) (fun s => rfl) (fun j4 l4 s4 _ hs4 => CRes_done hs4)
      · rw [if_neg c2, if_neg c2]
        exact tsA_c H T _ _ h hb
theorem bA_c (H : HK K V N) (T : TKs K V N σ0) {j : Nat} {ls : Ls} {τ : Sg} (h : AtC K N σ0 j (encL ls) τ) (hb : (encL ls).length ≤ j) : CRes K N σ0 (anA K (onA K V 8) j ls) (fX4_readsEither 40 0 τ) := by
  show CRes K N σ0 _ (gX4_readsEither ((rg_X4_readsEither 39).1) ((rg_X4_readsEither 39).2) 0 τ)
  exact anA_c H T (TyF_onA H 8) (fun j ls τ a b => onA_c H T 8 39 0 (by decide) (by decide) (by decide) j ls τ a b) h hb
end
