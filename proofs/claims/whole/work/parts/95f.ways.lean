/-! cut: ways that share no field -/
abbrev Cst := (Int → Int) × (Int → Int) × Int
def rchS (x e : Int) (S : Cst) : Cst := if S.1 x = -1 then (upz S.1 x e, upz S.2.1 S.2.2 x, S.2.2 + 1) else S
def sideS (w gs : Int → Int) (e d : Int) (S : Cst) : Cst := if isF w (goW w (e / 2) d) ∧ w (4 + goW w (e / 2) d) < w 83 then (if e % 2 = 1 then (if gs (4 * (e / 2) + d) = 0 then rchS (2 * goW w (e / 2) d) e S else S) else (if gs (4 * goW w (e / 2) d + (d + 2) % 4) = 1 then rchS (2 * goW w (e / 2) d + 1) e S else S)) else S
def sidesS (w gs : Int → Int) (e : Int) : Nat → Int → Cst → Cst
  | 0, _, S => S
  | r + 1, d, S => sidesS w gs e r (d + 1) (sideS w gs e d S)
def ownS (th : Int → Int) (e : Int) (S : Cst) : Cst := if th (e / 2) = e % 2 then rchS (if e % 2 = 0 then e + 1 else e - 1) e S else S
def expS (w th gs : Int → Int) (e : Int) (S : Cst) : Cst := sidesS w gs e 4 0 (ownS th e S)
def bfD (w th gs : Int → Int) (t : Int) : Nat → Int → Cst → Cst
  | 0, _, S => S
  | r + 1, h, S => if h < S.2.2 ∧ S.1 t = -1 then bfD w th gs t r (h + 1) (expS w th gs (S.2.1 h) S) else S
def Edge (w gs : Int → Int) (e x : Int) : Prop := (x / 2 = e / 2 ∧ x ≠ e) ∨ (e % 2 = 1 ∧ x % 2 = 0 ∧ ∃ d, 0 ≤ d ∧ d < 4 ∧ goW w (e / 2) d = x / 2 ∧ gs (4 * (e / 2) + d) = 0) ∨ (e % 2 = 0 ∧ x % 2 = 1 ∧ ∃ d, 0 ≤ d ∧ d < 4 ∧ goW w (e / 2) d = x / 2)
def cnF (f : Int → Int) (k : Nat) : Int := sumN (fun x => if f x = -1 then 0 else 1) k
def cnS (S : Cst) (k : Nat) : Int := cnF S.1 k
def CIs (w gs : Int → Int) (a : Int) (S : Cst) : Prop :=
  (∀ i, 0 ≤ i → i < S.2.2 → isF w (S.2.1 i / 2) ∧ S.1 (S.2.1 i) ≠ -1 ∧ S.2.1 i ≠ 2 * a) ∧
  (∀ x, S.1 x = -1 ∨ x = 2 * a ∨ ∃ i, 0 ≤ i ∧ i < S.2.2 ∧ S.2.1 i = x) ∧
  (∀ i, 0 < i → i < S.2.2 → ∃ j, 0 ≤ j ∧ j < i ∧ S.1 (S.2.1 i) = S.2.1 j ∧ Edge w gs (S.2.1 j) (S.2.1 i)) ∧
  (S.2.1 0 = 2 * a + 1 ∧ 0 < S.2.2) ∧ S.2.2 ≤ cnS S 112 ∧ S.1 (2 * a) ≠ -1
theorem cnS_r (S : Cst) (k : Nat) : 0 ≤ cnS S k ∧ cnS S k ≤ k := by
  have := sumN_r (f := fun x => if S.1 x = -1 then 0 else 1) (k := 1) (fun i _ => by split <;> omega) k
  unfold cnS cnF
  omega
theorem cnF_up {f : Int → Int} {x e : Int} {k : Nat} (h0 : 0 ≤ x) (h1 : x < k) (hx : f x = -1) (he : 0 ≤ e) : cnF f k + 1 ≤ cnF (upz f x e) k := by
  unfold cnF
  refine sumN_lt (k := x) h0 (by rw [if_pos hx, upz_s, if_neg (by omega)]; omega) k h1 (fun i _ _ => ?_)
  by_cases e1 : i = x
  · rw [e1, if_pos hx, upz_s, if_neg (by omega)]; omega
  · rw [upz_n e1]; exact Int.le_refl _
theorem cnS_up {S : Cst} {x e : Int} {k : Nat} (h0 : 0 ≤ x) (h1 : x < k) (hx : S.1 x = -1) (he : 0 ≤ e) : cnS S k + 1 ≤ cnS (rchS x e S) k := by
  unfold rchS
  rw [if_pos hx]
  exact cnF_up h0 h1 hx he
theorem CI_n {w gs : Int → Int} {a : Int} {S : Cst} (h : CIs w gs a S) : S.2.2 ≤ 112 := by
  have := cnS_r S 112
  have := h.2.2.2.2.1
  omega
theorem rch_keep {x e : Int} {S : Cst} : (∀ y, S.1 y ≠ -1 → (rchS x e S).1 y = S.1 y) ∧ (∀ i, i < S.2.2 → (rchS x e S).2.1 i = S.2.1 i) ∧ S.2.2 ≤ (rchS x e S).2.2 := by
  unfold rchS
  by_cases c : S.1 x = -1
  · rw [if_pos c]
    exact ⟨fun y hy => upz_n (fun z => hy (by rw [z]; exact c)), fun i hi => upz_n (by omega), by simp only; omega⟩
  · rw [if_neg c]
    exact ⟨fun _ _ => rfl, fun _ _ => rfl, Int.le_refl _⟩
theorem CI_rch {w gs : Int → Int} {a x e h : Int} {S : Cst} (hC : CIs w gs a S) (hh : 0 ≤ h ∧ h < S.2.2) (he : S.2.1 h = e) (hx : isF w (x / 2)) (hE : Edge w gs e x) : CIs w gs a (rchS x e S) := by
  by_cases c : S.1 x = -1
  · have he0 : 0 ≤ e := by
      have := (isF_b ((hC.1 h hh.1 hh.2).1)).1
      rw [he] at this
      omega
    have xb := isF_b hx
    have hup := cnS_up (S := S) (x := x) (e := e) (k := 112) (by omega) (by omega) c he0
    obtain ⟨c1, c2, c3, c4, c5, c6⟩ := hC
    have hxa : x ≠ 2 * a := fun z => c6 (by rw [← z]; exact c)
    unfold rchS at hup ⊢
    rw [if_pos c] at hup ⊢
    refine ⟨fun i i0 i1 => ?_, fun y => ?_, fun i i0 i1 => ?_, ⟨?_, ?_⟩, ?_, ?_⟩
    · simp only at i1 ⊢
      by_cases e1 : i = S.2.2
      · rw [e1, upz_s, upz_s]; exact ⟨hx, by omega, hxa⟩
      · obtain ⟨d1, d2, d3⟩ := c1 i i0 (by omega)
        rw [upz_n e1, upz_n (fun z => d2 (by rw [z]; exact c))]
        exact ⟨d1, d2, d3⟩
    · simp only
      by_cases e1 : y = x
      · right; right
        exact ⟨S.2.2, by omega, by omega, by rw [upz_s, e1]⟩
      · rw [upz_n e1]
        rcases c2 y with z | z | ⟨i, z1, z2, z3⟩
        · exact Or.inl z
        · exact Or.inr (Or.inl z)
        · exact Or.inr (Or.inr ⟨i, z1, by omega, by rw [upz_n (by omega)]; exact z3⟩)
    · simp only at i1 ⊢
      by_cases e1 : i = S.2.2
      · refine ⟨h, hh.1, by omega, ?_, ?_⟩
        · rw [e1, upz_s, upz_s, upz_n (by omega), he]
        · rw [e1, upz_s, upz_n (by omega), he]; exact hE
      · obtain ⟨j, j0, j1, j2, j3⟩ := c3 i i0 (by omega)
        have d2 := (c1 i (by omega) (by omega)).2.1
        refine ⟨j, j0, j1, ?_, ?_⟩
        · rw [upz_n e1, upz_n (i := S.2.2) (j := j) (by omega), upz_n (fun z => d2 (by rw [z]; exact c))]
          exact j2
        · rw [upz_n e1, upz_n (by omega)]; exact j3
    · simp only
      rw [upz_n (by omega)]; exact c4.1
    · simp only; omega
    · simp only; omega
    · simp only
      rw [upz_n (fun z => hxa z.symm)]
      exact c6
  · unfold rchS
    rw [if_neg c]
    exact hC
theorem CI_side {w gs : Int → Int} {a e h d : Int} {S : Cst} (hC : CIs w gs a S) (hh : 0 ≤ h ∧ h < S.2.2) (he : S.2.1 h = e) (hd : 0 ≤ d ∧ d < 4) : CIs w gs a (sideS w gs e d S) ∧ S.2.2 ≤ (sideS w gs e d S).2.2 ∧ (sideS w gs e d S).2.1 h = e := by
  unfold sideS
  by_cases c : isF w (goW w (e / 2) d) ∧ w (4 + goW w (e / 2) d) < w 83
  · rw [if_pos c]
    by_cases o : e % 2 = 1
    · rw [if_pos o]
      by_cases g : gs (4 * (e / 2) + d) = 0
      · rw [if_pos g]
        have k := rch_keep (x := 2 * goW w (e / 2) d) (e := e) (S := S)
        have h2 : 2 * goW w (e / 2) d / 2 = goW w (e / 2) d := by omega
        exact ⟨CI_rch hC hh he (by rw [h2]; exact c.1) (Or.inr (Or.inl ⟨o, by omega, d, hd.1, hd.2, h2.symm, g⟩)), k.2.2, (k.2.1 h hh.2).trans he⟩
      · rw [if_neg g]; exact ⟨hC, Int.le_refl _, he⟩
    · rw [if_neg o]
      by_cases g : gs (4 * goW w (e / 2) d + (d + 2) % 4) = 1
      · rw [if_pos g]
        have k := rch_keep (x := 2 * goW w (e / 2) d + 1) (e := e) (S := S)
        have h2 : (2 * goW w (e / 2) d + 1) / 2 = goW w (e / 2) d := by omega
        exact ⟨CI_rch hC hh he (by rw [h2]; exact c.1) (Or.inr (Or.inr ⟨by omega, by omega, d, hd.1, hd.2, h2.symm⟩)), k.2.2, (k.2.1 h hh.2).trans he⟩
      · rw [if_neg g]; exact ⟨hC, Int.le_refl _, he⟩
  · rw [if_neg c]; exact ⟨hC, Int.le_refl _, he⟩
theorem CI_own {w th gs : Int → Int} {a e h : Int} {S : Cst} (hC : CIs w gs a S) (hh : 0 ≤ h ∧ h < S.2.2) (he : S.2.1 h = e) : CIs w gs a (ownS th e S) ∧ S.2.2 ≤ (ownS th e S).2.2 ∧ (ownS th e S).2.1 h = e := by
  unfold ownS
  by_cases c : th (e / 2) = e % 2
  · rw [if_pos c]
    have hf := (hC.1 h hh.1 hh.2).1
    rw [he] at hf
    have k := rch_keep (x := if e % 2 = 0 then e + 1 else e - 1) (e := e) (S := S)
    have h2 : (if e % 2 = 0 then e + 1 else e - 1) / 2 = e / 2 := by split <;> omega
    exact ⟨CI_rch hC hh he (by rw [h2]; exact hf) (Or.inl ⟨h2, by split <;> omega⟩), k.2.2, (k.2.1 h hh.2).trans he⟩
  · rw [if_neg c]; exact ⟨hC, Int.le_refl _, he⟩
theorem CI_sides {w gs : Int → Int} {a e h : Int} : ∀ (r : Nat) (d : Int) (S : Cst), CIs w gs a S → 0 ≤ h ∧ h < S.2.2 → S.2.1 h = e → 0 ≤ d → d + r ≤ 4 → CIs w gs a (sidesS w gs e r d S) ∧ S.2.2 ≤ (sidesS w gs e r d S).2.2
  | 0, d, S, hC, hh, he, d0, d1 => ⟨hC, Int.le_refl _⟩
  | r + 1, d, S, hC, hh, he, d0, d1 => by
    obtain ⟨a1, a2, a3⟩ := CI_side (d := d) hC hh he (by omega)
    obtain ⟨b1, b2⟩ := CI_sides r (d + 1) _ a1 (by omega) a3 (by omega) (by omega)
    rw [sidesS]
    exact ⟨b1, by omega⟩
theorem CI_exp {w th gs : Int → Int} {a h : Int} {S : Cst} (hC : CIs w gs a S) (hh : 0 ≤ h ∧ h < S.2.2) : CIs w gs a (expS w th gs (S.2.1 h) S) ∧ S.2.2 ≤ (expS w th gs (S.2.1 h) S).2.2 := by
  obtain ⟨a1, a2, a3⟩ := CI_own (th := th) hC hh rfl
  obtain ⟨b1, b2⟩ := CI_sides 4 0 _ a1 (by omega) a3 (by omega) (by omega)
  unfold expS
  exact ⟨b1, by omega⟩
theorem CI_bf {w th gs : Int → Int} {a t : Int} : ∀ (r : Nat) (h : Int) (S : Cst), CIs w gs a S → 0 ≤ h → CIs w gs a (bfD w th gs t r h S)
  | 0, h, S, hC, h0 => hC
  | r + 1, h, S, hC, h0 => by
    rw [bfD]
    by_cases c : h < S.2.2 ∧ S.1 t = -1
    · rw [if_pos c]
      exact CI_bf r (h + 1) _ (CI_exp hC ⟨h0, c.1⟩).1 (by omega)
    · rw [if_neg c]; exact hC
/-- those in the queue that wait -/
def pendS (S : Cst) (h : Int) : List Int := (upL (S.2.2 - h).toNat h).map S.2.1
theorem upL_map {f g : Int → Int} : ∀ (n : Nat) (i : Int), (∀ j, i ≤ j → j < i + n → f j = g j) → (upL n i).map f = (upL n i).map g
  | 0, _, _ => rfl
  | n + 1, i, h => by
    rw [upL, List.map_cons, List.map_cons, h i (Int.le_refl _) (by omega), upL_map n (i + 1) (fun j a b => h j (by omega) (by omega))]
theorem pend_rch {x e h : Int} {S : Cst} (hh : h ≤ S.2.2) : pendS (rchS x e S) h = pendS S h ++ (if S.1 x = -1 then [x] else []) := by
  unfold pendS rchS
  by_cases c : S.1 x = -1
  · rw [if_pos c, if_pos c]
    simp only
    rw [show (S.2.2 + 1 - h).toNat = (S.2.2 - h).toNat + 1 by omega, upL_snoc, List.map_append, List.map_singleton, show h + ((S.2.2 - h).toNat : Int) = S.2.2 by omega, upz_s, upL_map (g := S.2.1) _ _ (fun j a b => upz_n (by omega))]
  · rw [if_neg c, if_neg c, List.append_nil]
def RelS (a h h2 : Int) (S S2 : Cst) : Prop := (∀ x, x ≠ 2 * a → S2.1 x = S.1 x) ∧ pendS S h = (pendS S2 h2).filter (fun x => decide (x ≠ 2 * a)) ∧ S.1 (2 * a) ≠ -1 ∧ h ≤ S.2.2 ∧ h2 ≤ S2.2.2
theorem Rel_rch {a h h2 x e : Int} {S S2 : Cst} (hR : RelS a h h2 S S2) : RelS a h h2 (rchS x e S) (rchS x e S2) := by
  obtain ⟨r1, r2, r3, r4, r5⟩ := hR
  have k1 := rch_keep (x := x) (e := e) (S := S)
  have k2 := rch_keep (x := x) (e := e) (S := S2)
  refine ⟨fun y hy => ?_, ?_, by rw [k1.1 _ r3]; exact r3, by omega, by omega⟩
  · unfold rchS
    by_cases c : x = 2 * a
    · rw [c, if_neg r3]
      by_cases d : S2.1 (2 * a) = -1
      · rw [if_pos d]
        show upz _ _ _ y = _
        rw [upz_n hy]; exact r1 y hy
      · rw [if_neg d]; exact r1 y hy
    · rw [r1 x c]
      by_cases d : S.1 x = -1
      · rw [if_pos d, if_pos d]
        show upz _ _ _ y = upz _ _ _ y
        by_cases e1 : y = x
        · rw [e1, upz_s, upz_s]
        · rw [upz_n e1, upz_n e1]; exact r1 y hy
      · rw [if_neg d, if_neg d]; exact r1 y hy
  · rw [pend_rch r4, pend_rch r5, List.filter_append, r2]
    congr 1
    by_cases c : x = 2 * a
    · rw [c, if_neg r3]
      split
      · rw [List.filter_cons_of_neg (by simp)]
        rfl
      · rfl
    · rw [r1 x c]
      split
      · rw [List.filter_cons_of_pos (by simpa using c)]
        rfl
      · rfl
theorem Rel_side {w gs : Int → Int} {a h h2 e d : Int} {S S2 : Cst} (hR : RelS a h h2 S S2) : RelS a h h2 (sideS w gs e d S) (sideS w gs e d S2) := by
  unfold sideS
  split
  · split
    · split
      · exact Rel_rch hR
      · exact hR
    · split
      · exact Rel_rch hR
      · exact hR
  · exact hR
theorem Rel_sides {w gs : Int → Int} {a h h2 e : Int} : ∀ (r : Nat) (d : Int) (S S2 : Cst), RelS a h h2 S S2 → RelS a h h2 (sidesS w gs e r d S) (sidesS w gs e r d S2)
  | 0, _, _, _, hR => hR
  | r + 1, d, S, S2, hR => by
    rw [sidesS, sidesS]
    exact Rel_sides r (d + 1) _ _ (Rel_side hR)
theorem Rel_exp {w th gs : Int → Int} {a h h2 e : Int} {S S2 : Cst} (hR : RelS a h h2 S S2) : RelS a h h2 (expS w th gs e S) (expS w th gs e S2) := by
  unfold expS
  refine Rel_sides 4 0 _ _ ?_
  unfold ownS
  split
  · exact Rel_rch hR
  · exact hR
theorem pend_nil {S : Cst} {h : Int} (hh : S.2.2 ≤ h) : pendS S h = [] := by
  unfold pendS
  rw [show (S.2.2 - h).toNat = 0 by omega]
  rfl
theorem pend_cons {S : Cst} {h : Int} (hh : h < S.2.2) : pendS S h = S.2.1 h :: pendS S (h + 1) := by
  unfold pendS
  rw [show (S.2.2 - h).toNat = (S.2.2 - (h + 1)).toNat + 1 by omega, upL, List.map_cons]
