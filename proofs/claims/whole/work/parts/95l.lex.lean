/-! text: tokens -/
def sgT (t : Int → Int) (z i : Int) : Int := if 0 ≤ i ∧ i < z then t i else -1
abbrev isL (c : Int) : Prop := (97 ≤ c ∧ c ≤ 122) ∨ (65 ≤ c ∧ c ≤ 90)
abbrev isD (c : Int) : Prop := 48 ≤ c ∧ c ≤ 57
def skS (t : Int → Int) (z : Int) : Nat → Int → Int
  | 0, i => i
  | r + 1, i => if sgT t z i = 32 ∨ sgT t z i = 10 then skS t z r (i + 1) else i
def leE (t : Int → Int) (z : Int) : Nat → Int → Int
  | 0, i => i
  | r + 1, i => if isL (sgT t z i) then leE t z r (i + 1) else i
def dgE (t : Int → Int) (z : Int) : Nat → Int → Int
  | 0, i => i
  | r + 1, i => if isD (sgT t z i) then dgE t z r (i + 1) else i
/-- q-th of the words: its constant, where it begins in the long one, how long it is -/
def cid (q : Nat) : Nat := if q ≤ 2 then 1006 + q else if q ≤ 6 then 999 + q else 1002 + q
def wBg (q : Nat) : Nat := [0, 6, 11, 16, 21, 24, 28, 32, 39, 44, 50, 55, 59, 65, 69, 74, 80, 84, 87, 90, 94, 99, 105].getD q 0
def wLn (q : Nat) : Nat := [5, 4, 4, 4, 2, 3, 3, 6, 4, 5, 4, 3, 5, 3, 4, 5, 3, 2, 2, 3, 4, 5].getD q 0
theorem w_ok : ∀ q : Nat, q < 22 → sLen (cid q) = (wLn q : Int) ∧ wBg (q + 1) = wBg q + wLn q + 1 ∧ sCh 1000 ((wBg q + wLn q : Nat) : Int) = 32 ∧ ∀ j : Nat, j < wLn q → sCh 1000 ((wBg q + j : Nat) : Int) ≠ 32 ∧ sCh 1000 ((wBg q + j : Nat) : Int) = sCh (cid q) (j : Int) := by decide +kernel
theorem w_len : sLen 1000 = 105 ∧ wBg 22 = 105 ∧ wBg 0 = 0 := by decide +kernel
theorem w_bnd : ∀ q : Nat, q < 22 → wBg q + wLn q + 1 ≤ 105 ∧ 2 ≤ wLn q ∧ wLn q ≤ 6 := by decide +kernel
theorem w_dif : ∀ q : Nat, q < 22 → ∀ q2 : Nat, q2 < 22 → wLn q = wLn q2 → (∀ j : Nat, j < 6 → j < wLn q → sCh (cid q) (j : Int) = sCh (cid q2) (j : Int)) → q = q2 := by decide +kernel
def isWd (t : Int → Int) (z s e : Int) (q : Nat) : Prop := e - s = wLn q ∧ ∀ j : Nat, j < wLn q → sCh (cid q) (j : Int) = sgT t z (s + j)
theorem isWd_one {t : Int → Int} {z s e : Int} {q q2 : Nat} (h1 : q < 22) (h2 : q2 < 22) (a : isWd t z s e q) (b : isWd t z s e q2) : q = q2 := by
  have hl : wLn q = wLn q2 := by have := a.1; have := b.1; omega
  exact w_dif q h1 q2 h2 hl (fun j _ hj => (a.2 j hj).trans (b.2 j (by omega)).symm)
noncomputable def wdS (t : Int → Int) (z s e : Int) : Nat → Nat → Int
  | 0, _ => 2
  | r + 1, q => @ite _ (isWd t z s e q) (Classical.propDecidable _) (3 + q) (wdS t z s e r (q + 1))
theorem wdS_at {t : Int → Int} {z s e : Int} {q0 : Nat} (h0 : q0 < 22) (h : isWd t z s e q0) : ∀ (r q : Nat), q + r = 22 → q ≤ q0 → wdS t z s e r q = 3 + q0
  | 0, q, h1, h2 => by omega
  | r + 1, q, h1, h2 => by
    rw [wdS]
    by_cases c : isWd t z s e q
    · rw [if_pos c, isWd_one (by omega) h0 c h]
    · rw [if_neg c]
      refine wdS_at h0 h r (q + 1) (by omega) ?_
      by_cases e2 : q = q0
      · rw [e2] at c; exact absurd h c
      · omega
theorem wdS_no {t : Int → Int} {z s e : Int} : ∀ (r q : Nat), (∀ q0, q ≤ q0 → q0 < q + r → ¬ isWd t z s e q0) → wdS t z s e r q = 2
  | 0, q, h => rfl
  | r + 1, q, h => by
    rw [wdS, if_neg (h q (Nat.le_refl _) (by omega))]
    exact wdS_no r (q + 1) (fun q0 a b => h q0 (by omega) (by omega))
abbrev isS (c : Int) : Prop := c = 59 ∨ c = 43 ∨ c = 45 ∨ c = 42 ∨ c = 47 ∨ c = 40 ∨ c = 41 ∨ c = 60 ∨ c = 61 ∨ c = 62
def vlS (t : Int → Int) (z e : Int) : Nat → Int → Int → Int
  | 0, _, v => v
  | r + 1, i, v => if i < e then vlS t z e r (i + 1) (bw (bw (bw (10 * v) + sgT t z i) - 48)) else v
/-- the token behind place p: where it begins, ends, its kind, its value -/
def tP (t : Int → Int) (z p : Int) : Int := skS t z 400 p
def tE (t : Int → Int) (z p : Int) : Int := if tP t z p < z then (if isL (t (tP t z p)) then leE t z 400 (tP t z p) else if isD (t (tP t z p)) then dgE t z 400 (tP t z p) else tP t z p + 1) else tP t z p
noncomputable def tK (t : Int → Int) (z p : Int) : Int := if tP t z p < z then (if isL (t (tP t z p)) then wdS t z (tP t z p) (tE t z p) 22 0 else if isD (t (tP t z p)) then (if tE t z p - tP t z p ≤ 4 then 1 else 2) else if isS (t (tP t z p)) then t (tP t z p) else 2) else 0
def tV (t : Int → Int) (z p : Int) : Int := vlS t z (tE t z p) 400 (tP t z p) 0
/-- the tape -/
def TO (t : Int → Int) (z : Int) : Prop := (0 ≤ z ∧ z ≤ 400) ∧ ∀ i, 0 ≤ i → i < z → 0 ≤ t i ∧ t i ≤ 255
theorem skS_r {t : Int → Int} {z : Int} : ∀ (r : Nat) (i : Int), i ≤ skS t z r i ∧ (i ≤ z → skS t z r i ≤ z)
  | 0, i => ⟨Int.le_refl _, fun h => h⟩
  | r + 1, i => by
    have h := skS_r (t := t) (z := z) r (i + 1)
    rw [skS]
    split
    · rename_i c
      have : i < z := by
        unfold sgT at c
        split at c
        · rename_i d; exact d.2
        · omega
      exact ⟨by omega, fun _ => h.2 (by omega)⟩
    · exact ⟨Int.le_refl _, fun q => q⟩
theorem skS_end {t : Int → Int} {z : Int} : ∀ (r : Nat) (i : Int), z - i ≤ r → ¬ (sgT t z (skS t z r i) = 32 ∨ sgT t z (skS t z r i) = 10)
  | 0, i, h => by
    rw [skS]
    unfold sgT
    rw [if_neg (by omega)]
    omega
  | r + 1, i, h => by
    rw [skS]
    split
    · exact skS_end r (i + 1) (by omega)
    · assumption
theorem sg_at {t : Int → Int} {z i : Int} (h0 : 0 ≤ i) (h1 : i < z) : sgT t z i = t i := if_pos ⟨h0, h1⟩
theorem sg_no {t : Int → Int} {z i : Int} (h : z ≤ i) : sgT t z i = -1 := if_neg (by omega)
theorem leE_r {t : Int → Int} {z : Int} : ∀ (r : Nat) (i : Int), 0 ≤ i → i ≤ z → i ≤ leE t z r i ∧ leE t z r i ≤ z
  | 0, i, h0, h => ⟨Int.le_refl _, h⟩
  | r + 1, i, h0, h => by
    rw [leE]
    split
    · rename_i c
      have : i < z := by
        by_cases d : i < z
        · exact d
        · rw [sg_no (by omega)] at c; omega
      have := leE_r (t := t) (z := z) r (i + 1) (by omega) (by omega)
      omega
    · exact ⟨Int.le_refl _, h⟩
theorem dgE_r {t : Int → Int} {z : Int} : ∀ (r : Nat) (i : Int), 0 ≤ i → i ≤ z → i ≤ dgE t z r i ∧ dgE t z r i ≤ z
  | 0, i, h0, h => ⟨Int.le_refl _, h⟩
  | r + 1, i, h0, h => by
    rw [dgE]
    split
    · rename_i c
      have : i < z := by
        by_cases d : i < z
        · exact d
        · rw [sg_no (by omega)] at c; omega
      have := dgE_r (t := t) (z := z) r (i + 1) (by omega) (by omega)
      omega
    · exact ⟨Int.le_refl _, h⟩
theorem tE_r {t : Int → Int} {z p : Int} (h0 : 0 ≤ p) (h : p ≤ z) : p ≤ tP t z p ∧ tP t z p ≤ z ∧ tP t z p ≤ tE t z p ∧ tE t z p ≤ z ∧ (tP t z p < z → tP t z p < tE t z p) := by
  have h1 := skS_r (t := t) (z := z) 400 p
  have h2 := h1.2 h
  have h3 : tP t z p = skS t z 400 p := rfl
  rw [← h3] at h1 h2
  unfold tE
  by_cases c : tP t z p < z
  · rw [if_pos c]
    have sg := sg_at (t := t) (z := z) (show 0 ≤ tP t z p by omega) c
    by_cases c2 : isL (t (tP t z p))
    · rw [if_pos c2]
      have q := leE_r (t := t) (z := z) 399 (tP t z p + 1) (by omega) (by omega)
      have e : leE t z 400 (tP t z p) = leE t z 399 (tP t z p + 1) := by rw [leE, sg, if_pos c2]
      rw [e]; omega
    · rw [if_neg c2]
      by_cases c3 : isD (t (tP t z p))
      · rw [if_pos c3]
        have q := dgE_r (t := t) (z := z) 399 (tP t z p + 1) (by omega) (by omega)
        have e : dgE t z 400 (tP t z p) = dgE t z 399 (tP t z p + 1) := by rw [dgE, sg, if_pos c3]
        rw [e]; omega
      · rw [if_neg c3]; omega
  · rw [if_neg c]; omega
theorem wdS_r {t : Int → Int} {z s e : Int} : ∀ (r q : Nat), q + r ≤ 22 → 2 ≤ wdS t z s e r q ∧ wdS t z s e r q ≤ 24
  | 0, _, _ => by rw [wdS]; omega
  | r + 1, q, h => by
    have := wdS_r (t := t) (z := z) (s := s) (e := e) r (q + 1) (by omega)
    rw [wdS]
    by_cases c : isWd t z s e q
    · rw [if_pos c]; omega
    · rw [if_neg c]; exact this
theorem tK_r {t : Int → Int} {z p : Int} : (tK t z p = 0 ↔ ¬ tP t z p < z) ∧ 0 ≤ tK t z p ∧ tK t z p ≤ 62 := by
  unfold tK
  by_cases c : tP t z p < z
  · rw [if_pos c]
    by_cases c2 : isL (t (tP t z p))
    · rw [if_pos c2]
      have := wdS_r (t := t) (z := z) (s := tP t z p) (e := tE t z p) 22 0 (by omega)
      refine ⟨⟨fun h => by omega, fun h => absurd c h⟩, by omega, by omega⟩
    · rw [if_neg c2]
      by_cases c3 : isD (t (tP t z p))
      · rw [if_pos c3]
        split
        · exact ⟨⟨fun h => by omega, fun h => absurd c h⟩, by omega, by omega⟩
        · exact ⟨⟨fun h => by omega, fun h => absurd c h⟩, by omega, by omega⟩
      · rw [if_neg c3]
        by_cases c4 : isS (t (tP t z p))
        · rw [if_pos c4]
          exact ⟨⟨fun h => by omega, fun h => absurd c h⟩, by omega, by omega⟩
        · rw [if_neg c4]
          exact ⟨⟨fun h => by omega, fun h => absurd c h⟩, by omega, by omega⟩
  · rw [if_neg c]
    exact ⟨⟨fun _ => c, fun _ => rfl⟩, by omega, by omega⟩
/-! the class cuts the tape -/
def TPc (t : Int → Int) (z : Int) (σ : Sg) : Prop := rd σ 59 4 = z ∧ ∀ i, 0 ≤ i → i < z → band (rd σ 60 i) 255 = t i
theorem sign_c {t : Int → Int} {z i : Int} {σ : Sg} (hO : TO t z) (h : TPc t z σ) (h0 : 0 ≤ i) : fX7_sign i σ = some (sgT t z i) := by
  unfold fX7_sign
  have hz := hO.1
  rw [if_neg (by omega), h.1]
  by_cases c : i < z
  · rw [if_pos c, if_pos (by omega), grd_pos (by omega), h.2 i h0 c, sg_at h0 c]
  · rw [if_neg c, sg_no (by omega)]
theorem isL_c (c : Int) : fX7_isLetter c = if isL c then 1 else 0 := by
  unfold fX7_isLetter fX7_isLetter_J12
  by_cases h : isL c
  · rw [if_pos h]
    repeat' split
    all_goals omega
  · rw [if_neg h]
    repeat' split
    all_goals omega
theorem isD_c (c : Int) : fX7_isDigit c = if isD c then 1 else 0 := by
  unfold fX7_isDigit
  by_cases h : isD c
  · rw [if_pos h]
    repeat' split
    all_goals omega
  · rw [if_neg h]
    repeat' split
    all_goals omega
theorem sg_L {t : Int → Int} {z i : Int} (h : isL (sgT t z i)) : i < z := by
  unfold sgT at h
  split at h
  · rename_i c; exact c.2
  · omega
theorem sg_D {t : Int → Int} {z i : Int} (h : isD (sgT t z i)) : i < z := by
  unfold sgT at h
  split at h
  · rename_i c; exact c.2
  · omega
theorem letEnd_c {t : Int → Int} {z : Int} {σ : Sg} (hO : TO t z) (h : TPc t z σ) : ∀ (r n : Nat) (i : Int), 0 ≤ i → i ≤ z → z - i ≤ r → r < n → fX7_lettersEnd_L2 σ n i = some (leE t z r i)
  | 0, n, i, h0, h1, hr, hn => by
    cases n with
    | zero => omega
    | succ n =>
      rw [fX7_lettersEnd_L2, h.1, if_neg (by omega), leE]
      congr 1
      omega
  | r + 1, n, i, h0, h1, hr, hn => by
    have hz := hO.1
    cases n with
    | zero => omega
    | succ n =>
      rw [fX7_lettersEnd_L2, h.1, leE]
      by_cases c : i < z
      · rw [if_pos c, sign_c hO h h0, Option.bind_some, isL_c, bw_id (z := i + 1) (by omega) (by omega)]
        by_cases d : isL (sgT t z i)
        · rw [if_pos d, if_neg n10, if_pos d]
          exact letEnd_c hO h r n (i + 1) (by omega) (by omega) (by omega) (by omega)
        · rw [if_neg d, if_pos p00, if_neg d]
      · rw [if_neg c, if_neg (fun z => c (sg_L z))]
        congr 1
        omega
theorem digEnd_c {t : Int → Int} {z : Int} {σ : Sg} (hO : TO t z) (h : TPc t z σ) : ∀ (r n : Nat) (i : Int), 0 ≤ i → i ≤ z → z - i ≤ r → r < n → fX7_digitsEnd_L2 σ n i = some (dgE t z r i)
  | 0, n, i, h0, h1, hr, hn => by
    cases n with
    | zero => omega
    | succ n =>
      rw [fX7_digitsEnd_L2, h.1, if_neg (by omega), dgE]
      congr 1
      omega
  | r + 1, n, i, h0, h1, hr, hn => by
    have hz := hO.1
    cases n with
    | zero => omega
    | succ n =>
      rw [fX7_digitsEnd_L2, h.1, dgE]
      by_cases c : i < z
      · rw [if_pos c, sign_c hO h h0, Option.bind_some, isD_c, bw_id (z := i + 1) (by omega) (by omega)]
        by_cases d : isD (sgT t z i)
        · rw [if_pos d, if_neg n10, if_pos d]
          exact digEnd_c hO h r n (i + 1) (by omega) (by omega) (by omega) (by omega)
        · rw [if_neg d, if_pos p00, if_neg d]
      · rw [if_neg c, if_neg (fun z => c (sg_D z))]
        congr 1
        omega
theorem value_c {t : Int → Int} {z e : Int} {σ : Sg} (hO : TO t z) (h : TPc t z σ) (he : e ≤ z) : ∀ (r n : Nat) (i v : Int), 0 ≤ i → e - i ≤ r → r < n → fX7_valueOf_L5 σ e n v i = some (vlS t z e r i v)
  | 0, n, i, v, h0, hr, hn => by
    cases n with
    | zero => omega
    | succ n =>
      rw [fX7_valueOf_L5, if_neg (by omega), vlS]
  | r + 1, n, i, v, h0, hr, hn => by
    have hz := hO.1
    cases n with
    | zero => omega
    | succ n =>
      rw [fX7_valueOf_L5, vlS]
      by_cases c : i < e
      · rw [if_pos c, if_pos c, sign_c hO h h0, Option.bind_some, bw_id (z := i + 1) (by omega) (by omega)]
        exact value_c hO h he r n (i + 1) _ (by omega) (by omega) (by omega)
      · rw [if_neg c, if_neg c]
theorem same_c {t : Int → Int} {z s : Int} {σ : Sg} {q : Nat} (hO : TO t z) (h : TPc t z σ) (hs : 0 ≤ s ∧ s ≤ 400) (hq : q < 22) : (∀ j : Nat, j < wLn q → sCh (cid q) (j : Int) = sgT t z (s + j)) ∧ fX7_isSame (wBg q : Nat) s (wLn q : Nat) σ = some 1 ∨ ¬ (∀ j : Nat, j < wLn q → sCh (cid q) (j : Int) = sgT t z (s + j)) ∧ fX7_isSame (wBg q : Nat) s (wLn q : Nat) σ = some 0 := by
  obtain ⟨w1, w2, w3, w4⟩ := w_ok q hq
  have wb := w_bnd q hq
  have go : ∀ (r n j : Nat), j + r = wLn q → r < n → (∀ i : Nat, i < j → sCh (cid q) (i : Int) = sgT t z (s + i)) → (∀ j : Nat, j < wLn q → sCh (cid q) (j : Int) = sgT t z (s + j)) ∧ fX7_isSame_L3 σ (wBg q : Nat) s (wLn q : Nat) n (j : Int) = some 1 ∨ ¬ (∀ j : Nat, j < wLn q → sCh (cid q) (j : Int) = sgT t z (s + j)) ∧ fX7_isSame_L3 σ (wBg q : Nat) s (wLn q : Nat) n (j : Int) = some 0 := by
    intro r
    induction r with
    | zero =>
      intro n j hj hn hi
      cases n with
      | zero => omega
      | succ n =>
        left
        refine ⟨fun i hl => hi i (by omega), ?_⟩
        rw [fX7_isSame_L3, if_neg (by omega)]
    | succ r ih =>
      intro n j hj hn hi
      cases n with
      | zero => omega
      | succ n =>
        have ec := (w4 j (by omega)).2
        rw [fX7_isSame_L3, if_pos (by omega), bw_id (z := ((wBg q : Nat) : Int) + (j : Int)) (by omega) (by omega), w_len.1, if_pos (by omega), grd_pos (by omega), bw_id (z := s + (j : Int)) (by omega) (by omega), sign_c hO h (by omega), Option.bind_some, show ((wBg q : Nat) : Int) + (j : Int) = ((wBg q + j : Nat) : Int) by omega, ec, bw_id (z := (j : Int) + 1) (by omega) (by omega), show (j : Int) + 1 = ((j + 1 : Nat) : Int) by omega]
        by_cases c : sCh (cid q) (j : Int) = sgT t z (s + j)
        · rw [if_pos c]
          refine ih n (j + 1) (by omega) (by omega) (fun i hl => ?_)
          by_cases e : i = j
          · rw [e]; exact c
          · exact hi i (by omega)
        · rw [if_neg c]
          exact Or.inr ⟨fun z => c (z j (by omega)), rfl⟩
  unfold fX7_isSame
  exact go (wLn q) FU 0 (by omega) (by unfold FU; omega) (fun i hi => by omega)
theorem wordOf_c {t : Int → Int} {z s e : Int} {σ : Sg} (hO : TO t z) (h : TPc t z σ) (hs : 0 ≤ s ∧ s < e ∧ e ≤ z) : fX7_wordOf s e σ = some (wdS t z s e 22 0) := by
  have hz := hO.1
  have go : ∀ (r q n : Nat), q + r = 22 → 105 < n + wBg q → fX7_wordOf_L8 σ s e n ((3 + q : Nat) : Int) (wBg q : Nat) (wBg q : Nat) = some (wdS t z s e r q) := by
    intro r
    induction r with
    | zero =>
      intro q n hq hn
      have eq : wBg q = 105 := by rw [show q = 22 by omega]; exact w_len.2.1
      cases n with
      | zero => omega
      | succ n =>
        rw [fX7_wordOf_L8, w_len.1, if_neg (by omega), wdS]
    | succ r ih =>
      intro q n hq hn
      obtain ⟨w1, w2, w3, w4⟩ := w_ok q (by omega)
      have wb := w_bnd q (by omega)
      -- over the letters of the word
      have run : ∀ (k j m : Nat), j + k = wLn q → 105 < m + (wBg q + j) → fX7_wordOf_L8 σ s e m ((3 + q : Nat) : Int) (wBg q : Nat) ((wBg q + j : Nat) : Int) = some (wdS t z s e (r + 1) q) := by
        intro k
        induction k with
        | zero =>
          intro j m hj hm
          have ej : j = wLn q := by omega
          subst ej
          cases m with
          | zero => omega
          | succ m =>
            have ih2 := ih (q + 1) m (by omega) (by omega)
            rw [w2] at ih2
            rw [fX7_wordOf_L8, w_len.1, if_pos (by omega), grd_pos (by omega), w3, if_pos rfl, bw_id (z := ((wBg q + wLn q : Nat) : Int) - ((wBg q : Nat) : Int)) (by omega) (by omega), bw_id (z := e - s) (by omega) (by omega), bw_id (z := ((3 + q : Nat) : Int) + 1) (by omega) (by omega), bw_id (z := ((wBg q + wLn q : Nat) : Int) + 1) (by omega) (by omega), show ((3 + q : Nat) : Int) + 1 = ((3 + (q + 1) : Nat) : Int) by omega, show ((wBg q + wLn q : Nat) : Int) + 1 = ((wBg q + wLn q + 1 : Nat) : Int) by omega, ih2, wdS]
            by_cases c : ((wBg q + wLn q : Nat) : Int) - ((wBg q : Nat) : Int) = e - s
            · have el : e - s = ((wLn q : Nat) : Int) := by omega
              rw [if_pos c, el]
              rcases same_c hO h (show 0 ≤ s ∧ s ≤ 400 by omega) (show q < 22 by omega) with ⟨d1, d2⟩ | ⟨d1, d2⟩
              · rw [d2, Option.bind_some, if_neg n10, if_pos ⟨el, d1⟩]
                congr 1
              · rw [d2, Option.bind_some, if_pos p00, if_neg (fun z => d1 z.2)]
            · rw [if_neg c, if_neg (fun z => c (by have := z.1; omega))]
        | succ k ihk =>
          intro j m hj hm
          cases m with
          | zero => omega
          | succ m =>
            have w5 := (w4 j (by omega)).1
            rw [fX7_wordOf_L8, w_len.1, if_pos (by omega), grd_pos (by omega), if_neg w5, bw_id (z := ((wBg q + j : Nat) : Int) + 1) (by omega) (by omega), show ((wBg q + j : Nat) : Int) + 1 = ((wBg q + (j + 1) : Nat) : Int) by omega]
            exact ihk (j + 1) m (by omega) (by omega)
      have := run (wLn q) 0 n (by omega) (by omega)
      rw [Nat.add_zero] at this
      exact this
  unfold fX7_wordOf
  exact go 22 0 FU (by omega) (by unfold FU; omega)
theorem sIx_c : ∀ c : Nat, c < 256 → (sIx 1001 (i2c (c : Int)) < 0 ↔ ¬ isS (c : Int)) := by decide +kernel
