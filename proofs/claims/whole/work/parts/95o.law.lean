/-! THE LAW's text, read in thought: steps out of tokens -/
abbrev Ls := List (Int × Int)
abbrev Ps := Except (Int × Nat) (Nat × Ls)
def bdP (r : Ps) (f : Nat → Ls → Ps) : Ps := match r with
  | .error e => .error e
  | .ok a => f a.1 a.2
theorem bdP_assoc (r : Ps) (f g : Nat → Ls → Ps) : bdP (bdP r f) g = bdP r (fun j l => bdP (f j l) g) := by
  cases r <;> rfl
theorem bdP_ok (j : Nat) (l : Ls) (f : Nat → Ls → Ps) : bdP (.ok (j, l)) f = f j l := rfl
theorem bdP_id (r : Ps) : bdP r (fun j l => .ok (j, l)) = r := by
  cases r <;> rfl
def apS (c : Int × Int) (j : Nat) (ls : Ls) : Ps := .ok (j, ls ++ [c])
def lpA (K : Nat → Int) (isOp : Int → Bool) (g : Int → Nat → Ls → Ps) : Nat → Nat → Ls → Ps
  | 0, j, ls => .ok (j, ls)
  | n + 1, j, ls => if isOp (K j) = true then bdP (g (K j) (j + 1) ls) (lpA K isOp g n) else .ok (j, ls)
def unA (K V : Nat → Int) (j : Nat) (ls : Ls) : Ps := if K j = 1 then .ok (j + 1, ls ++ [(0, V j)]) else if 10 ≤ K j ∧ K j ≤ 19 then .ok (j + 1, ls ++ [(K j - 9, 0)]) else .error (1, j)
def dvA (K V : Nat → Int) (j : Nat) (ls : Ls) : Ps := if K j = 1 then (if V j = 0 then .error (2, j) else .ok (j + 1, ls ++ [(26, V j)])) else .error (1, j)
def isPr (k : Int) : Bool := decide (k = 42 ∨ k = 47)
def isSu (k : Int) : Bool := decide (k = 43 ∨ k = 45)
def isAn (k : Int) : Bool := decide (k = 8)
def isOr (k : Int) : Bool := decide (k = 7)
def prG (K V : Nat → Int) (k : Int) (j : Nat) (ls : Ls) : Ps := if k = 42 then bdP (unA K V j ls) (apS (25, 0)) else dvA K V j ls
def prL (K V : Nat → Int) : Nat → Ls → Ps := lpA K isPr (prG K V) 401
def prA (K V : Nat → Int) (j : Nat) (ls : Ls) : Ps := bdP (unA K V j ls) (prL K V)
def suC (k : Int) : Int × Int := if k = 43 then (23, 0) else (24, 0)
def suG (K V : Nat → Int) (k : Int) (j : Nat) (ls : Ls) : Ps := bdP (prA K V j ls) (apS (suC k))
def suL (K V : Nat → Int) : Nat → Ls → Ps := lpA K isSu (suG K V) 401
def suA (K V : Nat → Int) (j : Nat) (ls : Ls) : Ps := bdP (prA K V j ls) (suL K V)
def anL (K : Nat → Int) (f : Nat → Ls → Ps) : Nat → Ls → Ps := lpA K isAn (fun _ j ls => bdP (f j ls) (apS (31, 0))) 401
def evA (K : Nat → Int) (f : Nat → Ls → Ps) (j : Nat) (ls : Ls) : Ps := bdP (f j ls) (anL K f)
def orL (K : Nat → Int) (f : Nat → Ls → Ps) : Nat → Ls → Ps := lpA K isOr (fun _ j ls => bdP (evA K f j ls) (apS (32, 0))) 401
def anA (K : Nat → Int) (f : Nat → Ls → Ps) (j : Nat) (ls : Ls) : Ps := bdP (evA K f j ls) (orL K f)
def tsE (K V : Nat → Int) (j : Nat) (ls : Ls) : Ps := if K j = 60 ∨ K j = 61 ∨ K j = 62 then bdP (suA K V (j + 1) ls) (apS (K j - 33, 0)) else .error (1, j)
def tsA (K V : Nat → Int) (j : Nat) (ls : Ls) : Ps := bdP (suA K V j ls) (tsE K V)
def clA (K : Nat → Int) (c : Int) (j : Nat) (ls : Ls) : Ps := if K j = c then .ok (j + 1, ls) else .error (1, j)
def onA (K V : Nat → Int) : Nat → Nat → Ls → Ps
  | 0, j, ls => if K j = 9 ∨ K j = 40 then .error (3, j) else tsA K V j ls
  | r + 1, j, ls => if K j = 9 then bdP (onA K V r (j + 1) ls) (apS (30, 0)) else if K j = 40 then bdP (anA K (onA K V r) (j + 1) ls) (clA K 41) else tsA K V j ls
/-! its code -/
def encS (s : Int × Int) : List Int := if s.1 = 26 then [s.2, -58] else [if s.1 = 0 then s.2 else if s.1 < 23 then -s.1 else if s.1 = 23 then -54 else if s.1 = 24 then -56 else if s.1 = 25 then -53 else if s.1 = 27 then -71 else if s.1 = 28 then -72 else if s.1 = 29 then -73 else if s.1 = 30 then -20 else if s.1 = 31 then -19 else -18]
def encL : Ls → List Int
  | [] => []
  | s :: t => encS s ++ encL t
theorem encL_app : ∀ a b : Ls, encL (a ++ b) = encL a ++ encL b
  | [], b => rfl
  | s :: t, b => by
    show encS s ++ encL (t ++ b) = encS s ++ encL t ++ encL b
    rw [encL_app t b, List.append_assoc]
theorem encS_len (s : Int × Int) : (encS s).length = if s.1 = 26 then 2 else 1 := by
  unfold encS
  split <;> rfl
theorem encL_le : ∀ a : Ls, a.length ≤ (encL a).length
  | [] => Nat.le_refl _
  | s :: t => by
    have h1 := encL_le t
    have h2 := encS_len s
    show t.length + 1 ≤ (encS s ++ encL t).length
    rw [List.length_append, h2]
    split <;> omega
theorem encL_one (s : Int × Int) : encL [s] = encS s := List.append_nil _
theorem tys_ap : ∀ (a b : Ls) (ts : List Bool), tys (a ++ b) ts = (tys a ts).bind (tys b)
  | [], b, ts => rfl
  | s :: t, b, ts => by
    show (ty1 s ts).bind (tys (t ++ b)) = ((ty1 s ts).bind (tys t)).bind (tys b)
    cases ty1 s ts with
    | none => rfl
    | some x => exact tys_ap t b x
/-! what is read keeps its types and its room -/
def HK (K V : Nat → Int) (N : Nat) : Prop := N ≤ 400 ∧ (∀ j, j < N → K j ≠ 0) ∧ K N = 0 ∧ ∀ j, K j = 1 → 0 ≤ V j ∧ V j ≤ 9999
theorem HK.lt {K V : Nat → Int} {N j : Nat} (h : HK K V N) (hj : j ≤ N) (hk : K j ≠ 0) : j < N := by
  rcases Nat.lt_or_ge j N with c | c
  · exact c
  · have : j = N := by omega
    rw [this] at hk
    exact absurd h.2.2.1 hk
def TyA (N h e : Nat) (pre post : List Bool) (j : Nat) (ls : Ls) (r : Ps) : Prop := match r with
  | .error x => (x.1 = 1 ∨ x.1 = 2 ∨ x.1 = 3) ∧ j ≤ x.2 ∧ x.2 ≤ N
  | .ok a => j ≤ a.1 ∧ a.1 ≤ N ∧ ∃ new, a.2 = ls ++ new ∧ (encL new).length + j ≤ a.1 + e ∧ ∀ ts : List Bool, ts.length + h ≤ 47 → tys new (pre ++ ts) = some (post ++ ts)
theorem TyA_err {N h e : Nat} {pre post : List Bool} {j : Nat} {ls : Ls} {f : Int} {j2 : Nat} (h1 : f = 1 ∨ f = 2 ∨ f = 3) (h2 : j ≤ j2) (h3 : j2 ≤ N) : TyA N h e pre post j ls (.error (f, j2)) := ⟨h1, h2, h3⟩
theorem TyA_ok {N h e : Nat} {pre post : List Bool} {j : Nat} {ls : Ls} {j2 : Nat} {new : Ls} (h1 : j ≤ j2) (h2 : j2 ≤ N) (h3 : (encL new).length + j ≤ j2 + e) (h4 : ∀ ts : List Bool, ts.length + h ≤ 47 → tys new (pre ++ ts) = some (post ++ ts)) : TyA N h e pre post j ls (.ok (j2, ls ++ new)) := ⟨h1, h2, new, rfl, h3, h4⟩
theorem TyA_id {N h e : Nat} {pre : List Bool} {j : Nat} {ls : Ls} (h2 : j ≤ N) : TyA N h e pre pre j ls (.ok (j, ls)) := ⟨Nat.le_refl _, h2, [], (List.append_nil _).symm, by show 0 + j ≤ j + e; omega, fun ts _ => rfl⟩
theorem TyA_bd {N h1 h2 h e1 e2 e : Nat} {pre mid post : List Bool} {j : Nat} {ls : Ls} {r : Ps} {f : Nat → Ls → Ps} (k1 : TyA N h1 e1 pre mid j ls r) (k2 : ∀ j2 l2, r = .ok (j2, l2) → j ≤ j2 → j2 ≤ N → TyA N h2 e2 mid post j2 l2 (f j2 l2)) (ha : h1 ≤ h) (hb : h2 ≤ h) (he : e1 + e2 ≤ e) : TyA N h e pre post j ls (bdP r f) := by
  cases r with
  | error x => exact k1
  | ok a =>
    obtain ⟨a1, a2, new, a3, a4, a5⟩ := k1
    have k2 := k2 a.1 a.2 rfl a1 a2
    show TyA N h e pre post j ls (f a.1 a.2)
    cases hf : f a.1 a.2 with
    | error x =>
      rw [hf] at k2
      exact ⟨k2.1, by have := k2.2.1; omega, k2.2.2⟩
    | ok b =>
      rw [hf] at k2
      obtain ⟨b1, b2, nw2, b3, b4, b5⟩ := k2
      refine ⟨by omega, b2, new ++ nw2, by rw [b3, a3, List.append_assoc], ?_, fun ts hts => ?_⟩
      · rw [encL_app, List.length_append]; omega
      · rw [tys_ap, a5 ts (by omega), Option.bind_some, b5 ts (by omega)]
theorem TyA_pass {N h e : Nat} {pre post : List Bool} {j : Nat} {ls : Ls} {r : Ps} (k : TyA N h (e + 1) pre post (j + 1) ls r) : TyA N h e pre post j ls r := by
  cases r with
  | error x => exact ⟨k.1, by have := k.2.1; omega, k.2.2⟩
  | ok a =>
    obtain ⟨a1, a2, new, a3, a4, a5⟩ := k
    exact ⟨by omega, a2, new, a3, by omega, a5⟩
theorem TyA_left {N h e : Nat} {x post : List Bool} {j : Nat} {ls : Ls} {r : Ps} (k : TyA N h e [] post j ls r) : TyA N (h + x.length) e x (post ++ x) j ls r := by
  cases r with
  | error x => exact k
  | ok a =>
    obtain ⟨a1, a2, new, a3, a4, a5⟩ := k
    refine ⟨a1, a2, new, a3, a4, fun ts hts => ?_⟩
    have := a5 (x ++ ts) (by rw [List.length_append]; omega)
    rw [List.append_assoc]
    exact this
theorem TyA_mono {N h h2 e e2 : Nat} {pre post : List Bool} {j : Nat} {ls : Ls} {r : Ps} (k : TyA N h e pre post j ls r) (hh : h ≤ h2) (he : e ≤ e2) : TyA N h2 e2 pre post j ls r := by
  cases r with
  | error x => exact k
  | ok a =>
    obtain ⟨a1, a2, new, a3, a4, a5⟩ := k
    exact ⟨a1, a2, new, a3, by omega, fun ts hts => a5 ts (by omega)⟩
theorem TyA_apS {N h : Nat} {pre post : List Bool} {j : Nat} {ls : Ls} {c : Int × Int} (hj : j ≤ N) (hc : c.1 ≠ 26) (ht : ∀ ts : List Bool, ts.length + h ≤ 47 → ty1 c (pre ++ ts) = some (post ++ ts)) : TyA N h 1 pre post j ls (apS c j ls) := by
  refine TyA_ok (Nat.le_refl _) hj ?_ (fun ts hts => ?_)
  · rw [encL_one, encS_len, if_neg hc]; omega
  · show (ty1 c (pre ++ ts)).bind (tys []) = _
    rw [ht ts hts]; rfl
section
variable {K V : Nat → Int} {N : Nat}
theorem TyA_unA (H : HK K V N) {j : Nat} (hj : j ≤ N) (ls : Ls) : TyA N 1 0 [] [false] j ls (unA K V j ls) := by
  unfold unA
  by_cases c1 : K j = 1
  · have hl := H.lt hj (by omega)
    have hv := H.2.2.2 j c1
    rw [if_pos c1]
    refine TyA_ok (by omega) (by omega) (by rw [encL_one, encS_len]; exact Nat.le_of_eq (by rw [if_neg (show ¬ (0 : Int) = 26 by decide)]; omega)) (fun ts hts => ?_)
    show (ty1 (0, V j) ts).bind (tys []) = some (false :: ts)
    unfold ty1
    rw [if_pos rfl, if_pos ⟨hv.1, hv.2, by omega⟩]; rfl
  · rw [if_neg c1]
    by_cases c2 : 10 ≤ K j ∧ K j ≤ 19
    · have hl := H.lt hj (by omega)
      rw [if_pos c2]
      refine TyA_ok (by omega) (by omega) (by rw [encL_one, encS_len]; exact Nat.le_of_eq (by rw [if_neg (show ¬ K j - 9 = 26 by omega)]; omega)) (fun ts hts => ?_)
      show (ty1 (K j - 9, 0) ts).bind (tys []) = some (false :: ts)
      unfold ty1
      rw [if_neg (show ¬ K j - 9 = 0 by omega), if_pos (show 1 ≤ K j - 9 ∧ K j - 9 ≤ 10 by omega), if_pos (by omega)]; rfl
    · rw [if_neg c2]
      exact TyA_err (Or.inl rfl) (Nat.le_refl _) hj
theorem TyA_dvA (H : HK K V N) {j : Nat} (hj : j ≤ N) (ls : Ls) : TyA N 1 1 [false] [false] j ls (dvA K V j ls) := by
  unfold dvA
  by_cases c1 : K j = 1
  · have hl := H.lt hj (by omega)
    have hv := H.2.2.2 j c1
    rw [if_pos c1]
    by_cases c2 : V j = 0
    · rw [if_pos c2]; exact TyA_err (Or.inr (Or.inl rfl)) (Nat.le_refl _) hj
    · rw [if_neg c2]
      refine TyA_ok (by omega) (by omega) (by rw [encL_one, encS_len]; exact Nat.le_of_eq (by rw [if_pos rfl]; omega)) (fun ts hts => ?_)
      show (ty1 (26, V j) (false :: ts)).bind (tys []) = some (false :: ts)
      unfold ty1
      rw [if_neg (show ¬ (26 : Int) = 0 by decide), if_neg (show ¬ (1 ≤ (26 : Int) ∧ (26 : Int) ≤ 10) by decide)]
      show (if (26 : Int) = 26 then (if 1 ≤ V j ∧ V j ≤ 9999 then some (false :: ts) else none) else _).bind (tys []) = _
      rw [if_pos rfl, if_pos (by omega)]; rfl
  · rw [if_neg c1]
    exact TyA_err (Or.inl rfl) (Nat.le_refl _) hj
theorem TyA_lpA {isOp : Int → Bool} {g : Int → Nat → Ls → Ps} {h : Nat} {x : List Bool} (H : HK K V N) (h0 : isOp 0 = false) (hg : ∀ k j ls, isOp k = true → j ≤ N → TyA N h 1 x x j ls (g k j ls)) : ∀ (n j : Nat) (ls : Ls), j ≤ N → TyA N h 0 x x j ls (lpA K isOp g n j ls)
  | 0, j, ls, hj => TyA_id hj
  | n + 1, j, ls, hj => by
    rw [lpA]
    by_cases c : isOp (K j) = true
    · rw [if_pos c]
      have hl := H.lt hj (fun q => by rw [q, h0] at c; cases c)
      exact TyA_bd (TyA_pass (hg (K j) (j + 1) ls c (by omega))) (fun j2 l2 _ _ q => TyA_lpA H h0 hg n j2 l2 q) (Nat.le_refl _) (Nat.le_refl _) (Nat.le_refl _)
    · rw [if_neg c]; exact TyA_id hj
theorem TyA_adv {h e : Nat} {pre post : List Bool} {j : Nat} {ls : Ls} {r : Ps} (k : TyA N h e pre post j ls r) {a : Nat × Ls} (q : r = .ok a) : j ≤ a.1 ∧ a.1 ≤ N := by
  rw [q] at k
  exact ⟨k.1, k.2.1⟩
theorem lpA_fuel {isOp : Int → Bool} {g : Int → Nat → Ls → Ps} {h : Nat} {x : List Bool} (H : HK K V N) (h0 : isOp 0 = false) (hg : ∀ k j ls, isOp k = true → j ≤ N → TyA N h 1 x x j ls (g k j ls)) : ∀ (n n2 j : Nat) (ls : Ls), j ≤ N → N - j < n → N - j < n2 → lpA K isOp g n j ls = lpA K isOp g n2 j ls
  | 0, n2, j, ls, hj, h1, h2 => by omega
  | n + 1, 0, j, ls, hj, h1, h2 => by omega
  | n + 1, n2 + 1, j, ls, hj, h1, h2 => by
    rw [lpA, lpA]
    by_cases c : isOp (K j) = true
    · rw [if_pos c, if_pos c]
      have hl := H.lt hj (fun q => by rw [q, h0] at c; cases c)
      have k := hg (K j) (j + 1) ls c (by omega)
      cases e : g (K j) (j + 1) ls with
      | error y => rfl
      | ok a =>
        have := TyA_adv k e
        exact lpA_fuel H h0 hg n n2 a.1 a.2 this.2 (by omega) (by omega)
    · rw [if_neg c, if_neg c]
theorem lpA_unf {isOp : Int → Bool} {g : Int → Nat → Ls → Ps} {h : Nat} {x : List Bool} (H : HK K V N) (h0 : isOp 0 = false) (hg : ∀ k j ls, isOp k = true → j ≤ N → TyA N h 1 x x j ls (g k j ls)) {j : Nat} (ls : Ls) (hj : j ≤ N) : lpA K isOp g 401 j ls = if isOp (K j) = true then bdP (g (K j) (j + 1) ls) (lpA K isOp g 401) else .ok (j, ls) := by
  show lpA K isOp g (400 + 1) j ls = _
  rw [lpA]
  by_cases c : isOp (K j) = true
  · rw [if_pos c, if_pos c]
    have hl := H.lt hj (fun q => by rw [q, h0] at c; cases c)
    have hN := H.1
    have k := hg (K j) (j + 1) ls c (by omega)
    cases e : g (K j) (j + 1) ls with
    | error y => exact (rfl : (Except.error y : Ps) = Except.error y)
    | ok a =>
      have := TyA_adv k e
      exact lpA_fuel H h0 hg 400 401 a.1 a.2 this.2 (by omega) (by omega)
  · rw [if_neg c, if_neg c]
theorem ty_two {k : Int} (hk : 23 ≤ k ∧ k ≤ 25) (ts : List Bool) : ty1 (k, 0) ([false, false] ++ ts) = some ([false] ++ ts) := by
  show ty1 (k, 0) (false :: false :: ts) = some (false :: ts)
  unfold ty1
  rw [if_neg (show ¬ k = 0 by omega), if_neg (show ¬ (1 ≤ k ∧ k ≤ 10) by omega)]
  show (if k = 26 then (if 1 ≤ (0 : Int) ∧ (0 : Int) ≤ 9999 then some (false :: false :: ts) else none) else if k = 30 then _ else if 23 ≤ k ∧ k ≤ 25 then some (false :: ts) else _) = _
  rw [if_neg (by omega), if_neg (by omega), if_pos hk]
theorem ty_cmp {k : Int} (hk : 27 ≤ k ∧ k ≤ 29) (ts : List Bool) : ty1 (k, 0) ([false, false] ++ ts) = some ([true] ++ ts) := by
  show ty1 (k, 0) (false :: false :: ts) = some (true :: ts)
  unfold ty1
  rw [if_neg (show ¬ k = 0 by omega), if_neg (show ¬ (1 ≤ k ∧ k ≤ 10) by omega)]
  show (if k = 26 then (if 1 ≤ (0 : Int) ∧ (0 : Int) ≤ 9999 then some (false :: false :: ts) else none) else if k = 30 then _ else if 23 ≤ k ∧ k ≤ 25 then _ else if 27 ≤ k ∧ k ≤ 29 then some (true :: ts) else _) = _
  rw [if_neg (by omega), if_neg (by omega), if_neg (by omega), if_pos hk]
theorem ty_log {k : Int} (hk : 31 ≤ k ∧ k ≤ 32) (ts : List Bool) : ty1 (k, 0) ([true, true] ++ ts) = some ([true] ++ ts) := by
  show ty1 (k, 0) (true :: true :: ts) = some (true :: ts)
  unfold ty1
  rw [if_neg (show ¬ k = 0 by omega), if_neg (show ¬ (1 ≤ k ∧ k ≤ 10) by omega)]
  show (if k = 26 then (if 1 ≤ (0 : Int) ∧ (0 : Int) ≤ 9999 then some (false :: true :: ts) else none) else if k = 30 then _ else if 23 ≤ k ∧ k ≤ 25 then _ else if 27 ≤ k ∧ k ≤ 29 then _ else if 31 ≤ k ∧ k ≤ 32 ∧ true = true ∧ true = true then some (true :: ts) else none) = _
  rw [if_neg (by omega), if_neg (by omega), if_neg (by omega), if_neg (by omega), if_pos ⟨hk.1, hk.2, rfl, rfl⟩]
theorem TyA_prG (H : HK K V N) (k : Int) (j : Nat) (ls : Ls) (_ : isPr k = true) (hj : j ≤ N) : TyA N 2 1 [false] [false] j ls (prG K V k j ls) := by
  unfold prG
  by_cases c : k = 42
  · rw [if_pos c]
    exact TyA_bd (TyA_left (x := [false]) (TyA_unA H hj ls)) (fun j2 l2 _ _ q => TyA_apS (h := 2) q (by decide) (fun ts _ => ty_two (by decide) ts)) (by decide) (Nat.le_refl _) (by decide)
  · rw [if_neg c]
    exact TyA_mono (TyA_dvA H hj ls) (by decide) (Nat.le_refl _)
theorem TyA_prL (H : HK K V N) {j : Nat} (ls : Ls) (hj : j ≤ N) : TyA N 2 0 [false] [false] j ls (prL K V j ls) := TyA_lpA H rfl (TyA_prG H) 401 j ls hj
theorem prL_unf (H : HK K V N) {j : Nat} (ls : Ls) (hj : j ≤ N) : prL K V j ls = if isPr (K j) = true then bdP (prG K V (K j) (j + 1) ls) (prL K V) else .ok (j, ls) := lpA_unf H rfl (TyA_prG H) ls hj
theorem TyA_prA (H : HK K V N) {j : Nat} (hj : j ≤ N) (ls : Ls) : TyA N 2 0 [] [false] j ls (prA K V j ls) := TyA_bd (TyA_unA H hj ls) (fun _ l2 _ _ q => TyA_prL H l2 q) (by decide) (Nat.le_refl _) (Nat.le_refl _)
theorem TyA_suG (H : HK K V N) (k : Int) (j : Nat) (ls : Ls) (_ : isSu k = true) (hj : j ≤ N) : TyA N 3 1 [false] [false] j ls (suG K V k j ls) := by
  unfold suG suC
  refine TyA_bd (e2 := 1) (h2 := 3) (TyA_left (x := [false]) (TyA_prA H hj ls)) (fun j2 l2 _ _ q => ?_) (by decide) (Nat.le_refl 3) (by decide)
  by_cases c : k = 43
  · rw [if_pos c]; exact TyA_apS q (by decide) (fun ts _ => ty_two (by decide) ts)
  · rw [if_neg c]; exact TyA_apS q (by decide) (fun ts _ => ty_two (by decide) ts)
theorem TyA_suL (H : HK K V N) {j : Nat} (ls : Ls) (hj : j ≤ N) : TyA N 3 0 [false] [false] j ls (suL K V j ls) := TyA_lpA H rfl (TyA_suG H) 401 j ls hj
theorem suL_unf (H : HK K V N) {j : Nat} (ls : Ls) (hj : j ≤ N) : suL K V j ls = if isSu (K j) = true then bdP (suG K V (K j) (j + 1) ls) (suL K V) else .ok (j, ls) := lpA_unf H rfl (TyA_suG H) ls hj
theorem TyA_suA (H : HK K V N) {j : Nat} (hj : j ≤ N) (ls : Ls) : TyA N 3 0 [] [false] j ls (suA K V j ls) := TyA_bd (TyA_prA H hj ls) (fun _ l2 _ _ q => TyA_suL H l2 q) (by decide) (Nat.le_refl _) (Nat.le_refl _)
theorem TyA_tsE (H : HK K V N) {j : Nat} (hj : j ≤ N) (ls : Ls) : TyA N 4 0 [false] [true] j ls (tsE K V j ls) := by
  unfold tsE
  by_cases c : K j = 60 ∨ K j = 61 ∨ K j = 62
  · have hl := H.lt hj (by omega)
    rw [if_pos c]
    exact TyA_pass (TyA_bd (TyA_left (x := [false]) (TyA_suA H (by omega) ls)) (fun j2 l2 _ _ q => TyA_apS (h := 4) q (show ¬ K j - 33 = 26 by omega) (fun ts _ => ty_cmp (by omega) ts)) (by decide) (Nat.le_refl _) (by decide))
  · rw [if_neg c]; exact TyA_err (Or.inl rfl) (Nat.le_refl _) hj
theorem TyA_tsA (H : HK K V N) {j : Nat} (hj : j ≤ N) (ls : Ls) : TyA N 4 0 [] [true] j ls (tsA K V j ls) := TyA_bd (TyA_suA H hj ls) (fun _ l2 _ _ q => TyA_tsE H q l2) (by decide) (Nat.le_refl _) (Nat.le_refl _)
def TyF (N h : Nat) (f : Nat → Ls → Ps) : Prop := ∀ j ls, j ≤ N → TyA N h 0 [] [true] j ls (f j ls)
theorem TyF_an {f : Nat → Ls → Ps} {h : Nat} (F : TyF N h f) (k : Int) (j : Nat) (ls : Ls) (_ : isAn k = true) (hj : j ≤ N) : TyA N (h + 1) 1 [true] [true] j ls (bdP (f j ls) (apS (31, 0))) :=
  TyA_bd (TyA_left (x := [true]) (F j ls hj)) (fun j2 l2 _ _ q => TyA_apS (h := h + 1) q (by decide) (fun ts _ => ty_log (by decide) ts)) (Nat.le_refl _) (Nat.le_refl _) (by decide)
theorem TyA_anL (H : HK K V N) {f : Nat → Ls → Ps} {h : Nat} (F : TyF N h f) {j : Nat} (ls : Ls) (hj : j ≤ N) : TyA N (h + 1) 0 [true] [true] j ls (anL K f j ls) := TyA_lpA H rfl (TyF_an F) 401 j ls hj
theorem anL_unf (H : HK K V N) {f : Nat → Ls → Ps} {h : Nat} (F : TyF N h f) {j : Nat} (ls : Ls) (hj : j ≤ N) : anL K f j ls = if isAn (K j) = true then bdP (bdP (f (j + 1) ls) (apS (31, 0))) (anL K f) else .ok (j, ls) := lpA_unf H rfl (TyF_an F) ls hj
theorem TyF_ev (H : HK K V N) {f : Nat → Ls → Ps} {h : Nat} (F : TyF N h f) : TyF N (h + 1) (evA K f) := fun j ls hj => TyA_bd (F j ls hj) (fun _ l2 _ _ q => TyA_anL H F l2 q) (Nat.le_succ _) (Nat.le_refl _) (Nat.le_refl _)
theorem TyF_or (H : HK K V N) {f : Nat → Ls → Ps} {h : Nat} (F : TyF N h f) (k : Int) (j : Nat) (ls : Ls) (_ : isOr k = true) (hj : j ≤ N) : TyA N (h + 2) 1 [true] [true] j ls (bdP (evA K f j ls) (apS (32, 0))) :=
  TyA_bd (TyA_left (x := [true]) (TyF_ev H F j ls hj)) (fun j2 l2 _ _ q => TyA_apS (h := h + 2) q (by decide) (fun ts _ => ty_log (by decide) ts)) (Nat.le_refl _) (Nat.le_refl _) (by decide)
theorem TyA_orL (H : HK K V N) {f : Nat → Ls → Ps} {h : Nat} (F : TyF N h f) {j : Nat} (ls : Ls) (hj : j ≤ N) : TyA N (h + 2) 0 [true] [true] j ls (orL K f j ls) := TyA_lpA H rfl (TyF_or H F) 401 j ls hj
theorem orL_unf (H : HK K V N) {f : Nat → Ls → Ps} {h : Nat} (F : TyF N h f) {j : Nat} (ls : Ls) (hj : j ≤ N) : orL K f j ls = if isOr (K j) = true then bdP (bdP (evA K f (j + 1) ls) (apS (32, 0))) (orL K f) else .ok (j, ls) := lpA_unf H rfl (TyF_or H F) ls hj
theorem TyF_anA (H : HK K V N) {f : Nat → Ls → Ps} {h : Nat} (F : TyF N h f) : TyF N (h + 2) (anA K f) := fun j ls hj => TyA_bd (TyF_ev H F j ls hj) (fun _ l2 _ _ q => TyA_orL H F l2 q) (Nat.le_succ _) (Nat.le_refl _) (Nat.le_refl _)
theorem ty_not (ts : List Bool) : ty1 (30, 0) ([true] ++ ts) = some ([true] ++ ts) := by
  show ty1 (30, 0) (true :: ts) = some (true :: ts)
  unfold ty1
  rw [if_neg (by decide), if_neg (by decide)]
  show (if (30 : Int) = 26 then _ else if (30 : Int) = 30 then (if true = true then some (true :: ts) else none) else _) = _
  rw [if_neg (by decide), if_pos rfl, if_pos rfl]
theorem TyF_onA (H : HK K V N) : ∀ r : Nat, TyF N (4 + 2 * r) (onA K V r)
  | 0 => fun j ls hj => by
    rw [onA]
    by_cases c : K j = 9 ∨ K j = 40
    · rw [if_pos c]; exact TyA_err (Or.inr (Or.inr rfl)) (Nat.le_refl _) hj
    · rw [if_neg c]; exact TyA_tsA H hj ls
  | r + 1 => fun j ls hj => by
    have F := TyF_onA H r
    rw [onA]
    by_cases c : K j = 9
    · rw [if_pos c]
      have hl := H.lt hj (by omega)
      exact TyA_pass (TyA_bd (F (j + 1) ls hl) (fun j2 l2 _ _ q => TyA_apS (h := 4 + 2 * (r + 1)) q (by decide) (fun ts _ => ty_not ts)) (by omega) (Nat.le_refl _) (by decide))
    · rw [if_neg c]
      by_cases c2 : K j = 40
      · rw [if_pos c2]
        have hl := H.lt hj (by omega)
        refine TyA_pass (TyA_mono (e := 0) (TyA_bd (h2 := 0) (e1 := 0) (e2 := 0) (TyF_anA H F (j + 1) ls hl) (fun j2 l2 _ _ q => ?_) (Nat.le_refl _) (Nat.zero_le _) (Nat.le_refl _)) (by omega) (by decide))
        unfold clA
        by_cases c3 : K j2 = 41
        · have hl2 := H.lt q (by omega)
          rw [if_pos c3]
          exact ⟨by show j2 ≤ j2 + 1; omega, hl2, [], (List.append_nil _).symm, by show 0 + j2 ≤ j2 + 1 + 0; omega, fun ts _ => rfl⟩
        · rw [if_neg c3]; exact TyA_err (Or.inl rfl) (Nat.le_refl _) q
      · rw [if_neg c2]
        exact TyA_mono (TyA_tsA H hj ls) (by omega) (Nat.le_refl _)
end
