/-! the objects' cells by number; fewer locals known -/
def FU : Nat := 100000
def bkN (b : Nat) : Nat := if b = 28 then 0 else 600
def nRows (k : Int) : Nat := if k = 1 then 64 else 48
def ocR (sk : List Sk) (c N : Nat) : Prop := sk[c]? = some (.inl (6, [some (some (c + 1)), none, none])) ∧ sk[(c + 1)]? = some (.inr (0, N))
def ocF (sk : List Sk) (c : Nat) : Prop := sk[c]? = some (.inl (1, [some (some (c + 1)), some (some (c + 2)), some (some (c + 3)), some (some (c + 4)), some (some (c + 5)), some (some (c + 6)), none])) ∧ sk[(c + 1)]? = some (.inr (0, 12)) ∧ sk[(c + 2)]? = some (.inr (0, 12)) ∧ sk[(c + 3)]? = some (.inr (0, 12)) ∧ sk[(c + 4)]? = some (.inr (0, 12)) ∧ sk[(c + 5)]? = some (.inr (0, 12)) ∧ sk[(c + 6)]? = some (.inr (0, 12))
def ocL (sk : List Sk) (c : Nat) : Prop := sk[c]? = some (.inl (2, [some (some (c + 1)), some (some (c + 2)), some (some (c + 3)), some (some (c + 4)), some (some (c + 5)), some (some (c + 6)), none, none])) ∧ sk[(c + 1)]? = some (.inr (0, 400)) ∧ sk[(c + 2)]? = some (.inr (0, 16)) ∧ sk[(c + 3)]? = some (.inr (0, 17)) ∧ sk[(c + 4)]? = some (.inr (0, 16)) ∧ sk[(c + 5)]? = some (.inr (0, 10)) ∧ sk[(c + 6)]? = some (.inr (0, 48))
def ocW (sk : List Sk) (c : Nat) : Prop := sk[c]? = some (.inl (9, [none, none, none, none, none, none, none, none, some (some (c + 1)), some (some (c + 2)), some (some (c + 3)), some (some (c + 10)), some (some (c + 17)), some (some (c + 19)), some (some (c + 21)), some (some (c + 23)), some (some (c + 25))])) ∧ sk[(c + 1)]? = some (.inr (0, 56)) ∧ sk[(c + 2)]? = some (.inr (0, 56)) ∧ ocF sk (c + 3) ∧ ocL sk (c + 10) ∧ ocR sk (c + 17) 64 ∧ ocR sk (c + 19) 48 ∧ ocR sk (c + 21) 48 ∧ ocR sk (c + 23) 48 ∧ ocR sk (c + 25) (bkN c)
def ocP (sk : List Sk)  : Prop := sk[55]? = some (.inl (3, [some (some 56), some (some 57), some (some 58), none, none])) ∧ sk[56]? = some (.inr (0, 336)) ∧ sk[57]? = some (.inr (0, 72)) ∧ sk[58]? = some (.inr (0, 24))
def ocT (sk : List Sk)  : Prop := sk[59]? = some (.inl (7, [some (some 60), some (some 61), some (some 62), some (some 63), none])) ∧ sk[60]? = some (.inr (1, 400)) ∧ sk[61]? = some (.inr (0, 401)) ∧ sk[62]? = some (.inr (0, 401)) ∧ sk[63]? = some (.inr (0, 401))
def ocD (sk : List Sk)  : Prop := sk[64]? = some (.inl (4, [none, none, some (some 59), some (some 1), some (some 28), none, none, none])) ∧ ocT sk ∧ ocW sk 1 ∧ ocW sk 28
def ocC (sk : List Sk)  : Prop := sk[65]? = some (.inl (0, [some (some 66), some (some 67), some (some 68), some (some 69), some (some 70), none, none, some (some 71), some (some 72), some (some 73)])) ∧ sk[66]? = some (.inr (0, 12)) ∧ sk[67]? = some (.inr (0, 12)) ∧ sk[68]? = some (.inr (0, 144)) ∧ sk[69]? = some (.inr (0, 12)) ∧ sk[70]? = some (.inr (0, 12)) ∧ sk[71]? = some (.inr (0, 4096)) ∧ sk[72]? = some (.inr (0, 14)) ∧ sk[73]? = some (.inr (0, 10))
def ocY (sk : List Sk)  : Prop := sk[74]? = some (.inl (8, [some (some 75), some (some 76), some (some 77), some (some 78), some (some 79), none])) ∧ sk[75]? = some (.inr (0, 112)) ∧ sk[76]? = some (.inr (0, 56)) ∧ sk[77]? = some (.inr (0, 112)) ∧ sk[78]? = some (.inr (2, 56)) ∧ sk[79]? = some (.inr (2, 224))
def ocO (sk : List Sk)  : Prop := sk[80]? = some (.inl (5, [some (some 81), some (some 82), some (some 83), none, none])) ∧ sk[81]? = some (.inr (0, 16)) ∧ sk[82]? = some (.inr (0, 16)) ∧ sk[83]? = some (.inr (0, 16))
def ocS (sk : List Sk)  (kp : Option Nat) : Prop := sk[0]? = some (.inl (10, [some (some 1), some (some 28), some kp, some (some 55), some (some 59), some (some 64), some (some 65), some (some 74), some (some 80)])) ∧ ocW sk 1 ∧ ocW sk 28 ∧ ocP sk ∧ ocT sk ∧ ocD sk ∧ ocC sk ∧ ocY sk ∧ ocO sk
def ocM (sk : List Sk)  : Prop := sk[84]? = some (.inl (11, [some (some 85), some (some 86), some (some 87), some (some 88), none, none, some (some 89), some (some 90), some (some 91), some (some 92), some (some 93), some (some 94), none, none, none, none, none, none, none, none, none, none, none, none, none, none, none, some (some 95), none, some (some 96), some (some 97), some (some 98), some (some 99), some (some 100), some (some 101), some (some 102), some (some 103), some (some 104), none, some (some 105)])) ∧ sk[85]? = some (.inr (0, 1796)) ∧ sk[86]? = some (.inr (0, 1796)) ∧ sk[87]? = some (.inr (0, 480)) ∧ sk[88]? = some (.inr (0, 80)) ∧ sk[89]? = some (.inr (0, 64)) ∧ sk[90]? = some (.inr (0, 820)) ∧ sk[91]? = some (.inr (0, 64)) ∧ sk[92]? = some (.inr (0, 400)) ∧ sk[93]? = some (.inr (0, 420)) ∧ sk[94]? = some (.inr (0, 11)) ∧ sk[95]? = some (.inr (0, 64)) ∧ sk[96]? = some (.inr (0, 12)) ∧ sk[97]? = some (.inr (0, 12)) ∧ sk[98]? = some (.inr (0, 53248)) ∧ sk[99]? = some (.inr (0, 144)) ∧ sk[100]? = some (.inr (0, 10)) ∧ sk[101]? = some (.inr (0, 128)) ∧ sk[102]? = some (.inr (0, 128)) ∧ sk[103]? = some (.inr (0, 64)) ∧ sk[104]? = some (.inr (0, 256)) ∧ sk[105]? = some (.inr (0, 16))
def leP : List (Option PV) → List (Option PV) → Prop
  | [], [] => True
  | none :: t, _ :: u => leP t u
  | some v :: t, w :: u => w = some v ∧ leP t u
  | _, _ => False
theorem leP_z : leP [] [] := trivial
theorem leP_n {t u : List (Option PV)} {w : Option PV} (h : leP t u) : leP (none :: t) (w :: u) := h
theorem leP_s {t u : List (Option PV)} {v : PV} (h : leP t u) : leP (some v :: t) (some v :: u) := ⟨rfl, h⟩
theorem leP_len : ∀ (t u : List (Option PV)), leP t u → t.length = u.length
  | [], [], _ => rfl
  | none :: t, _ :: u, h => by rw [List.length_cons, List.length_cons, leP_len t u h]
  | some v :: t, w :: u, h => by rw [List.length_cons, List.length_cons, leP_len t u h.2]
  | [], _ :: _, h => by exact h.elim
  | none :: _, [], h => by exact h.elim
  | some _ :: _, [], h => by exact h.elim
theorem leP_at : ∀ (t u : List (Option PV)) (i : Nat) (v : PV), leP t u → t[i]? = some (some v) → u[i]? = some (some v)
  | [], [], i, v, _, h => by simp at h
  | none :: t, _ :: u, 0, v, _, h => by simp at h
  | none :: t, _ :: u, i + 1, v, hl, h => by simpa using leP_at t u i v hl (by simpa using h)
  | some x :: t, w :: u, 0, v, hl, h => by
    obtain ⟨rfl, -⟩ := hl
    simpa using h
  | some x :: t, w :: u, i + 1, v, hl, h => by simpa using leP_at t u i v hl.2 (by simpa using h)
  | [], _ :: _, _, _, h, _ => by exact h.elim
  | none :: _, [], _, _, h, _ => by exact h.elim
  | some _ :: _, [], _, _, h, _ => by exact h.elim
theorem j_weak {α : Type} {X : Cx} {M : MM} {P : PG} {tb : TB} {R : Room} {kc nc : Nat} {EX : EXT} {F : α → Prop × ZT} {ads : List Nat} {sk : List Sk} {L L2 : List (Option PV)} {st : List PV} {σ : Sg} {res : Option α} {pc : Nat} (h : leP L2 L) (k : J X M P tb R kc nc EX F ads sk (pc, L2, st, σ) res) : J X M P tb R kc nc EX F ads sk (pc, L, st, σ) res := by
  refine J.step (ps2 := (pc, L2, st, σ)) (fun ho a ha hq => ⟨ha, ⟨(leP_len _ _ h).trans hq.1, fun i v hv => hq.2.1 i v (leP_at _ _ i v h hv), hq.2.2⟩, fun Z kk => ?_⟩) k
  intro p e s m args below meth cc H locs ls FF hE hP hD hS hl
  refine kk p e s m args below meth cc H locs ls FF hE hP hD hS ⟨hl.1, hl.2.1, fun q hq2 => ?_⟩
  obtain ⟨-, h2⟩ := (lvx_mem (emL X ads L2) 0 q).mp hq2
  rw [Nat.sub_zero] at h2
  have h3 : (emL X ads L)[q.1]? = some (some q.2) := by
    rw [emL, List.getElem?_map] at h2 ⊢
    cases h4 : L2[q.1]? with
    | none => rw [h4] at h2; simp at h2
    | some w =>
      rw [h4] at h2
      cases w with
      | none => simp at h2
      | some v =>
        rw [leP_at _ _ _ v h h4]
        exact h2
  exact hl.at h3
theorem nrR_b {N : MM} {x : Int} (h : nrR N (some (.inl x))) (hb : N.2.2.2.1 = some .boolean) : x = 0 ∨ x = 1 := by
  rcases (h _ rfl).2 hb with q | q
  · exact Or.inl (Sum.inl.inj q)
  · exact Or.inr (Sum.inl.inj q)
def sLen (r : Nat) : Int := ((lenS.getD (r - 1000) 0 : Nat) : Int)
def sCh (r : Nat) (i : Int) : Int := ((bytS.getD (r - 1000) []).getD i.toNat 0).toInt
def sIx (r : Nat) (x : Int) : Int := match (bytS.getD (r - 1000) []).findIdx? (fun b => decide (b.toInt = x)) with
  | some k => (k : Int)
  | none => -1
