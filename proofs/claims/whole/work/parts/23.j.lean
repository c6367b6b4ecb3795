/-! the heap out of the pure picture; J -/
def fv (X : Cx) (ads : List Nat) (f : Int → Int32) : Nat → List (Option (Option Nat)) → List Value
  | _, [] => []
  | k, none :: t => .int (f (k : Int)) :: fv X ads f (k + 1) t
  | k, some r :: t => em X ads (.inr r) :: fv X ads f (k + 1) t
def aC (X : Cx) (ek : Nat) : ClassId := match ek with
  | 0 => X.2.2.1.1
  | 1 => X.2.2.1.2.1
  | _ => X.2.2.1.2.2
def mkc (X : Cx) (ads : List Nat) (f : Int → Int32) : Sk → va_E
  | .inl q => .inr (q.1, fv X ads f 0 q.2)
  | .inr q => .inl (aC X q.1, q.2, .inl (fun j : Nat => f (j : Int)))
def mkW (X : Cx) (ads : List Nat) (σ : Sg) (sk : List Sk) : va_W := sk.mapIdx (fun c s => (ads.getD c 0, mkc X ads (σ c) s))
theorem mkW_get {X : Cx} {ads : List Nat} {σ : Sg} {sk : List Sk} {c : Nat} {s : Sk} (h : sk[c]? = some s) : (mkW X ads σ sk)[c]? = some (ads.getD c 0, mkc X ads (σ c) s) := by
  rw [mkW, List.getElem?_mapIdx, h]; rfl
theorem wr_ne {σ : Sg} {c c2 : Nat} {i z : Int} (h : c2 ≠ c) : wr σ c i z c2 = σ c2 := by
  funext j
  unfold wr
  rw [if_neg (fun q => h q.1)]
theorem mkW_wr {X : Cx} {ads : List Nat} {σ : Sg} {sk : List Sk} {c : Nat} {s : Sk} {i z : Int} {e : va_E} (h : sk[c]? = some s) (he : mkc X ads (wr σ c i z c) s = e) : (mkW X ads σ sk).set c (ads.getD c 0, e) = mkW X ads (wr σ c i z) sk := by
  subst he
  apply List.ext_getElem?
  intro j
  rw [List.getElem?_set]
  by_cases hj : c = j
  · subst hj
    have hl : c < (mkW X ads σ sk).length := by
      rw [mkW, List.length_mapIdx]
      exact (List.getElem?_eq_some_iff.mp h).1
    rw [if_pos rfl, if_pos hl, mkW_get h]
  · rw [if_neg hj, mkW, mkW, List.getElem?_mapIdx, List.getElem?_mapIdx, wr_ne (fun q => hj q.symm)]
theorem fv_get {X : Cx} {ads : List Nat} {f : Int → Int32} : ∀ (fs : List (Option (Option Nat))) (k j : Nat), (fv X ads f k fs)[j]? = (fs[j]?).map (fun q => match q with
    | none => .int (f ((k + j : Nat) : Int))
    | some r => em X ads (.inr r))
  | [], k, j => by simp [fv]
  | none :: t, k, 0 => by simp [fv]
  | some r :: t, k, 0 => by simp [fv]
  | none :: t, k, j + 1 => by
    rw [fv, List.getElem?_cons_succ, List.getElem?_cons_succ, fv_get t (k + 1) j, show k + 1 + j = k + (j + 1) by omega]
  | some r :: t, k, j + 1 => by
    rw [fv, List.getElem?_cons_succ, List.getElem?_cons_succ, fv_get t (k + 1) j, show k + 1 + j = k + (j + 1) by omega]
theorem fv_set {X : Cx} {ads : List Nat} {f : Int → Int32} {fs : List (Option (Option Nat))} {j : Nat} {z : Int} (h : fs[j]? = some none) : (fv X ads f 0 fs).set j (.int (Int32.ofInt z)) = fv X ads (fun i => if i = (j : Int) then Int32.ofInt z else f i) 0 fs := by
  apply List.ext_getElem?
  intro i
  rw [List.getElem?_set, fv_get, fv_get]
  by_cases hj : j = i
  · subst hj
    rw [if_pos rfl, h]
    have hl : j < (fv X ads f 0 fs).length := by
      rcases Nat.lt_or_ge j (fv X ads f 0 fs).length with q | q
      · exact q
      · have h2 := List.getElem?_eq_none q
        rw [fv_get, h] at h2
        simp at h2
    rw [if_pos hl]
    simp
  · rw [if_neg hj]
    cases fs[i]? with
    | none => rfl
    | some q =>
      cases q with
      | none =>
        simp only [Option.map_some, Nat.zero_add]
        rw [if_neg (by omega)]
      | some r => rfl
/-- a class's own table: whole numbers, fields (entry, class, slot, slot), methods, nest mates' methods, texts -/
abbrev TB : Type := (Nat → Option Int) × List (Nat × Nat × Nat × Int) × List (Nat × MethodName) × List (Nat × MethodName × String) × List (Nat × Nat)
def flOK (own : String) (q : Nat × Nat × Nat × Int) : Prop := ∃ w : vw_C, vwCl[q.2.1]? = some w ∧ q.2.2.1 < w.2.2 ∧ (w.2.1 q.2.2.1).1 = w.1 ∧ (q.2.2.1 : Int) = q.2.2.2 ∧ Cond.fieldLink own q.1 w.1 (w.2.1 q.2.2.1).2.1 (w.2.1 q.2.2.1).2.2.1 ∈ TW
def tbOK (own : String) (tb : TB) : Prop := ctOK own tb.1 ∧ (∀ q ∈ tb.2.1, flOK own q) ∧ (∀ q ∈ tb.2.2.1, Cond.methodLink own q.1 q.2 ∈ TW) ∧ (∀ q ∈ tb.2.2.2.1, (own, q.1, q.2.1, q.2.2) ∈ nestL) ∧ (∀ q ∈ tb.2.2.2.2, q.2 < nS ∧ sOwn.getD q.2 "" = own ∧ sIdx.getD q.2 0 = q.1)
def okC (M : MM) (P : PG) (tb : TB) (ads : List Nat) (sk : List Sk) : Prop := okP M.2.1 P = true ∧ tbOK M.1.cls tb ∧ ads.length = sk.length ∧ sk.length ≤ 1000
def nrP (M : MM) (ps : PS) : Prop := ps.2.1.length = M.2.2.1 ∧ nrL ps.2.1 ∧ nrS ps.2.2.1
abbrev WP (X : Cx) (M : MM) (R : Room) (kc nc : Nat) (EX : EXT) (Z : ZT) (ads : List Nat) (sk : List Sk) (ps : PS) : Prop := WZ X M R kc nc EX Z ps.1 (emL X ads ps.2.1) (emS X ads ps.2.2.1) (mkW X ads ps.2.2.2 sk)
def J {α : Type} (X : Cx) (M : MM) (P : PG) (tb : TB) (R : Room) (kc nc : Nat) (EX : EXT) (F : α → Prop × ZT) (ads : List Nat) (sk : List Sk) (ps : PS) (res : Option α) : Prop :=
  okC M P tb ads sk → ∀ a, res = some a → nrP M ps → (F a).1 ∧ WP X M R kc nc EX (F a).2 ads sk ps
def srun (ct : Nat → Option Int) : PG → Nat → Nat → List (Option PV) → List PV → Option (Nat × List (Option PV) × List PV)
  | _, 0, pc, L, st => some (pc, L, st)
  | (i, p, p2) :: g, m + 1, pc, L, st => match Nat.beq p pc with
    | true => (match sstep ct i L st with
      | some (L2, st2) => srun ct g m p2 L2 st2
      | none => none)
    | false => none
  | [], _ + 1, _, _, _ => none
section JR
variable {α : Type} {X : Cx} {M : MM} {P : PG} {tb : TB} {R : Room} {kc nc : Nat} {EX : EXT} {F : α → Prop × ZT} {ads : List Nat} {sk : List Sk} {L : List (Option PV)} {st : List PV} {σ : Sg} {res : Option α} {pc pc2 : Nat}
theorem J.step {ps ps2 : PS} {r2 : Option α} (h : okC M P tb ads sk → ∀ a, res = some a → nrP M ps → r2 = some a ∧ nrP M ps2 ∧ ∀ Z, WP X M R kc nc EX Z ads sk ps2 → WP X M R kc nc EX Z ads sk ps) (k : J X M P tb R kc nc EX F ads sk ps2 r2) : J X M P tb R kc nc EX F ads sk ps res := by
  intro ho a ha hn
  obtain ⟨h1, h2, h3⟩ := h ho a ha hn
  obtain ⟨k1, k2⟩ := k ho a h1 h2
  exact ⟨k1, h3 _ k2⟩
theorem srun_ok {ct : Nat → Option Int} (hct : ctOK M.1.cls ct) (hP : okP M.2.1 P = true) {ws : va_W} : ∀ (m n pc : Nat) (L : List (Option PV)) (st : List PV) (pc2 : Nat) (L2 : List (Option PV)) (st2 : List PV), srun ct (P.drop n) m pc L st = some (pc2, L2, st2) → L.length = M.2.2.1 → nrL L → nrS st →
    (L2.length = M.2.2.1 ∧ nrL L2 ∧ nrS st2) ∧ ∀ Z, WZ X M R kc nc EX Z pc2 (emL X ads L2) (emS X ads st2) ws → WZ X M R kc nc EX Z pc (emL X ads L) (emS X ads st) ws
  | 0, n, pc, L, st, pc2, L2, st2, h, h1, h2, h3 => by
    cases hp : P.drop n with
    | nil => rw [hp, srun] at h; cases h; exact ⟨⟨h1, h2, h3⟩, fun _ k => k⟩
    | cons q g => rw [hp, srun] at h; cases h; exact ⟨⟨h1, h2, h3⟩, fun _ k => k⟩
  | m + 1, n, pc, L, st, pc2, L2, st2, h, h1, h2, h3 => by
    cases hp : P.drop n with
    | nil => rw [hp, srun] at h; cases h
    | cons q g =>
      obtain ⟨i, p, p2⟩ := q
      rw [hp, srun] at h
      split at h
      · next hb =>
        have hb := Nat.eq_of_beq_eq_true hb
        subst hb
        split at h
        · next L3 st3 hs =>
          have hn : P[n]? = some (i, p, p2) := by
            have := congrArg (fun l => l[0]?) hp
            simpa using this
          have hg : P.drop (n + 1) = g := by
            rw [← List.drop_drop, hp]; rfl
          obtain ⟨⟨q1, q2, q3⟩, q4⟩ := sstep_ok (X := X) (R := R) (kc := kc) (nc := nc) (EX := EX) (Z := fun _ _ _ _ => True) (ads := ads) (ws := ws) hct hP hn hs h1 h2 h3
          rw [← hg] at h
          obtain ⟨r1, r2⟩ := srun_ok hct hP m (n + 1) p2 L3 st3 pc2 L2 st2 h q1 q2 q3
          refine ⟨r1, fun Z k => ?_⟩
          exact (sstep_ok (X := X) (R := R) (kc := kc) (nc := nc) (EX := EX) (Z := Z) (ads := ads) (ws := ws) hct hP hn hs h1 h2 h3).2 (r2 Z k)
        · cases h
      · cases h
theorem j_run (n m : Nat) {L2 : List (Option PV)} {st2 : List PV} (he : srun tb.1 (P.drop n) m pc L st = some (pc2, L2, st2)) (k : J X M P tb R kc nc EX F ads sk (pc2, L2, st2, σ) res) : J X M P tb R kc nc EX F ads sk (pc, L, st, σ) res := by
  refine J.step (fun ho a ha hn => ?_) k
  obtain ⟨h1, h2⟩ := srun_ok (X := X) (R := R) (kc := kc) (nc := nc) (EX := EX) (ads := ads) (ws := mkW X ads σ sk) ho.2.1.1 ho.1 m n pc L st pc2 L2 st2 he hn.1 hn.2.1 hn.2.2
  exact ⟨ha, h1, h2⟩
theorem j_none {ps : PS} : J X M P tb R kc nc EX F ads sk ps (none : Option α) := fun _ a h => by cases h
theorem j_grd {ps : PS} {c : Prop} [Decidable c] (k : c → J X M P tb R kc nc EX F ads sk ps res) : J X M P tb R kc nc EX F ads sk ps (grd c res) := by
  intro ho a ha hn
  unfold grd at ha
  split at ha
  · next h => exact k h ho a ha hn
  · cases ha
theorem j_goto (n : Nat) {off : Int} {tgt : Nat} (hn : P[n]? = some (.goto off, pc, pc2)) (ht : (pc : Int) + off = (tgt : Int)) (k : J X M P tb R kc nc EX F ads sk (tgt, L, st, σ) res) : J X M P tb R kc nc EX F ads sk (pc, L, st, σ) res := by
  refine J.step (ps2 := (tgt, L, st, σ)) (fun ho a ha hq => ⟨ha, ⟨hq.1, hq.2⟩, fun Z kk => ?_⟩) k
  obtain ⟨hd, rfl⟩ := okP_get ho.1 hn (by simp [lenI])
  exact w_goto hd ht kk
/-- branches: 'c' by an ite of the result, 'b' by cases -/
theorem jb_if (n : Nat) {c : Jvm.ClassFile.Cond} {off : Int} {tgt : Nat} {x : Int} (C : Prop) (hn : P[n]? = some (.ifCond c off, pc, pc2)) (ht : (pc : Int) + off = (tgt : Int)) (hC : match c with
    | .eq => C ↔ x = 0
    | .ne => C ↔ ¬ x = 0
    | .lt => C ↔ x < 0
    | .ge => C ↔ 0 ≤ x
    | .gt => C ↔ 0 < x
    | .le => C ↔ x ≤ 0)
    (k1 : C → J X M P tb R kc nc EX F ads sk (tgt, L, st, σ) res) (k2 : ¬ C → J X M P tb R kc nc EX F ads sk (pc2, L, st, σ) res) : J X M P tb R kc nc EX F ads sk (pc, L, .inl x :: st, σ) res := by
  intro ho a ha hq
  obtain ⟨hd, rfl⟩ := okP_get ho.1 hn (by simp [lenI])
  have hx : bw x = x := nrS_head hq.2.2
  have hq2 : nrP M (tgt, L, st, σ) := ⟨hq.1, hq.2.1, nrS_tail hq.2.2⟩
  have key : ∀ (D : Prop), (C ↔ D) → ((F a).1 ∧ ((D → WP X M R kc nc EX (F a).2 ads sk (tgt, L, st, σ)) ∧ (¬ D → WP X M R kc nc EX (F a).2 ads sk (pc + 3, L, st, σ)))) := by
    intro D hD
    by_cases h : C
    · obtain ⟨r1, r2⟩ := k1 h ho a ha hq2
      exact ⟨r1, fun _ => r2, fun z => absurd (hD.mp h) z⟩
    · obtain ⟨r1, r2⟩ := k2 h ho a ha hq2
      exact ⟨r1, fun z => absurd (hD.mpr z) h, fun _ => r2⟩
  cases c with
  | eq =>
    obtain ⟨r1, r2⟩ := key (Int32.ofInt x = 0) (hC.trans (ofI_eq0 hx).symm)
    exact ⟨r1, w_if_eq hd ht r2⟩
  | ne =>
    obtain ⟨r1, r2⟩ := key (¬ Int32.ofInt x = 0) (hC.trans (not_congr (ofI_eq0 hx).symm))
    exact ⟨r1, w_if_ne hd ht ⟨r2.1, fun z => r2.2 (fun y => y z)⟩⟩
  | lt =>
    obtain ⟨r1, r2⟩ := key (Int32.ofInt x < 0) (hC.trans (ofI_lt hx (y := 0) rfl).symm)
    exact ⟨r1, w_if_lt hd ht r2⟩
  | ge =>
    obtain ⟨r1, r2⟩ := key (0 ≤ Int32.ofInt x) (hC.trans (ofI_le (x := 0) rfl hx).symm)
    exact ⟨r1, w_if_ge hd ht r2⟩
  | gt =>
    obtain ⟨r1, r2⟩ := key (0 < Int32.ofInt x) (hC.trans (ofI_lt (x := 0) rfl hx).symm)
    exact ⟨r1, w_if_gt hd ht r2⟩
  | le =>
    obtain ⟨r1, r2⟩ := key (Int32.ofInt x ≤ 0) (hC.trans (ofI_le hx (y := 0) rfl).symm)
    exact ⟨r1, w_if_le hd ht r2⟩
theorem jb_icmp (n : Nat) {c : Jvm.ClassFile.Cond} {off : Int} {tgt : Nat} {x y : Int} (C : Prop) (hn : P[n]? = some (.if_icmp c off, pc, pc2)) (ht : (pc : Int) + off = (tgt : Int)) (hC : match c with
    | .eq => C ↔ x = y
    | .ne => C ↔ ¬ x = y
    | .lt => C ↔ x < y
    | .ge => C ↔ y ≤ x
    | .gt => C ↔ y < x
    | .le => C ↔ x ≤ y)
    (k1 : C → J X M P tb R kc nc EX F ads sk (tgt, L, st, σ) res) (k2 : ¬ C → J X M P tb R kc nc EX F ads sk (pc2, L, st, σ) res) : J X M P tb R kc nc EX F ads sk (pc, L, .inl y :: .inl x :: st, σ) res := by
  intro ho a ha hq
  obtain ⟨hd, rfl⟩ := okP_get ho.1 hn (by simp [lenI])
  have hy : bw y = y := nrS_head hq.2.2
  have hx : bw x = x := nrS_head (nrS_tail hq.2.2)
  have hq2 : nrP M (tgt, L, st, σ) := ⟨hq.1, hq.2.1, nrS_tail (nrS_tail hq.2.2)⟩
  have key : ∀ (D : Prop), (C ↔ D) → ((F a).1 ∧ ((D → WP X M R kc nc EX (F a).2 ads sk (tgt, L, st, σ)) ∧ (¬ D → WP X M R kc nc EX (F a).2 ads sk (pc + 3, L, st, σ)))) := by
    intro D hD
    by_cases h : C
    · obtain ⟨r1, r2⟩ := k1 h ho a ha hq2
      exact ⟨r1, fun _ => r2, fun z => absurd (hD.mp h) z⟩
    · obtain ⟨r1, r2⟩ := k2 h ho a ha hq2
      exact ⟨r1, fun z => absurd (hD.mpr z) h, fun _ => r2⟩
  cases c with
  | eq =>
    obtain ⟨r1, r2⟩ := key (Int32.ofInt x = Int32.ofInt y) (hC.trans (ofI_inj hx hy).symm)
    exact ⟨r1, w_icmp_eq hd ht r2⟩
  | ne =>
    obtain ⟨r1, r2⟩ := key (¬ Int32.ofInt x = Int32.ofInt y) (hC.trans (not_congr (ofI_inj hx hy).symm))
    exact ⟨r1, w_icmp_ne hd ht ⟨r2.1, fun z => r2.2 (fun y => y z)⟩⟩
  | lt =>
    obtain ⟨r1, r2⟩ := key (Int32.ofInt x < Int32.ofInt y) (hC.trans (ofI_lt hx hy).symm)
    exact ⟨r1, w_icmp_lt hd ht r2⟩
  | ge =>
    obtain ⟨r1, r2⟩ := key (Int32.ofInt y ≤ Int32.ofInt x) (hC.trans (ofI_le hy hx).symm)
    exact ⟨r1, w_icmp_ge hd ht r2⟩
  | gt =>
    obtain ⟨r1, r2⟩ := key (Int32.ofInt y < Int32.ofInt x) (hC.trans (ofI_lt hy hx).symm)
    exact ⟨r1, w_icmp_gt hd ht r2⟩
  | le =>
    obtain ⟨r1, r2⟩ := key (Int32.ofInt x ≤ Int32.ofInt y) (hC.trans (ofI_le hx hy).symm)
    exact ⟨r1, w_icmp_le hd ht r2⟩
end JR
