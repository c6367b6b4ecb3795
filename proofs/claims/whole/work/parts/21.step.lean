/-! what a run of simple instructions does to locals and stack -/
def ldL (L : List (Option PV)) (i : Nat) : Option PV := match L[i]? with
  | some (some v) => some v
  | _ => none
theorem okP_get {code : ByteArray} {P : PG} {n : Nat} {i : Instr} {pc pc2 : Nat} (h : okP code P = true) (hn : P[n]? = some (i, pc, pc2)) (hl : lenI i ≠ 0) : decode code pc = .ok (i, lenI i) ∧ pc2 = pc + lenI i := by
  have h1 := List.all_eq_true.mp h _ (List.mem_of_getElem? hn)
  simp only [Bool.and_eq_true, decide_eq_true_eq, Bool.or_eq_true, beq_iff_eq] at h1
  obtain ⟨h1, h2⟩ := h1
  rw [if_neg hl] at h1
  exact ⟨h1, h2.resolve_left hl⟩
theorem okP_sw {code : ByteArray} {P : PG} {n : Nat} {i : Instr} {pc pc2 : Nat} (h : okP code P = true) (hn : P[n]? = some (i, pc, pc2)) (hl : lenI i = 0) : decode code pc = .ok (i, pc2 - pc) := by
  have h1 := List.all_eq_true.mp h _ (List.mem_of_getElem? hn)
  simp only [Bool.and_eq_true, decide_eq_true_eq] at h1
  rw [if_pos hl] at h1
  exact h1.1
def rgN (n : Int) (b : Int) : Bool := decide (-b ≤ n) && decide (n < b)
def ssL (L : List (Option PV)) (st : List PV) (i : Nat) (r : Bool) : Option (List (Option PV) × List PV) := match ldL L i with
  | some (.inl z) => if r then none else some (L, .inl z :: st)
  | some (.inr c) => if r then some (L, .inr c :: st) else none
  | none => none
def ssS (L : List (Option PV)) (st : List PV) (i : Nat) (r : Bool) : Option (List (Option PV) × List PV) := match st with
  | .inl z :: t => if r then none else if Nat.blt i L.length then some (L.set i (some (.inl z)), t) else none
  | .inr (some c) :: t => if r then (if Nat.blt i L.length then some (L.set i (some (.inr (some c))), t) else none) else none
  | _ => none
def ss2 (L : List (Option PV)) (st : List PV) (f : Int → Int → Int) : Option (List (Option PV) × List PV) := match st with
  | .inl y :: .inl x :: t => some (L, .inl (f x y) :: t)
  | _ => none
def ss1 (L : List (Option PV)) (st : List PV) (f : Int → Int) : Option (List (Option PV) × List PV) := match st with
  | .inl x :: t => some (L, .inl (f x) :: t)
  | _ => none
/-- a simple instruction; ct: the whole numbers in the class's own table -/
def sstep (ct : Nat → Option Int) (i : Instr) (L : List (Option PV)) (st : List PV) : Option (List (Option PV) × List PV) := match i with
  | .iconst n => if rgN n 10 then some (L, .inl n :: st) else none
  | .bipush n => if rgN n 128 then some (L, .inl n :: st) else none
  | .sipush n => if rgN n 32768 then some (L, .inl n :: st) else none
  | .ldc j => match ct j with
    | some n => some (L, .inl n :: st)
    | none => none
  | .ldc_w j => match ct j with
    | some n => some (L, .inl n :: st)
    | none => none
  | .iload_n k => ssL L st k false
  | .iload k => ssL L st k false
  | .aload_n k => ssL L st k true
  | .aload k => ssL L st k true
  | .istore_n k => ssS L st k false
  | .istore k => ssS L st k false
  | .astore_n k => ssS L st k true
  | .astore k => ssS L st k true
  | .iinc k n => match ldL L k with
    | some (.inl z) => if Nat.blt k L.length then some (L.set k (some (.inl (bw (z + n)))), st) else none
    | _ => none
  | .iadd => ss2 L st (fun x y => bw (x + y))
  | .isub => ss2 L st (fun x y => bw (x - y))
  | .imul => ss2 L st (fun x y => bw (x * y))
  | .iand => ss2 L st band
  | .ior => ss2 L st bor
  | .ixor => ss2 L st bxor
  | .ishl => ss2 L st bshl
  | .ishr => ss2 L st bshr
  | .iushr => ss2 L st bushr
  | .ineg => ss1 L st (fun x => bw (-x))
  | .i2b => ss1 L st i2b
  | .i2c => ss1 L st i2c
  | .dup => match st with
    | v :: t => some (L, v :: v :: t)
    | _ => none
  | .dup2 => match st with
    | v :: w :: t => some (L, v :: w :: v :: w :: t)
    | _ => none
  | .pop => match st with
    | _ :: t => some (L, t)
    | _ => none
  | .aconst_null => some (L, .inr none :: st)
  | _ => none
/-- cells below 1000 are ours; from 1000 on texts, from 2000 on their bytes, 11999 one thing of the JDK's -/
def ea (X : Cx) (ads : List Nat) (c : Nat) : Nat := if c < 1000 then ads.getD c 0 else if c < 2000 then X.2.2.2.2.1 (c - 1000) else X.2.2.2.2.2 (c - 2000)
def em (X : Cx) (ads : List Nat) : PV → Value
  | .inl z => .int (Int32.ofInt z)
  | .inr none => .null
  | .inr (some c) => .ref (ea X ads c)
def emL (X : Cx) (ads : List Nat) (L : List (Option PV)) : List (Option Value) := L.map (fun v => v.map (em X ads))
def emS (X : Cx) (ads : List Nat) (st : List PV) : List Value := st.map (em X ads)
def nrV : PV → Prop
  | .inl z => bw z = z
  | .inr _ => True
def nrL (L : List (Option PV)) : Prop := ∀ (i : Nat) (v : PV), L[i]? = some (some v) → nrV v
def nrS (st : List PV) : Prop := ∀ v ∈ st, nrV v
theorem em_cat (X : Cx) (ads : List Nat) (v : PV) : (em X ads v).category = 1 := by
  match v with
  | .inl z => rfl
  | .inr none => rfl
  | .inr (some c) => rfl
theorem ldL_get {L : List (Option PV)} {i : Nat} {v : PV} (h : ldL L i = some v) : L[i]? = some (some v) := by
  unfold ldL at h
  split at h
  · next w hw => cases h; exact hw
  · cases h
theorem emL_get {X : Cx} {ads : List Nat} {L : List (Option PV)} {i : Nat} {v : PV} (h : ldL L i = some v) : (emL X ads L)[i]? = some (some (em X ads v)) := by
  rw [emL, List.getElem?_map, ldL_get h]; rfl
theorem okS_em (X : Cx) (ads : List Nat) (L : List (Option PV)) (i : Nat) : okS (emL X ads L) i = true := by
  cases i with
  | zero => rfl
  | succ i =>
    unfold okS
    simp only [List.getD_eq_getElem?_getD, emL, List.getElem?_map]
    cases L[i]? with
    | none => rfl
    | some w =>
      cases w with
      | none => rfl
      | some v => simp [em_cat]
theorem emL_set (X : Cx) (ads : List Nat) (L : List (Option PV)) (i : Nat) (v : PV) : (emL X ads L).set i (some (em X ads v)) = emL X ads (L.set i (some v)) := by
  simp [emL, List.map_set]
theorem nrL_set {L : List (Option PV)} {i : Nat} {v : PV} (h : nrL L) (hv : nrV v) : nrL (L.set i (some v)) := by
  intro j w hw
  rw [List.getElem?_set] at hw
  split at hw
  · split at hw
    · cases hw; exact hv
    · cases hw
  · exact h j w hw
theorem nrS_cons {st : List PV} {v : PV} (hv : nrV v) (h : nrS st) : nrS (v :: st) := List.forall_mem_cons.mpr ⟨hv, h⟩
theorem nrS_tail {st : List PV} {v : PV} (h : nrS (v :: st)) : nrS st := (List.forall_mem_cons.mp h).2
theorem nrS_head {st : List PV} {v : PV} (h : nrS (v :: st)) : nrV v := (List.forall_mem_cons.mp h).1
theorem rgN_of {n b : Int} (h : rgN n b = true) : -b ≤ n ∧ n < b := by
  simpa [rgN, Bool.and_eq_true, decide_eq_true_eq] using h
