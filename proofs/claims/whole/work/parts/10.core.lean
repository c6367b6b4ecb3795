/-! THE CORE: one judgement WP over the kit's W. X: launch, layout, array classes, where our cells begin, the text constants' cells. -/
abbrev Cx : Type := Launch × va_G × (ClassId × ClassId × ClassId) × Nat × (Nat → Nat) × (Nat → Nat)
abbrev tyL (X : Cx) : List (ClassId × FieldType) := [(X.2.2.1.1, .int), (X.2.2.1.2.1, .byte), (X.2.2.1.2.2, .boolean)]
abbrev AA (X : Cx) : Nat → Prop := fun q => X.2.2.2.1 ≤ q
def rmD (d k n : Nat) : Room := { frames := d, cells := k, slots := n, locals := 64 * d }
/-- the nest mates' links -/
def nestL : List (String × Nat × MethodName × String) := [("SnowRises$World", 20, ⟨"SnowRises$Folk", "<init>", "()V"⟩, "SnowRises"),
  ("SnowRises$World", 27, ⟨"SnowRises$Law", "<init>", "()V"⟩, "SnowRises"),
  ("SnowRises", 26, ⟨"SnowRises$Past", "<init>", "()V"⟩, "SnowRises"),
  ("SnowRises", 33, ⟨"SnowRises$Tape", "<init>", "()V"⟩, "SnowRises"),
  ("SnowRises", 49, ⟨"SnowRises$Couples", "<init>", "()V"⟩, "SnowRises"),
  ("SnowRises", 56, ⟨"SnowRises$Ways", "<init>", "()V"⟩, "SnowRises"),
  ("SnowRises", 63, ⟨"SnowRises$Rounds", "<init>", "()V"⟩, "SnowRises"),
  ("SnowRises", 75, ⟨"SnowRises$World", "begin", "(II)V"⟩, "SnowRises"),
  ("SnowRises$World", 137, ⟨"SnowRises", "held", "(II)I"⟩, "SnowRises"),
  ("SnowRises$World", 160, ⟨"SnowRises", "steps", "(II)I"⟩, "SnowRises"),
  ("SnowRises$Couples", 100, ⟨"SnowRises", "steps", "(II)I"⟩, "SnowRises"),
  ("SnowRises$Couples", 117, ⟨"SnowRises", "held", "(II)I"⟩, "SnowRises"),
  ("SnowRises$Rounds", 59, ⟨"SnowRises", "steps", "(II)I"⟩, "SnowRises"),
  ("SnowRises", 321, ⟨"SnowRises$Folk", "hopeAmong", "(LSnowRises$Folk;II)I"⟩, "SnowRises")]
def fmC : String := "jdk/internal/util/Preconditions"
def fmN : String := "SIOOBE_FORMATTER"
def fmD : String := "Ljava/util/function/BiFunction;"
def SD (X : Cx) (U : State) (H : Heap) : Prop :=
  (∀ i : Nat, i < nS → vk_R (sOwn.getD i "") (sIdx.getD i 0) (sTx.getD i "") (X.2.2.2.2.1 i) U) ∧ vk_S nS lenS bytS X.2.2.2.2.1 X.2.2.2.2.2 (AA X) U H ∧ va_Z "java/lang/String" "COMPACT_STRINGS" "Z" (.int 1) (AA X) U H ∧ (∀ q ∈ nestL, va_Nw (.methodLinkNest q.1 q.2.1 q.2.2.1 q.2.2.2) U) ∧ (va_Z fmC fmN fmD .null (AA X) U H ∨ va_Z fmC fmN fmD (.ref (X.2.2.2.2.2 9999)) (AA X) U H)
theorem SD.go {X : Cx} {s t : State} (h : SD X s s.heap) (hW : s.WarmedH t.vm) (hF : va_F (AA X) s t) : SD X t t.heap :=
  ⟨fun i hi => (h.1 i hi).warm hW, (vk_S.moved hW.alike h.2.1).kept hF.2, (va_Z.moved hW.alike h.2.2.1).kept hF.2, fun q hq => va_Nw.warmM hW (h.2.2.2.1 q hq), h.2.2.2.2.imp (fun k => (va_Z.moved hW.alike k).kept hF.2) (fun k => (va_Z.moved hW.alike k).kept hF.2)⟩
def WD (X : Cx) (ws : va_W) (U : State) : Prop := va_P X.2.1 vwCl ws U.heap ∧ va_K X.2.1 vwCl (tyL X) U ∧ va_D (AA X) ws ∧ SD X U U.heap ∧ X.2.2.2.1 ≤ U.heap.size
def QC (X : Cx) (Q : Option Value → va_W → Prop) : Array Value → State → Outcome → State → Prop := fun _ s o t => (∃ (r : Option Value) (ws : va_W), o = .returned r ∧ Q r ws ∧ WD X ws t) ∧ va_F (AA X) s t
def FX (X : Cx) (M : MM) (p : Program) (s : State) (m : MethodId) (args : Array Value) (meth : Method) (c : Code) : Prop :=
  p.tables.exec = Jvm.exec ∧ c.code = M.2.1 ∧ c.maxLocals = M.2.2.1 ∧ meth.sig.returnType = M.2.2.2.1 ∧ s.vm.findClass M.1.cls = some m.cls ∧ (∀ w ∈ TW, w.before args s = true) ∧ meth.locks = false ∧ (M.1.name = "<init>" → meth.name = "<init>") ∧ va_K X.2.1 vwCl (tyL X) s ∧ SD X s s.heap ∧ X.2.2.2.1 ≤ s.heap.size
def lvx : Nat → List (Option Value) → List (Nat × Value)
  | _, [] => []
  | i, none :: t => lvx (i + 1) t
  | i, some v :: t => (i, v) :: lvx (i + 1) t
theorem lvx_mem : ∀ (L : List (Option Value)) (i : Nat) (q : Nat × Value), q ∈ lvx i L ↔ i ≤ q.1 ∧ L[q.1 - i]? = some (some q.2)
  | [], i, q => by simp [lvx]
  | none :: t, i, q => by
    rw [lvx, lvx_mem t (i + 1) q]
    constructor
    · rintro ⟨h1, h2⟩
      refine ⟨by omega, ?_⟩
      rw [show q.1 - i = (q.1 - (i + 1)) + 1 by omega, List.getElem?_cons_succ]; exact h2
    · rintro ⟨h1, h2⟩
      rcases Nat.lt_or_ge i q.1 with h | h
      · refine ⟨h, ?_⟩
        rw [show q.1 - i = (q.1 - (i + 1)) + 1 by omega, List.getElem?_cons_succ] at h2; exact h2
      · rw [show q.1 - i = 0 by omega] at h2; simp at h2
  | some v :: t, i, q => by
    rw [lvx, List.mem_cons, lvx_mem t (i + 1) q]
    constructor
    · rintro (h | ⟨h1, h2⟩)
      · subst h; simp
      · refine ⟨by omega, ?_⟩
        rw [show q.1 - i = (q.1 - (i + 1)) + 1 by omega, List.getElem?_cons_succ]; exact h2
    · rintro ⟨h1, h2⟩
      rcases Nat.lt_or_ge i q.1 with h | h
      · right
        refine ⟨h, ?_⟩
        rw [show q.1 - i = (q.1 - (i + 1)) + 1 by omega, List.getElem?_cons_succ] at h2; exact h2
      · left
        rw [show q.1 - i = 0 by omega] at h2
        simp at h2
        have : q.1 = i := by omega
        cases q; simp_all
def lvL (ls : Array Slot) (n : Nat) (L : List (Option Value)) : Prop := lv_has ls n (lvx 0 L)
theorem lvL.at {ls : Array Slot} {n i : Nat} {L : List (Option Value)} {v : Value} (h : lvL ls n L) (hi : L[i]? = some (some v)) : ls[i]? = some (.val v) :=
  h.2.2 (i, v) ((lvx_mem L 0 (i, v)).mpr ⟨Nat.zero_le _, hi⟩)
def okS (L : List (Option Value)) (i : Nat) : Bool := match i with
  | 0 => true
  | i + 1 => match L.getD i none with
    | some v => v.category == 1
    | none => true
theorem lvL.st {ls : Array Slot} {n i : Nat} {L : List (Option Value)} {v : Value} (h : lv_has ls n ((i, v) :: (lvx 0 L).filter (fun q => !(q.1 == i) && !(q.1 + 1 == i && q.2.category == 2)))) (ho : okS L i = true) : lvL ls n (L.set i (some v)) := by
  refine ⟨h.1, h.2.1, fun q hq => ?_⟩
  obtain ⟨-, hq2⟩ := (lvx_mem _ 0 q).mp hq
  rw [Nat.sub_zero] at hq2
  rcases Nat.decEq q.1 i with hne | he
  · rw [List.getElem?_set_ne (fun e => hne e.symm)] at hq2
    refine h.2.2 q (List.mem_cons_of_mem _ (List.mem_filter.mpr ⟨(lvx_mem L 0 q).mpr ⟨Nat.zero_le _, hq2⟩, ?_⟩))
    have h1 : (q.1 + 1 == i && q.2.category == 2) = false := by
      rcases Nat.decEq (q.1 + 1) i with hn | hn
      · simp [hn]
      · subst hn
        simp only [okS, List.getD_eq_getElem?_getD, hq2, Option.getD_some, beq_iff_eq] at ho
        simp [ho]
    simp [hne, h1]
  · subst he
    have h2 : q.1 < L.length := by
      rcases Nat.lt_or_ge q.1 L.length with h3 | h3
      · exact h3
      · rw [List.getElem?_eq_none (by simpa using h3)] at hq2; cases hq2
    rw [List.getElem?_set_self h2] at hq2
    have h3 : q = (q.1, v) := by
      have := Option.some.inj (Option.some.inj hq2)
      cases q; simp_all
    rw [h3]
    exact h.2.2 _ List.mem_cons_self
abbrev ZT : Type := List Frame → Array Value → State → State → Prop
abbrev EXT : Type := Array Value → State → Prop
def WZ (X : Cx) (M : MM) (R : Room) (kc nc : Nat) (EX : EXT) (Z : ZT) (pc : Nat) (L : List (Option Value)) (st : List Value) (ws : va_W) : Prop :=
  ∀ (p : Program) (e : Env) (s : State) (m : MethodId) (args : Array Value) (below : List Frame) (meth : Method) (c : Code) (H : Heap) (locs : List Loc) (ls : Array Slot),
    FX X M p s m args meth c → EX args s → va_P X.2.1 vwCl ws H → va_D (AA X) ws → va_S (AA X) s.heap H locs → lvL ls M.2.2.1 L →
    W p X.1 e R s m args below meth c H locs kc nc (Z below args s) (F0 m pc ls st)
def ZM (X : Cx) (Q : Option Value → va_W → Prop) (mc ms : Nat) : ZT := fun below args s => MQ below (QC X Q) args s mc ms (AA X)
abbrev E0 : EXT := fun _ _ => True
def CI (X : Cx) (M : MM) (As : List Value) (ws : va_W) (mc ms : Nat) (Q : Option Value → va_W → Prop) : Prop :=
  Met X.1 M.1 (Cond.code M.1 M.2.1 M.2.2.1 M.2.2.2.1 :: TW) (rmD M.2.2.2.2 mc ms) (va_Pc As (WD X ws)) (QC X Q) mc ms (AA X)
theorem WD.blind {X : Cx} {ws : va_W} {As : List Value} : FrameBlind (va_Pc As (WD X ws)) := by
  intro a U g mk h
  obtain ⟨h1, hP, hK, hD, hS, hb⟩ := h
  exact ⟨h1, hP, va_K.moved (u := U) (U := U.calling g mk a) (Vm.Alike.refl U.vm) hK, hD, ⟨fun i hi => vk_R.same (u := U) rfl (hS.1 i hi), vk_S.moved (u := U) (U := U.calling g mk a) (Vm.Alike.refl U.vm) hS.2.1, va_Z.moved (u := U) (U := U.calling g mk a) (Vm.Alike.refl U.vm) hS.2.2.1, fun q hq => va_Nw.same rfl (u := U) rfl (hS.2.2.2.1 q hq), hS.2.2.2.2.imp (fun k => va_Z.moved (u := U) (U := U.calling g mk a) (Vm.Alike.refl U.vm) k) (fun k => va_Z.moved (u := U) (U := U.calling g mk a) (Vm.Alike.refl U.vm) k)⟩, hb⟩
theorem WD.here {X : Cx} {ws : va_W} {s U : State} {H : Heap} {locs : List Loc} (hK : va_K X.2.1 vwCl (tyL X) s) (hS0 : SD X s s.heap) (hb : X.2.2.2.1 ≤ s.heap.size) (hP : va_P X.2.1 vwCl ws H) (hD : va_D (AA X) ws) (hS : va_S (AA X) s.heap H locs) (hU : U.heap = H) (hW : s.WarmedH U.vm) : WD X ws U :=
  ⟨by rw [hU]; exact hP, va_K.moved hW.alike hK, hD, hS0.go hW (hS.F hU), by rw [hU]; exact Nat.le_trans hb hS.1⟩
def argL (As : List Value) (n : Nat) : List (Option Value) := As.map some ++ List.replicate (n - As.length) none
theorem lvx_none : ∀ (k n : Nat), lvx k (List.replicate n none) = []
  | _, 0 => rfl
  | k, n + 1 => by rw [List.replicate_succ, lvx]; exact lvx_none (k + 1) n
theorem lvx_args : ∀ (As : List Value) (k n : Nat), (∀ v ∈ As, v.category = 1) → lvx k (As.map some ++ List.replicate n none) = lv_args k As
  | [], k, n, _ => by rw [List.map_nil, List.nil_append, lvx_none]; rfl
  | v :: t, k, n, h => by
    have h1 : ¬ v.category = 2 := by rw [h v List.mem_cons_self]; decide
    rw [List.map_cons, List.cons_append, lvx, lv_args, if_neg h1, lvx_args t (k + 1) n (fun w hw => h w (List.mem_cons_of_mem _ hw))]
theorem lg_sl_len : ∀ (As : List Value), (∀ v ∈ As, v.category = 1) → (lg_sl As).length = As.length
  | [], _ => rfl
  | v :: t, h => by
    have h1 : ¬ v.category = 2 := by rw [h v List.mem_cons_self]; decide
    have h2 := lg_sl_len t (fun w hw => h w (List.mem_cons_of_mem _ hw))
    rw [lg_sl] at h2 ⊢
    rw [List.flatMap_cons, List.length_append, if_neg h1, h2, List.length_cons]
    simp; omega
/-- as Met.ofW, for any method that no native row stands for -/
theorem Met.ofWF {l : Launch} {y : MethodName} {ws ws' : List Cond} {rm : Room} {Pc : Array Value → State → Prop} {Qc : Array Value → State → Outcome → State → Prop} {mc ms : Nat} {free : Addr → Prop} {cc : ByteArray} {maxL : Nat} {ret : Option FieldType}
    (hy : plainFor y = true) (hw : ws = Cond.code y cc maxL ret :: ws')
    (body : ∀ p e s m args below meth c s₁, BodyLoose p l y (headSpec ws rm) cc maxL ret e s m args below meth c s₁ → c.maxLocals = maxL → Pc args s →
      W p l e (headSpec ws rm).room s m args below meth c s.heap [] 0 0 (MQ below Qc args s mc ms free) (entryFrame m args maxL)) : Met l y ws rm Pc Qc mc ms free := by
  refine MetFree.of_bodySF (code := cc) (maxLocals := maxL) (ret := ret) hy ?_ ?_
  · intro args s m h hn
    obtain ⟨meth, c, h1, h2, h3, h4, h5, h6, -, -⟩ := Cond.code_spec hn (atoms_spec (ws := ws) h _ (by rw [hw]; exact List.mem_cons_self))
    exact ⟨meth, c, h1, h2, h3, h4, h5, h6⟩
  · intro p e s m args below meth c s₁ B hml hP _
    have hh0 : s₁.heap = s.heap := by rw [B.state]; rfl
    obtain ⟨t, a1, o, b1, b2, b3⟩ := body p e s m args below meth c s₁ B hml hP s₁ hh0 (Stand.of_body B)
    exact ⟨t, o, a1, b1, b2, ⟨b3.1, b3.2⟩⟩
/-- a contract out of the walk of its body -/
theorem CI.of {X : Cx} {M : MM} {As : List Value} {ws : va_W} {mc ms : Nat} {Q : Option Value → va_W → Prop} (hy : plainFor M.1 = true) (hc : As.all (fun v => v.category == 1) = true) (hn : As.length ≤ M.2.2.1)
    (k : WZ X M (rmD M.2.2.2.2 mc ms) 0 0 E0 (ZM X Q mc ms) 0 (argL As M.2.2.1) [] ws) : CI X M As ws mc ms Q := by
  have hc' : ∀ v ∈ As, v.category = 1 := fun v hv => by simpa using List.all_eq_true.mp hc v hv
  refine Met.ofWF (cc := M.2.1) (maxL := M.2.2.1) (ret := M.2.2.2.1) hy rfl ?_
  intro p e s m args below meth c s₁ B hml hv
  obtain ⟨rfl, hP, hK, hD, hS0, hb⟩ := hv
  have hts : ∀ w ∈ (Cond.code M.1 M.2.1 M.2.2.1 M.2.2.2.1 :: TW), w.before As.toArray s = true := atoms_spec (ws := Cond.code M.1 M.2.1 M.2.2.1 M.2.2.2.1 :: TW) B.pre
  have hl := lv_entry As (n := M.2.2.1) (by rw [lg_sl_len As hc']; exact hn)
  rw [lg_entry_eq]
  refine k p e s m As.toArray below meth c s.heap [] _ ⟨B.exec, B.bytes, hml, B.returns, findClass_of_methodNamed B.named, fun w hw => hts w (List.mem_cons_of_mem _ hw), B.notSynchronized, fun h => (name_of_methodNamed B.named B.method).1.trans h, hK, hS0, hb⟩ trivial hP hD va_S.rf ?_
  rw [lvL, argL, lvx_args As 0 _ hc']
  exact hl
