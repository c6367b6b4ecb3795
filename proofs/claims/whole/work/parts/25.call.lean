/-! calls and returns -/
section CW
variable {X : Cx} {M : MM} {R : Room} {kc nc : Nat} {EX : EXT} {Z : ZT} {pc : Nat} {L : List (Option Value)} {ws : va_W}
theorem WZ.run {rest st0 : List Value} {mc ms : Nat} {Q : Option Value → va_W → Prop} {a0 : Array Value}
    (hrun : ∀ (p : Program) (e : Env) (s : State) (m : MethodId) (args : Array Value) (below : List Frame) (meth : Method) (c : Code) (H : Heap) (locs : List Loc) (ls : Array Slot), FX X M p s m args meth c → EX args s → va_P X.2.1 vwCl ws H → va_D (AA X) ws → va_S (AA X) s.heap H locs → lvL ls M.2.2.1 L → va_Run p X.1 e R s m args below meth c H locs kc nc mc ms (F0 m pc ls st0) rest (QC X Q a0) (AA X))
    (k : ∀ (r : Option Value) (ws2 : va_W), Q r ws2 → WZ X M R (kc + mc) (nc + ms) EX Z (pc + 3) L (r.toList ++ rest) ws2) : WZ X M R kc nc EX Z pc L st0 ws := by
  intro p e s m args below meth c H locs ls FF hE hP hD hS hl T hT XX
  obtain ⟨v, st₀, t, T', Lc, h0, X', hL, e1, e2, ⟨⟨r, ws2, hv, hq, hw⟩, hz, hk⟩, st⟩ := hrun p e s m args below meth c H locs ls FF hE hP hD hS hl T hT XX
  cases hv
  rw [h0] at hz hk
  obtain ⟨w1, w2, w3, w4, w5⟩ := hw
  have hS2 : va_S (AA X) s.heap T'.heap (locs ++ Lc) := ⟨Nat.le_trans hS.1 (by rw [e1]; exact hz), fun q h1 h2 => by rw [e1, hk q (Nat.lt_of_lt_of_le h1 hS.1) h2]; exact hS.2.1 q h1 h2, fun q hq => by
    rcases List.mem_append.mp hq with h | h
    · exact hS.2.2 q h
    · exact hL q h⟩
  obtain ⟨t2, a1, b1⟩ := k v ws2 hq p e s m args below meth c T'.heap (locs ++ Lc) ls FF hE (by rw [e1]; exact w1) w3 hS2 hl T' rfl X'
  exact ⟨t2, st t2 a1, b1⟩
/-- what the tables say of a method that is called -/
def MW0 (N : MM) (ar : Nat) : Prop := Cond.initialized N.1.cls ∈ TW ∧ Cond.code N.1 N.2.1 N.2.2.1 N.2.2.2.1 ∈ TW ∧ (N.1.cls ≠ "java/lang/invoke/MethodHandle" ∧ N.1.cls ≠ "java/lang/invoke/VarHandle" ∧ (parseMethodDescriptor N.1.desc).map (fun d => d.parameters.length) = some ar)
def MWV (N : MM) (ar : Nat) : Prop := MW0 N ar ∧ Cond.instanceMethod N.1 ∈ TW ∧ Cond.selects N.1.cls N.1 N.1 ∈ TW
def MWS (N : MM) (ar : Nat) : Prop := MW0 N ar ∧ Cond.static N.1 ∈ TW
def MWI (N : MM) (ar : Nat) : Prop := MW0 N ar ∧ Cond.instanceMethod N.1 ∈ TW ∧ N.1.name = "<init>" ∧ N.2.2.2.1 = none
def RoomOK (R : Room) (N : MM) (kc nc mc ms : Nat) : Prop := (N.2.2.2.2 + 1 ≤ R.frames ∧ 8 + (N.2.2.1 + 11) + 64 * N.2.2.2.2 ≤ R.locals) ∧ kc + mc ≤ R.cells ∧ nc + ms ≤ R.slots
theorem w_callV {N : MM} {ar idx mc ms q0 ci : Nat} {As rest : List Value} {a : Nat} {fs : List Value} {q : vw_C} {Q : Option Value → va_W → Prop} (hd : decode M.2.1 pc = .ok (.invokevirtual idx, 3)) (hm : Cond.methodLink M.1.cls idx N.1 ∈ TW) (hw : MWV N ar) (hn : As.length = ar) (hC : CI X N (.ref a :: As) ws mc ms Q) (hq : ws[q0]? = some (a, .inr (ci, fs))) (hcl : vwCl[ci]? = some q) (hcn : q.1 = N.1.cls) (hR : RoomOK R N kc nc mc ms) (hs : (rest.map fun v => v.category).sum ≤ 8)
    (k : ∀ (r : Option Value) (ws2 : va_W), Q r ws2 → WZ X M R (kc + mc) (nc + ms) EX Z (pc + 3) L (r.toList ++ rest) ws2) : WZ X M R kc nc EX Z pc L (As.reverse ++ .ref a :: rest) ws := by
  refine WZ.run (a0 := (Value.ref a :: As).toArray) (fun p e s m args below meth c H locs ls FF hE hP hD hS hl => ?_) k
  have hts := FF.2.2.2.2.2.1
  have hsz : ls.size = M.2.2.1 := hl.1
  refine va_runV (bytes := N.2.1) (maxL := N.2.2.1) (ret := N.2.2.2.1) (Ts := TW) (own := M.1.cls) (C := N.1.cls) (As := As) (b := a) (rest := rest) ⟨FF.1, FF.2.1, FF.2.2.1, FF.2.2.2.2.1, hts⟩ hC ?_ ⟨WD.blind, ?_, fun U hU hW => ⟨rfl, WD.here FF.2.2.2.2.2.2.2.2.1 FF.2.2.2.2.2.2.2.2.2.1 FF.2.2.2.2.2.2.2.2.2.2 hP hD hS hU hW⟩⟩ rfl hn hsz rfl (lv_room hs) hd hR.2
  · exact ⟨callB_of ar hts (tw_good (fun _ h => h) hw.1.2.1) rfl rfl rfl (hts _ hw.1.1) (hts _ hm) hw.1.2.2 hR.1, hts _ hw.2.1, hts _ hw.2.2⟩
  · have := va_recv FF.2.2.2.2.2.2.2.2.1 hP hcl hq
    rw [hcn] at this
    exact this
/-- a virtual call to a text constant -/
theorem w_callVS {N : MM} {ar idx mc ms i : Nat} {As rest : List Value} {Q : Option Value → va_W → Prop} (hi : i < nS) (hd : decode M.2.1 pc = .ok (.invokevirtual idx, 3)) (hm : Cond.methodLink M.1.cls idx N.1 ∈ TW) (hw : MWV N ar) (hn : As.length = ar) (hcn : N.1.cls = "java/lang/String") (hC : CI X N (.ref (X.2.2.2.2.1 i) :: As) ws mc ms Q) (hR : RoomOK R N kc nc mc ms) (hs : (rest.map fun v => v.category).sum ≤ 8)
    (k : ∀ (r : Option Value) (ws2 : va_W), Q r ws2 → WZ X M R (kc + mc) (nc + ms) EX Z (pc + 3) L (r.toList ++ rest) ws2) : WZ X M R kc nc EX Z pc L (As.reverse ++ .ref (X.2.2.2.2.1 i) :: rest) ws := by
  refine WZ.run (a0 := (Value.ref (X.2.2.2.2.1 i) :: As).toArray) (fun p e s m args below meth c H locs ls FF hE hP hD hS hl => ?_) k
  have hts := FF.2.2.2.2.2.1
  have hsz : ls.size = M.2.2.1 := hl.1
  refine va_runV (bytes := N.2.1) (maxL := N.2.2.1) (ret := N.2.2.2.1) (Ts := TW) (own := M.1.cls) (C := N.1.cls) (As := As) (b := X.2.2.2.2.1 i) (rest := rest) ⟨FF.1, FF.2.1, FF.2.2.1, FF.2.2.2.2.1, hts⟩ hC ?_ ⟨WD.blind, ?_, fun U hU hW => ⟨rfl, WD.here FF.2.2.2.2.2.2.2.2.1 FF.2.2.2.2.2.2.2.2.2.1 FF.2.2.2.2.2.2.2.2.2.2 hP hD hS hU hW⟩⟩ rfl hn hsz rfl (lv_room hs) hd hR.2
  · exact ⟨callB_of ar hts (tw_good (fun _ h => h) hw.1.2.1) rfl rfl rfl (hts _ hw.1.1) (hts _ hm) hw.1.2.2 hR.1, hts _ hw.2.1, hts _ hw.2.2⟩
  · rw [hcn]
    exact vk_recv FF.2.2.2.2.2.2.2.2.2.1.2.1 hi hS
theorem w_callVN {N : MM} {ar idx mc ms q0 ci : Nat} {As rest : List Value} {a : Nat} {fs : List Value} {q : vw_C} {host : String} {Q : Option Value → va_W → Prop} (hd : decode M.2.1 pc = .ok (.invokevirtual idx, 3)) (hm : (M.1.cls, idx, N.1, host) ∈ nestL) (hw : MWV N ar) (hn : As.length = ar) (hC : CI X N (.ref a :: As) ws mc ms Q) (hq : ws[q0]? = some (a, .inr (ci, fs))) (hcl : vwCl[ci]? = some q) (hcn : q.1 = N.1.cls) (hR : RoomOK R N kc nc mc ms) (hs : (rest.map fun v => v.category).sum ≤ 8)
    (k : ∀ (r : Option Value) (ws2 : va_W), Q r ws2 → WZ X M R (kc + mc) (nc + ms) EX Z (pc + 3) L (r.toList ++ rest) ws2) : WZ X M R kc nc EX Z pc L (As.reverse ++ .ref a :: rest) ws := by
  refine WZ.run (a0 := (Value.ref a :: As).toArray) (fun p e s m args below meth c H locs ls FF hE hP hD hS hl => ?_) k
  have hts := FF.2.2.2.2.2.1
  have hsz : ls.size = M.2.2.1 := hl.1
  refine va_runVN (bytes := N.2.1) (maxL := N.2.2.1) (ret := N.2.2.2.1) (Ts := TW) (own := M.1.cls) (C := N.1.cls) (As := As) (b := a) (rest := rest) (host := host) ⟨FF.1, FF.2.1, FF.2.2.1, FF.2.2.2.2.1, hts⟩ hC ?_ ⟨WD.blind, ?_, fun U hU hW => ⟨rfl, WD.here FF.2.2.2.2.2.2.2.2.1 FF.2.2.2.2.2.2.2.2.2.1 FF.2.2.2.2.2.2.2.2.2.2 hP hD hS hU hW⟩⟩ rfl hn hsz rfl (lv_room hs) hd hR.2
  · exact ⟨va_cnB ar hts (tw_good (fun _ h => h) hw.1.2.1) rfl rfl rfl (FF.2.2.2.2.2.2.2.2.2.1.2.2.2.1 _ hm) (hts _ hw.1.1) hw.1.2.2 hR.1, hts _ hw.2.1, hts _ hw.2.2⟩
  · have := va_recv FF.2.2.2.2.2.2.2.2.1 hP hcl hq
    rw [hcn] at this
    exact this
theorem w_callS {N : MM} {ar idx mc ms : Nat} {As rest : List Value} {Q : Option Value → va_W → Prop} (hd : decode M.2.1 pc = .ok (.invokestatic idx, 3)) (hm : Cond.methodLink M.1.cls idx N.1 ∈ TW) (hw : MWS N ar) (hn : As.length = ar) (hC : CI X N As ws mc ms Q) (hR : RoomOK R N kc nc mc ms) (hs : (rest.map fun v => v.category).sum ≤ 8)
    (k : ∀ (r : Option Value) (ws2 : va_W), Q r ws2 → WZ X M R (kc + mc) (nc + ms) EX Z (pc + 3) L (r.toList ++ rest) ws2) : WZ X M R kc nc EX Z pc L (As.reverse ++ rest) ws := by
  refine WZ.run (a0 := As.toArray) (fun p e s m args below meth c H locs ls FF hE hP hD hS hl => ?_) k
  have hts := FF.2.2.2.2.2.1
  have hsz : ls.size = M.2.2.1 := hl.1
  refine va_runS (bytes := N.2.1) (maxL := N.2.2.1) (ret := N.2.2.2.1) (Ts := TW) (own := M.1.cls) (As := As) (rest := rest) ⟨FF.1, FF.2.1, FF.2.2.1, FF.2.2.2.2.1, hts⟩ hC ?_ ⟨WD.blind, fun U hU hW => ⟨rfl, WD.here FF.2.2.2.2.2.2.2.2.1 FF.2.2.2.2.2.2.2.2.2.1 FF.2.2.2.2.2.2.2.2.2.2 hP hD hS hU hW⟩⟩ rfl hn hsz rfl (lv_room hs) hd hR.2
  exact ⟨callB_of ar hts (tw_good (fun _ h => h) hw.1.2.1) rfl rfl rfl (hts _ hw.1.1) (hts _ hm) hw.1.2.2 hR.1, hts _ hw.2⟩
theorem w_callSN {N : MM} {ar idx mc ms : Nat} {As rest : List Value} {host : String} {Q : Option Value → va_W → Prop} (hd : decode M.2.1 pc = .ok (.invokestatic idx, 3)) (hm : (M.1.cls, idx, N.1, host) ∈ nestL) (hw : MWS N ar) (hn : As.length = ar) (hC : CI X N As ws mc ms Q) (hR : RoomOK R N kc nc mc ms) (hs : (rest.map fun v => v.category).sum ≤ 8)
    (k : ∀ (r : Option Value) (ws2 : va_W), Q r ws2 → WZ X M R (kc + mc) (nc + ms) EX Z (pc + 3) L (r.toList ++ rest) ws2) : WZ X M R kc nc EX Z pc L (As.reverse ++ rest) ws := by
  refine WZ.run (a0 := As.toArray) (fun p e s m args below meth c H locs ls FF hE hP hD hS hl => ?_) k
  have hts := FF.2.2.2.2.2.1
  have hsz : ls.size = M.2.2.1 := hl.1
  refine va_runSN (bytes := N.2.1) (maxL := N.2.2.1) (ret := N.2.2.2.1) (Ts := TW) (own := M.1.cls) (As := As) (rest := rest) (host := host) ⟨FF.1, FF.2.1, FF.2.2.1, FF.2.2.2.2.1, hts⟩ hC ?_ ⟨WD.blind, fun U hU hW => ⟨rfl, WD.here FF.2.2.2.2.2.2.2.2.1 FF.2.2.2.2.2.2.2.2.2.1 FF.2.2.2.2.2.2.2.2.2.2 hP hD hS hU hW⟩⟩ rfl hn hsz rfl (lv_room hs) hd hR.2
  exact ⟨va_cnB ar hts (tw_good (fun _ h => h) hw.1.2.1) rfl rfl rfl (FF.2.2.2.2.2.2.2.2.2.1.2.2.2.1 _ hm) (hts _ hw.1.1) hw.1.2.2 hR.1, hts _ hw.2, trivial⟩
theorem w_callI {N : MM} {ar idx mc ms : Nat} {As rest : List Value} {a : Nat} {Q : Option Value → va_W → Prop} (hd : decode M.2.1 pc = .ok (.invokespecial idx, 3)) (hm : Cond.methodLink M.1.cls idx N.1 ∈ TW) (hw : MWI N ar) (hn : As.length = ar) (hC : CI X N (.ref a :: As) ws mc ms Q) (hR : RoomOK R N kc nc mc ms) (hs : (rest.map fun v => v.category).sum ≤ 8)
    (k : ∀ (r : Option Value) (ws2 : va_W), Q r ws2 → WZ X M R (kc + mc) (nc + ms) EX Z (pc + 3) L (r.toList ++ rest) ws2) : WZ X M R kc nc EX Z pc L (As.reverse ++ .ref a :: rest) ws := by
  refine WZ.run (a0 := (Value.ref a :: As).toArray) (fun p e s m args below meth c H locs ls FF hE hP hD hS hl => ?_) k
  have hts := FF.2.2.2.2.2.1
  have hsz : ls.size = M.2.2.1 := hl.1
  have hb := callB_of (R := R) (s := s) (args := args) (own := M.1.cls) (index := idx) (y := N.1) (rm := rmD N.2.2.2.2 mc ms) ar hts (tw_good (fun _ h => h) hw.1.2.1) rfl rfl rfl (hts _ hw.1.1) (hts _ hm) hw.1.2.2 hR.1
  rw [hw.2.2.2] at hb
  unfold CI at hC
  rw [hw.2.2.2] at hC
  refine va_runI (bytes := N.2.1) (maxL := N.2.2.1) (Ts := TW) (own := M.1.cls) (As := As) (b := a) (rest := rest) ⟨FF.1, FF.2.1, FF.2.2.1, FF.2.2.2.2.1, hts⟩ hC ⟨hb, hw.2.2.1, hts _ hw.2.1⟩ ⟨WD.blind, fun U hU hW => ⟨rfl, WD.here FF.2.2.2.2.2.2.2.2.1 FF.2.2.2.2.2.2.2.2.2.1 FF.2.2.2.2.2.2.2.2.2.2 hP hD hS hU hW⟩⟩ rfl hn hsz rfl (lv_room hs) hd hR.2
theorem w_callIN {N : MM} {ar idx mc ms : Nat} {As rest : List Value} {a : Nat} {host : String} {Q : Option Value → va_W → Prop} (hd : decode M.2.1 pc = .ok (.invokespecial idx, 3)) (hm : (M.1.cls, idx, N.1, host) ∈ nestL) (hw : MWI N ar) (hn : As.length = ar) (hC : CI X N (.ref a :: As) ws mc ms Q) (hR : RoomOK R N kc nc mc ms) (hs : (rest.map fun v => v.category).sum ≤ 8)
    (k : ∀ (r : Option Value) (ws2 : va_W), Q r ws2 → WZ X M R (kc + mc) (nc + ms) EX Z (pc + 3) L (r.toList ++ rest) ws2) : WZ X M R kc nc EX Z pc L (As.reverse ++ .ref a :: rest) ws := by
  refine WZ.run (a0 := (Value.ref a :: As).toArray) (fun p e s m args below meth c H locs ls FF hE hP hD hS hl => ?_) k
  have hts := FF.2.2.2.2.2.1
  have hsz : ls.size = M.2.2.1 := hl.1
  have hb := va_cnB (R := R) (s := s) (args := args) (own := M.1.cls) (index := idx) (y := N.1) (host := host) (rm := rmD N.2.2.2.2 mc ms) ar hts (tw_good (fun _ h => h) hw.1.2.1) rfl rfl rfl (FF.2.2.2.2.2.2.2.2.2.1.2.2.2.1 _ hm) (hts _ hw.1.1) hw.1.2.2 hR.1
  rw [hw.2.2.2] at hb
  unfold CI at hC
  rw [hw.2.2.2] at hC
  refine va_runIN (bytes := N.2.1) (maxL := N.2.2.1) (Ts := TW) (own := M.1.cls) (As := As) (b := a) (rest := rest) (host := host) ⟨FF.1, FF.2.1, FF.2.2.1, FF.2.2.2.2.1, hts⟩ hC ⟨hb, hw.2.2.1, hts _ hw.2.1⟩ ⟨WD.blind, fun U hU hW => ⟨rfl, WD.here FF.2.2.2.2.2.2.2.2.1 FF.2.2.2.2.2.2.2.2.2.1 FF.2.2.2.2.2.2.2.2.2.2 hP hD hS hU hW⟩⟩ rfl hn hsz rfl (lv_room hs) hd hR.2
end CW
/-- results in the pure picture -/
def nrR (N : MM) (r : Option PV) : Prop := ∀ v, r = some v → nrV v ∧ (N.2.2.2.1 = some .boolean → v = .inl 0 ∨ v = .inl 1)
def QM (X : Cx) (ads : List Nat) (sk : List Sk) (a : Option PV × Sg) : Option Value → va_W → Prop := fun v ws => v = a.1.map (em X ads) ∧ ws = mkW X ads a.2 sk
def FM (X : Cx) (N : MM) (ads : List Nat) (sk : List Sk) (a : Option PV × Sg) : Prop × ZT := (nrR N a.1, ZM X (QM X ads sk a) 0 0)
def CF {α : Type} (X : Cx) (N : MM) (ads : List Nat) (sk : List Sk) (As : List PV) (σ : Sg) (w : α → Option PV × Sg) (res : Option α) : Prop :=
  ∀ a, res = some a → nrS As → nrR N (w a).1 ∧ CI X N (As.map (em X ads)) (mkW X ads σ sk) 0 0 (QM X ads sk (w a))
abbrev wP (σ : Sg) : Int → Option PV × Sg := fun r => (some (.inl r), σ)
abbrev wE : Int × Sg → Option PV × Sg := fun q => (some (.inl q.1), q.2)
abbrev wV : Sg → Option PV × Sg := fun τ => (none, τ)
abbrev wR (σ : Sg) : Nat → Option PV × Sg := fun c => (some (.inr (some c)), σ)
def argP (As : List PV) (n : Nat) : List (Option PV) := As.map some ++ List.replicate (n - As.length) none
theorem argP_em (X : Cx) (ads : List Nat) (As : List PV) (n : Nat) : emL X ads (argP As n) = argL (As.map (em X ads)) n := by
  simp [emL, argP, argL, List.map_append, List.map_map, Function.comp_def]
theorem argP_nr {As : List PV} {n : Nat} (h : nrS As) : nrL (argP As n) := by
  intro i v hv
  have := List.mem_of_getElem? hv
  rw [argP, List.mem_append, List.mem_map, List.mem_replicate] at this
  rcases this with ⟨w, h1, h2⟩ | ⟨_, h2⟩
  · cases h2; exact h _ h1
  · cases h2
theorem CF.of {α : Type} {X : Cx} {M : MM} {P : PG} {tb : TB} {ads : List Nat} {sk : List Sk} {As : List PV} {σ : Sg} {w : α → Option PV × Sg} {res : Option α} (ho : okC M P tb ads sk) (hy : plainFor M.1 = true) (hn : As.length ≤ M.2.2.1)
    (k : J X M P tb (rmD M.2.2.2.2 0 0) 0 0 E0 (fun a => FM X M ads sk (w a)) ads sk (0, argP As M.2.2.1, [], σ) res) : CF X M ads sk As σ w res := by
  intro a ha hA
  have hlen : (argP As M.2.2.1).length = M.2.2.1 := by
    simp [argP]; omega
  obtain ⟨h1, h2⟩ := k ho a ha ⟨hlen, argP_nr hA, fun v hv => absurd hv List.not_mem_nil⟩
  refine ⟨h1, CI.of hy ?_ (by simpa using hn) ?_⟩
  · simp [em_cat]
  · rw [← argP_em]
    exact h2
section JC
variable {α β : Type} {X : Cx} {M : MM} {P : PG} {tb : TB} {R : Room} {kc nc : Nat} {EX : EXT} {F : α → Prop × ZT} {ads : List Nat} {sk : List Sk} {L : List (Option PV)} {st : List PV} {σ : Sg} {res : Option α} {pc pc2 : Nat}
theorem j_iret (n : Nat) {x : Int} {w : β → Option PV × Sg} {a : β} (hn : P[n]? = some (.ireturn, pc, pc2)) (hr : M.2.2.2.1 = some .int) (hw : w a = (some (.inl x), σ)) : J X M P tb R 0 0 EX (fun a => FM X M ads sk (w a)) ads sk (pc, L, [.inl x], σ) (some a) := by
  intro ho a2 ha hq
  cases ha
  obtain ⟨hd, rfl⟩ := okP_get ho.1 hn (by simp [lenI])
  refine ⟨fun v hv => ?_, ?_⟩
  · rw [hw] at hv
    cases hv
    exact ⟨nrS_head hq.2.2, fun h => by rw [hr] at h; cases h⟩
  · intro p e s m args below meth cc H locs ls FF hE hP hD hS hl
    refine W.iret FF.1 FF.2.1 (FF.2.2.2.1.trans hr) (fun t ht hW => ?_) hS.2.2 hd FF.2.2.2.2.2.2.1
    refine ⟨⟨_, _, rfl, ⟨?_, rfl⟩, ?_⟩, hS.F ht⟩
    · rw [hw]; rfl
    · rw [hw]
      exact WD.here FF.2.2.2.2.2.2.2.2.1 FF.2.2.2.2.2.2.2.2.2.1 FF.2.2.2.2.2.2.2.2.2.2 hP hD hS ht hW
theorem j_zret (n : Nat) {x : Int} {w : β → Option PV × Sg} {a : β} (hn : P[n]? = some (.ireturn, pc, pc2)) (hr : M.2.2.2.1 = some .boolean) (hx : x = 0 ∨ x = 1) (hw : w a = (some (.inl x), σ)) : J X M P tb R 0 0 EX (fun a => FM X M ads sk (w a)) ads sk (pc, L, [.inl x], σ) (some a) := by
  intro ho a2 ha hq
  cases ha
  obtain ⟨hd, rfl⟩ := okP_get ho.1 hn (by simp [lenI])
  refine ⟨fun v hv => ?_, ?_⟩
  · rw [hw] at hv
    cases hv
    exact ⟨nrS_head hq.2.2, fun h => by rcases hx with h | h <;> simp [h]⟩
  · intro p e s m args below meth cc H locs ls FF hE hP hD hS hl
    refine W.zret (ty := .boolean) FF.1 FF.2.1 (FF.2.2.2.1.trans hr) (by rcases hx with h | h <;> (rw [h]; rfl)) (fun t ht hW => ?_) hS.2.2 hd FF.2.2.2.2.2.2.1
    refine ⟨⟨_, _, rfl, ⟨?_, rfl⟩, ?_⟩, hS.F ht⟩
    · rw [hw]; rfl
    · rw [hw]
      exact WD.here FF.2.2.2.2.2.2.2.2.1 FF.2.2.2.2.2.2.2.2.2.1 FF.2.2.2.2.2.2.2.2.2.2 hP hD hS ht hW
theorem j_vret (n : Nat) {w : β → Option PV × Sg} {a : β} (hn : P[n]? = some (.return_, pc, pc2)) (hr : M.2.2.2.1 = none) (hw : w a = (none, σ)) : J X M P tb R 0 0 EX (fun a => FM X M ads sk (w a)) ads sk (pc, L, [], σ) (some a) := by
  intro ho a2 ha hq
  cases ha
  obtain ⟨hd, rfl⟩ := okP_get ho.1 hn (by simp [lenI])
  refine ⟨fun v hv => ?_, ?_⟩
  · rw [hw] at hv
    cases hv
  · intro p e s m args below meth cc H locs ls FF hE hP hD hS hl
    refine W.vret FF.1 FF.2.1 (FF.2.2.2.1.trans hr) (fun t ht hW => ?_) hS.2.2 hd FF.2.2.2.2.2.2.1
    refine ⟨⟨_, _, rfl, ⟨?_, rfl⟩, ?_⟩, hS.F ht⟩
    · rw [hw]; rfl
    · rw [hw]
      exact WD.here FF.2.2.2.2.2.2.2.2.1 FF.2.2.2.2.2.2.2.2.2.1 FF.2.2.2.2.2.2.2.2.2.2 hP hD hS ht hW
theorem j_aret (n : Nat) {c : Nat} {ty : String} {w : β → Option PV × Sg} {a : β} (hn : P[n]? = some (.areturn, pc, pc2)) (hr : M.2.2.2.1 = some (.object ty)) (hw : w a = (some (.inr (some c)), σ)) : J X M P tb R 0 0 EX (fun a => FM X M ads sk (w a)) ads sk (pc, L, [.inr (some c)], σ) (some a) := by
  intro ho a2 ha hq
  cases ha
  obtain ⟨hd, rfl⟩ := okP_get ho.1 hn (by simp [lenI])
  refine ⟨fun v hv => ?_, ?_⟩
  · rw [hw] at hv
    cases hv
    exact ⟨trivial, fun h => by rw [hr] at h; cases h⟩
  · intro p e s m args below meth cc H locs ls FF hE hP hD hS hl
    refine W.aret FF.1 FF.2.1 (FF.2.2.2.1.trans hr) (Or.inl ⟨_, rfl⟩) (Or.inr ⟨_, rfl⟩) (fun t ht hW => ?_) hS.2.2 hd FF.2.2.2.2.2.2.1
    refine ⟨⟨_, _, rfl, ⟨?_, rfl⟩, ?_⟩, hS.F ht⟩
    · rw [hw]; rfl
    · rw [hw]
      exact WD.here FF.2.2.2.2.2.2.2.2.1 FF.2.2.2.2.2.2.2.2.2.1 FF.2.2.2.2.2.2.2.2.2.2 hP hD hS ht hW
theorem em_sum {st : List PV} (h : st.length ≤ 8) : ((emS X ads st).map fun v => v.category).sum ≤ 8 := by
  have : ∀ st : List PV, ((emS X ads st).map fun v => v.category).sum = st.length := by
    intro st
    induction st with
    | nil => rfl
    | cons v t ih => 
      show ((em X ads v).category :: (emS X ads t).map fun v => v.category).sum = _
      rw [List.sum_cons, ih, em_cat, List.length_cons]; omega
  rw [this]; exact h
theorem nrS_rev {As st : List PV} (h : nrS (As.reverse ++ st)) : nrS As ∧ nrS st := ⟨fun v hv => h v (List.mem_append_left _ (List.mem_reverse.mpr hv)), fun v hv => h v (List.mem_append_right _ hv)⟩
theorem nrS_res {N : MM} {r : Option PV} {st : List PV} (h : nrR N r) (h2 : nrS st) : nrS (r.toList ++ st) := by
  intro v hv
  rcases List.mem_append.mp hv with q | q
  · cases r with
    | none => simp at q
    | some x => simp at q; subst q; exact (h _ rfl).1
  · exact h2 v q
theorem emS_app (As st : List PV) : emS X ads (As ++ st) = emS X ads As ++ emS X ads st := by simp [emS]
theorem emS_res (r : Option PV) (st : List PV) : (r.map (em X ads)).toList ++ emS X ads st = emS X ads (r.toList ++ st) := by
  cases r <;> simp [emS]
/-- a virtual call -/
theorem j_cv (n j ar : Nat) {N : MM} {idx c ci : Nat} {fs : List (Option (Option Nat))} {q : vw_C} {As st0 : List PV} {w : β → Option PV × Sg} {r0 : Option β} {K : β → Option α} (hn : P[n]? = some (.invokevirtual idx, pc, pc2)) (hm : tb.2.2.1[j]? = some (idx, N.1)) (hw : MWV N ar) (hs : sk[c]? = some (.inl (ci, fs))) (hcl : vwCl[ci]? = some q) (hcn : q.1 = N.1.cls) (hC : CF X N ads sk (.inr (some c) :: As) σ w r0) (hlen : As.length = ar) (hst : As.reverse ++ .inr (some c) :: st = st0) (hR : RoomOK R N kc nc 0 0) (h8 : st.length ≤ 8)
    (k : ∀ a, r0 = some a → nrR N (w a).1 → J X M P tb R kc nc EX F ads sk (pc2, L, (w a).1.toList ++ st, (w a).2) (K a)) : J X M P tb R kc nc EX F ads sk (pc, L, st0, σ) (r0.bind K) := by
  intro ho b hb hq
  obtain ⟨a, h1, h2⟩ := Option.bind_eq_some_iff.mp hb
  obtain ⟨hd, rfl⟩ := okP_get ho.1 hn (by simp [lenI])
  subst hst
  have hA := nrS_rev (As := As) (st := .inr (some c) :: st) hq.2.2
  obtain ⟨c1, c2⟩ := hC a h1 (nrS_cons trivial hA.1)
  have k1 := k a h1 c1 ho b h2 ⟨hq.1, hq.2.1, nrS_res c1 (nrS_tail hA.2)⟩
  refine ⟨k1.1, ?_⟩
  rw [List.map_cons, sk_em ho hs] at c2
  show WZ _ _ _ _ _ _ _ _ _ (emS X ads (As.reverse ++ .inr (some c) :: st)) _
  have e1 : emS X ads (As.reverse ++ .inr (some c) :: st) = (As.map (em X ads)).reverse ++ .ref (ads.getD c 0) :: emS X ads st := by
    rw [emS_app]
    simp only [emS, List.map_cons, List.map_reverse, sk_em ho hs]
  rw [e1]
  refine w_callV hd (ho.2.1.2.2.1 _ (List.mem_of_getElem? hm)) hw (by simpa using hlen) c2 (mkW_get hs) hcl hcn hR (em_sum h8) ?_
  rintro r ws2 ⟨rfl, rfl⟩
  rw [emS_res]
  exact k1.2
/-- a static call -/
theorem j_cs (n j ar : Nat) {N : MM} {idx : Nat} {As st0 : List PV} {w : β → Option PV × Sg} {r0 : Option β} {K : β → Option α} (hn : P[n]? = some (.invokestatic idx, pc, pc2)) (hm : tb.2.2.1[j]? = some (idx, N.1)) (hw : MWS N ar) (hC : CF X N ads sk As σ w r0) (hlen : As.length = ar) (hst : As.reverse ++ st = st0) (hR : RoomOK R N kc nc 0 0) (h8 : st.length ≤ 8)
    (k : ∀ a, r0 = some a → nrR N (w a).1 → J X M P tb R kc nc EX F ads sk (pc2, L, (w a).1.toList ++ st, (w a).2) (K a)) : J X M P tb R kc nc EX F ads sk (pc, L, st0, σ) (r0.bind K) := by
  intro ho b hb hq
  obtain ⟨a, h1, h2⟩ := Option.bind_eq_some_iff.mp hb
  obtain ⟨hd, rfl⟩ := okP_get ho.1 hn (by simp [lenI])
  subst hst
  have hA := nrS_rev (As := As) (st := st) hq.2.2
  obtain ⟨c1, c2⟩ := hC a h1 hA.1
  have k1 := k a h1 c1 ho b h2 ⟨hq.1, hq.2.1, nrS_res c1 hA.2⟩
  refine ⟨k1.1, ?_⟩
  show WZ _ _ _ _ _ _ _ _ _ (emS X ads (As.reverse ++ st)) _
  have e1 : emS X ads (As.reverse ++ st) = (As.map (em X ads)).reverse ++ emS X ads st := by
    rw [emS_app]
    simp only [emS, List.map_reverse]
  rw [e1]
  refine w_callS hd (ho.2.1.2.2.1 _ (List.mem_of_getElem? hm)) hw (by simpa using hlen) c2 hR (em_sum h8) ?_
  rintro r ws2 ⟨rfl, rfl⟩
  rw [emS_res]
  exact k1.2
theorem j_cvN (n j ar : Nat) {N : MM} {idx c ci : Nat} {host : String} {fs : List (Option (Option Nat))} {q : vw_C} {As st0 : List PV} {w : β → Option PV × Sg} {r0 : Option β} {K : β → Option α} (hn : P[n]? = some (.invokevirtual idx, pc, pc2)) (hm : tb.2.2.2.1[j]? = some (idx, N.1, host)) (hw : MWV N ar) (hs : sk[c]? = some (.inl (ci, fs))) (hcl : vwCl[ci]? = some q) (hcn : q.1 = N.1.cls) (hC : CF X N ads sk (.inr (some c) :: As) σ w r0) (hlen : As.length = ar) (hst : As.reverse ++ .inr (some c) :: st = st0) (hR : RoomOK R N kc nc 0 0) (h8 : st.length ≤ 8)
    (k : ∀ a, r0 = some a → nrR N (w a).1 → J X M P tb R kc nc EX F ads sk (pc2, L, (w a).1.toList ++ st, (w a).2) (K a)) : J X M P tb R kc nc EX F ads sk (pc, L, st0, σ) (r0.bind K) := by
  intro ho b hb hq
  obtain ⟨a, h1, h2⟩ := Option.bind_eq_some_iff.mp hb
  obtain ⟨hd, rfl⟩ := okP_get ho.1 hn (by simp [lenI])
  subst hst
  have hA := nrS_rev (As := As) (st := .inr (some c) :: st) hq.2.2
  obtain ⟨c1, c2⟩ := hC a h1 (nrS_cons trivial hA.1)
  have k1 := k a h1 c1 ho b h2 ⟨hq.1, hq.2.1, nrS_res c1 (nrS_tail hA.2)⟩
  refine ⟨k1.1, ?_⟩
  rw [List.map_cons, sk_em ho hs] at c2
  show WZ _ _ _ _ _ _ _ _ _ (emS X ads (As.reverse ++ .inr (some c) :: st)) _
  have e1 : emS X ads (As.reverse ++ .inr (some c) :: st) = (As.map (em X ads)).reverse ++ .ref (ads.getD c 0) :: emS X ads st := by
    rw [emS_app]
    simp only [emS, List.map_cons, List.map_reverse, sk_em ho hs]
  rw [e1]
  refine w_callVN hd (ho.2.1.2.2.2.1 _ (List.mem_of_getElem? hm)) hw (by simpa using hlen) c2 (mkW_get hs) hcl hcn hR (em_sum h8) ?_
  rintro r ws2 ⟨rfl, rfl⟩
  rw [emS_res]
  exact k1.2
theorem j_csN (n j ar : Nat) {N : MM} {idx : Nat} {host : String} {As st0 : List PV} {w : β → Option PV × Sg} {r0 : Option β} {K : β → Option α} (hn : P[n]? = some (.invokestatic idx, pc, pc2)) (hm : tb.2.2.2.1[j]? = some (idx, N.1, host)) (hw : MWS N ar) (hC : CF X N ads sk As σ w r0) (hlen : As.length = ar) (hst : As.reverse ++ st = st0) (hR : RoomOK R N kc nc 0 0) (h8 : st.length ≤ 8)
    (k : ∀ a, r0 = some a → nrR N (w a).1 → J X M P tb R kc nc EX F ads sk (pc2, L, (w a).1.toList ++ st, (w a).2) (K a)) : J X M P tb R kc nc EX F ads sk (pc, L, st0, σ) (r0.bind K) := by
  intro ho b hb hq
  obtain ⟨a, h1, h2⟩ := Option.bind_eq_some_iff.mp hb
  obtain ⟨hd, rfl⟩ := okP_get ho.1 hn (by simp [lenI])
  subst hst
  have hA := nrS_rev (As := As) (st := st) hq.2.2
  obtain ⟨c1, c2⟩ := hC a h1 hA.1
  have k1 := k a h1 c1 ho b h2 ⟨hq.1, hq.2.1, nrS_res c1 hA.2⟩
  refine ⟨k1.1, ?_⟩
  show WZ _ _ _ _ _ _ _ _ _ (emS X ads (As.reverse ++ st)) _
  have e1 : emS X ads (As.reverse ++ st) = (As.map (em X ads)).reverse ++ emS X ads st := by
    rw [emS_app]
    simp only [emS, List.map_reverse]
  rw [e1]
  refine w_callSN hd (ho.2.1.2.2.2.1 _ (List.mem_of_getElem? hm)) hw (by simpa using hlen) c2 hR (em_sum h8) ?_
  rintro r ws2 ⟨rfl, rfl⟩
  rw [emS_res]
  exact k1.2
end JC
