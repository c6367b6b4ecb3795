/-! making cells: new, newarray, constructors -/
def zr (σ : Sg) (c : Nat) : Sg := fun c2 i => if c2 = c then 0 else σ c2 i
def vV (n : Nat) : PV → Bool
  | .inr (some c) => Nat.blt c n || Nat.ble 1000 c
  | _ => true
def vL (n : Nat) (L : List (Option PV)) : Bool := L.all (fun v => match v with
  | some w => vV n w
  | none => true)
def vSk (n : Nat) : Sk → Bool
  | .inl q => q.2.all (fun r => match r with
    | some (some c) => Nat.blt c n || Nat.ble 1000 c
    | _ => true)
  | .inr _ => true
/-- all references lie among the first n cells -/
def vOK (n : Nat) (L : List (Option PV)) (st : List PV) (sk : List Sk) : Bool := vL n L && st.all (vV n) && sk.all (vSk n)
theorem em_new {X : Cx} {ads new : List Nat} {v : PV} (h : vV ads.length v = true) : em X (ads ++ new) v = em X ads v := by
  match v, h with
  | .inl z, _ => rfl
  | .inr none, _ => rfl
  | .inr (some c), h =>
    show Value.ref (ea X (ads ++ new) c) = Value.ref (ea X ads c)
    unfold ea
    by_cases hc : c < 1000
    · rw [if_pos hc, if_pos hc]
      have hl : c < ads.length := by
        simp only [vV, Bool.or_eq_true] at h
        rcases h with h | h
        · exact Nat.le_of_ble_eq_true h
        · have := Nat.le_of_ble_eq_true h; omega
      rw [List.getD_eq_getElem?_getD, List.getD_eq_getElem?_getD, List.getElem?_append_left hl]
    · rw [if_neg hc, if_neg hc]
theorem emL_new {X : Cx} {ads new : List Nat} {L : List (Option PV)} (h : vL ads.length L = true) : emL X (ads ++ new) L = emL X ads L := by
  unfold emL
  apply List.map_congr_left
  intro v hv
  have := List.all_eq_true.mp h v hv
  cases v with
  | none => rfl
  | some w => simp only [Option.map_some]; rw [em_new this]
theorem emS_new {X : Cx} {ads new : List Nat} {st : List PV} (h : st.all (vV ads.length) = true) : emS X (ads ++ new) st = emS X ads st := by
  unfold emS
  apply List.map_congr_left
  intro v hv
  exact em_new (List.all_eq_true.mp h v hv)
theorem fv_new {X : Cx} {ads new : List Nat} {f : Int → Int32} : ∀ (fs : List (Option (Option Nat))) (k : Nat), vSk ads.length (.inl (0, fs)) = true → fv X (ads ++ new) f k fs = fv X ads f k fs
  | [], k, _ => rfl
  | none :: t, k, h => by
    simp only [vSk, List.all_cons, Bool.and_eq_true] at h
    rw [fv, fv, fv_new t (k + 1) (by simpa [vSk] using h.2)]
  | some r :: t, k, h => by
    simp only [vSk, List.all_cons, Bool.and_eq_true] at h
    rw [fv, fv, fv_new t (k + 1) (by simpa [vSk] using h.2), em_new]
    cases r with
    | none => rfl
    | some c => exact h.1
theorem mkc_new {X : Cx} {ads new : List Nat} {f : Int → Int32} {s : Sk} (h : vSk ads.length s = true) : mkc X (ads ++ new) f s = mkc X ads f s := by
  cases s with
  | inl q => 
    show (Sum.inr (q.1, fv X (ads ++ new) f 0 q.2) : va_E) = Sum.inr (q.1, fv X ads f 0 q.2)
    rw [fv_new q.2 0 h]
  | inr q => rfl
/-- one cell more, all its places 0 -/
theorem mkW_new {X : Cx} {ads : List Nat} {σ : Sg} {sk : List Sk} {a : Nat} {s : Sk} (hl : ads.length = sk.length) (h : sk.all (vSk ads.length) = true) : mkW X (ads ++ [a]) (zr σ sk.length) (sk ++ [s]) = mkW X ads σ sk ++ [(a, mkc X (ads ++ [a]) (fun _ => 0) s)] := by
  apply List.ext_getElem?
  intro j
  rcases Nat.lt_trichotomy j sk.length with q | q | q
  · rw [List.getElem?_append_left (by rw [mkW, List.length_mapIdx]; exact q), mkW, mkW, List.getElem?_mapIdx, List.getElem?_mapIdx, List.getElem?_append_left q]
    have hj : sk[j]? = some sk[j] := List.getElem?_eq_getElem q
    rw [hj, Option.map_some, Option.map_some]
    have hz : zr σ sk.length j = σ j := by funext i; unfold zr; rw [if_neg (by omega)]
    rw [hz, mkc_new (List.all_eq_true.mp h _ (List.mem_of_getElem? hj)), List.getD_eq_getElem?_getD, List.getD_eq_getElem?_getD, List.getElem?_append_left (by rw [hl]; exact q)]
  · subst q
    rw [mkW, List.getElem?_mapIdx, List.getElem?_append_right (Nat.le_refl _), List.getElem?_append_right (by rw [mkW, List.length_mapIdx]; exact Nat.le_refl _)]
    rw [mkW, List.length_mapIdx, Nat.sub_self]
    have hz : zr σ sk.length sk.length = fun _ => 0 := by funext i; unfold zr; rw [if_pos rfl]
    simp only [List.getElem?_cons_zero, Option.map_some, hz]
    rw [List.getD_eq_getElem?_getD, ← hl, List.getElem?_append_right (Nat.le_refl _), Nat.sub_self]
    rfl
  · rw [List.getElem?_eq_none (by simp [mkW]; omega), List.getElem?_eq_none (by simp [mkW]; omega)]
def rawS (ci : Nat) : Sk := match vwCl[ci]? with
  | some w => .inl (ci, (List.range w.2.2).map (fun k => match tyT ci k with
    | .int => none
    | .boolean => none
    | _ => some none))
  | none => .inr (0, 0)
def tyE : Nat → FieldType
  | 0 => .int
  | 1 => .byte
  | _ => .boolean
def atE : Nat → ArrayType
  | 0 => .int
  | 1 => .byte
  | _ => .boolean
def QA (X : Cx) (ads : List Nat) (n : Nat) (sk : List Sk) (σ : Sg) : Option Value → va_W → Prop := fun v ws => v = none ∧ ∃ new : List Nat, new.length = n ∧ ws = mkW X (ads ++ new) σ sk
def FA (X : Cx) (ads : List Nat) (n : Nat) (sk : List Sk) (mc ms : Nat) (σ : Sg) : Prop × ZT := (True, ZM X (QA X ads n sk σ) mc ms)
/-- a constructor's contract: n cells more, the skeleton behind it -/
def CFA (X : Cx) (N : MM) (ads : List Nat) (sk : List Sk) (As : List PV) (σ : Sg) (n : Nat) (sk2 : List Sk) (mc ms : Nat) (res : Option Sg) : Prop :=
  ∀ τ, res = some τ → nrS As → CI X N (As.map (em X ads)) (mkW X ads σ sk) mc ms (QA X ads n sk2 τ)
theorem CFA.of {X : Cx} {M : MM} {P : PG} {tb : TB} {ads : List Nat} {sk sk2 : List Sk} {As : List PV} {σ : Sg} {n mc ms : Nat} {res : Option Sg} (ho : okC M P tb ads sk) (hy : plainFor M.1 = true) (hn : As.length ≤ M.2.2.1)
    (k : J X M P tb (rmD M.2.2.2.2 mc ms) 0 0 E0 (FA X ads n sk2 mc ms) ads sk (0, argP As M.2.2.1, [], σ) res) : CFA X M ads sk As σ n sk2 mc ms res := by
  intro a ha hA
  have hlen : (argP As M.2.2.1).length = M.2.2.1 := by
    simp [argP]; omega
  obtain ⟨h1, h2⟩ := k ho a ha ⟨hlen, argP_nr hA, fun v hv => absurd hv List.not_mem_nil⟩
  refine CI.of hy ?_ (by simpa using hn) ?_
  · simp [em_cat]
  · rw [← argP_em]
    exact h2
theorem kd_all : ∀ ci : Nat, ci < 12 → ∀ j : Nat, j < ((vwCl[ci]?).map (fun w => w.2.2)).getD 0 → (match tyT ci j with
    | .int => true
    | .boolean => true
    | .object _ => true
    | .array _ => true
    | _ => false) = true := by decide +kernel
theorem acw_all (ek : Nat) : Cond.arrayClass (newarray.typeOf (atE ek)) ∈ TW := by
  match ek with
  | 0 => exact tw_of (i := 79) (by decide +kernel) rfl
  | 1 => exact tw_of (i := 283) (by decide +kernel) rfl
  | _ + 2 => exact tw_of (w := Cond.arrayClass .boolean) (i := 380) (by decide +kernel) rfl
theorem ac_eq {X : Cx} {s : State} {cA : ClassId} {ek : Nat} (hK : va_K X.2.1 vwCl (tyL X) s) (h : va_RA s cA (tyE ek)) : cA = aC X ek := by
  match ek, h with
  | 0, h => exact Option.some.inj (h.symm.trans (hK.2 0 _ rfl).2)
  | 1, h => exact Option.some.inj (h.symm.trans (hK.2 1 _ rfl).2)
  | _ + 2, h => exact Option.some.inj (h.symm.trans (hK.2 2 _ rfl).2)
section JA
variable {α : Type} {X : Cx} {M : MM} {P : PG} {tb : TB} {R : Room} {kc nc : Nat} {EX : EXT} {F : α → Prop × ZT} {ads : List Nat} {sk : List Sk} {L : List (Option PV)} {st : List PV} {σ : Sg} {res : Option α} {pc pc2 : Nat}
theorem vOK_of {n : Nat} (h : vOK n L st sk = true) : vL n L = true ∧ st.all (vV n) = true ∧ sk.all (vSk n) = true := by
  unfold vOK at h
  rw [Bool.and_eq_true, Bool.and_eq_true] at h
  exact ⟨h.1.1, h.1.2, h.2⟩
theorem j_newarr (n ek N : Nat) {x : Int} (hn : P[n]? = some (.newarray (atE ek), pc, pc2)) (hx : x = (N : Int)) (hN : N * componentBytes (tyE ek) ≤ 536870912) (hok : vOK sk.length L st sk = true) (hR : kc + 1 ≤ R.cells ∧ nc + N ≤ R.slots) (h1000 : sk.length + 1 ≤ 1000)
    (k : ∀ a : Nat, J X M P tb R (kc + 1) (nc + N) EX F (ads ++ [a]) (sk ++ [.inr (ek, N)]) (pc2, L, .inr (some sk.length) :: st, zr σ sk.length) res) : J X M P tb R kc nc EX F ads sk (pc, L, .inl x :: st, σ) res := by
  intro ho a0 ha hq
  have hl := ho.2.2.1
  obtain ⟨v1, v2, v3⟩ := vOK_of hok
  have ho2 : ∀ a : Nat, okC M P tb (ads ++ [a]) (sk ++ [.inr (ek, N)]) := fun a => ⟨ho.1, ho.2.1, by simp [hl], by simpa using h1000⟩
  have hq2 : nrP M (pc2, L, .inr (some sk.length) :: st, zr σ sk.length) := ⟨hq.1, hq.2.1, nrS_cons trivial (nrS_tail hq.2.2)⟩
  refine ⟨(k 0 (ho2 0) a0 ha hq2).1, ?_⟩
  obtain ⟨hd, rfl⟩ := okP_get ho.1 hn (by simp [lenI])
  have hb : bw x = x := nrS_head hq.2.2
  intro p e s m args below meth cc H locs ls FF hE hP hD hS hl2
  have hty : newarray.typeOf (atE ek) = tyE ek := by
    match ek with
    | 0 => rfl
    | 1 => rfl
    | _ + 2 => rfl
  refine va_newa (atype := atE ek) (ty := tyE ek) FF.1 FF.2.1 (FF.2.2.2.2.2.1 _ (acw_all ek)) hty FF.2.2.2.2.2.2.2.2.1 hP hD hS (fun q hqq => Nat.le_trans FF.2.2.2.2.2.2.2.2.2.2 hqq) (N' := N) (a0 := (N, .inl (fun _ => 0))) ?_ ?_ ?_ hN hR.1 hR.2 hd ?_
  · intro cA
    match ek with
    | 0 => rfl
    | 1 => rfl
    | _ + 2 => rfl
  · intro q
    have := (ofI_lt hb (y := 0) rfl).mp q
    omega
  · rw [cl_of hb]; omega
  · intro q cA H1 hK2 hP2 hD2 hS2
    have hcA : cA = aC X ek := ac_eq FF.2.2.2.2.2.2.2.2.1 (hK2.2 3 (cA, tyE ek) rfl).2
    subst hcA
    have kk := (k q (ho2 q) a0 ha hq2).2 p e s m args below meth cc H1 locs ls FF hE
    have ew := mkW_new (X := X) (σ := σ) (a := q) (s := .inr (ek, N)) hl (by rw [hl]; exact v3)
    have eL : emL X (ads ++ [q]) L = emL X ads L := emL_new (by rw [hl]; exact v1)
    have eS : emS X (ads ++ [q]) st = emS X ads st := emS_new (by rw [hl]; exact v2)
    have er : em X (ads ++ [q]) (.inr (some sk.length)) = .ref q := by
      show Value.ref (ea X (ads ++ [q]) sk.length) = _
      rw [ea_of (by omega), List.getD_eq_getElem?_getD, ← hl, List.getElem?_append_right (Nat.le_refl _), Nat.sub_self]
      rfl
    have kk2 := kk (by show va_P _ _ (mkW X (ads ++ [q]) (zr σ sk.length) (sk ++ [.inr (ek, N)])) H1; rw [ew]; exact hP2) (by show va_D _ (mkW X (ads ++ [q]) (zr σ sk.length) (sk ++ [.inr (ek, N)])); rw [ew]; exact hD2) hS2 (by show lvL ls M.2.2.1 (emL X (ads ++ [q]) L); rw [eL]; exact hl2)
    have kk3 : W p X.1 e R s m args below meth cc H1 locs (kc + 1) (nc + N) ((F a0).2 below args s) (F0 m (pc + 2) ls (em X (ads ++ [q]) (.inr (some sk.length)) :: emS X (ads ++ [q]) st)) := kk2
    rw [er, eS] at kk3
    exact kk3
theorem j_new (n ci : Nat) {idx : Nat} {w : vw_C} (hn : P[n]? = some (.new idx, pc, pc2)) (hw : vwCl[ci]? = some w) (h12 : ci < 12) (w1 : Cond.classLink M.1.cls idx w.1 ∈ TW) (w2 : Cond.instantiable w.1 w.2.2 ∈ TW) (w3 : Cond.initialized w.1 ∈ TW) (hok : vOK sk.length L st sk = true) (hR : kc + 1 ≤ R.cells ∧ nc + w.2.2 ≤ R.slots) (h1000 : sk.length + 1 ≤ 1000)
    (k : ∀ a : Nat, J X M P tb R (kc + 1) (nc + w.2.2) EX F (ads ++ [a]) (sk ++ [rawS ci]) (pc2, L, .inr (some sk.length) :: st, zr σ sk.length) res) : J X M P tb R kc nc EX F ads sk (pc, L, st, σ) res := by
  intro ho a0 ha hq
  have hl := ho.2.2.1
  obtain ⟨v1, v2, v3⟩ := vOK_of hok
  have ho2 : ∀ a : Nat, okC M P tb (ads ++ [a]) (sk ++ [rawS ci]) := fun a => ⟨ho.1, ho.2.1, by simp [hl], by simpa using h1000⟩
  have hq2 : nrP M (pc2, L, .inr (some sk.length) :: st, zr σ sk.length) := ⟨hq.1, hq.2.1, nrS_cons trivial hq.2.2⟩
  refine ⟨(k 0 (ho2 0) a0 ha hq2).1, ?_⟩
  obtain ⟨hd, rfl⟩ := okP_get ho.1 hn (by simp [lenI])
  intro p e s m args below meth cc H locs ls FF hE hP hD hS hl2
  have hts := FF.2.2.2.2.2.1
  obtain ⟨rs, hrs⟩ : ∃ rs, rs = (List.range w.2.2).map (fun k => match tyT ci k with
    | .int => none
    | .boolean => none
    | _ => (some none : Option (Option Nat))) := ⟨_, rfl⟩
  have hraw : rawS ci = .inl (ci, rs) := by rw [hrs, rawS, hw]
  refine va_new (C := w.1) (T := w.2.1) (N := w.2.2) (ci := ci) FF.1 FF.2.1 hts (clAll hw).1 (tyT ci) (clAll hw).2.1 FF.2.2.2.2.1 (hts _ w1) (hts _ w2) (hts _ w3) FF.2.2.2.2.2.2.2.2.1 hP hD hS (fun q hqq => Nat.le_trans FF.2.2.2.2.2.2.2.2.2.2 hqq) hw (fs := fv X ads (fun _ => 0) 0 rs) ?_ hR.1 hR.2 hd ?_
  · intro j hj
    have hk := kd_all ci h12 j (by rw [hw]; exact hj)
    unfold vp_V
    rw [List.getD_eq_getElem?_getD, fv_get, hrs, List.getElem?_map, List.getElem?_range hj]
    simp only [Option.map_some]
    cases ht : tyT ci j <;> rw [ht] at hk <;> first | rfl | cases hk
  · intro q H1 hP2 hD2 hS2
    have kk := (k q (ho2 q) a0 ha hq2).2 p e s m args below meth cc H1 locs ls FF hE
    have ew := mkW_new (X := X) (σ := σ) (a := q) (s := rawS ci) hl (by rw [hl]; exact v3)
    have eL : emL X (ads ++ [q]) L = emL X ads L := emL_new (by rw [hl]; exact v1)
    have eS : emS X (ads ++ [q]) st = emS X ads st := emS_new (by rw [hl]; exact v2)
    have er : em X (ads ++ [q]) (.inr (some sk.length)) = .ref q := by
      show Value.ref (ea X (ads ++ [q]) sk.length) = _
      rw [ea_of (by omega), List.getD_eq_getElem?_getD, ← hl, List.getElem?_append_right (Nat.le_refl _), Nat.sub_self]
      rfl
    have em0 : mkc X (ads ++ [q]) (fun _ => 0) (rawS ci) = .inr (ci, fv X ads (fun _ => 0) 0 rs) := by
      rw [mkc_new]
      · rw [hraw]; rfl
      · rw [hraw, hrs]
        simp only [vSk, List.all_map, List.all_eq_true]
        intro j hj
        simp only [Function.comp]
        cases tyT ci j <;> rfl
    rw [em0] at ew
    have kk2 := kk (by show va_P _ _ (mkW X (ads ++ [q]) (zr σ sk.length) (sk ++ [rawS ci])) H1; rw [ew]; exact hP2) (by show va_D _ (mkW X (ads ++ [q]) (zr σ sk.length) (sk ++ [rawS ci])); rw [ew]; exact hD2) hS2 (by show lvL ls M.2.2.1 (emL X (ads ++ [q]) L); rw [eL]; exact hl2)
    have kk3 : W p X.1 e R s m args below meth cc H1 locs (kc + 1) (nc + w.2.2) ((F a0).2 below args s) (F0 m (pc + 3) ls (em X (ads ++ [q]) (.inr (some sk.length)) :: emS X (ads ++ [q]) st)) := kk2
    rw [er, eS] at kk3
    exact kk3
end JA
theorem fv_setr {X : Cx} {ads : List Nat} {f : Int → Int32} {fs : List (Option (Option Nat))} {j : Nat} {r : Option Nat} (h : j < fs.length) : ∀ k : Nat, (fv X ads f k fs).set j (em X ads (.inr r)) = fv X ads f k (fs.set j (some r)) := by
  intro k
  apply List.ext_getElem?
  intro i
  rw [List.getElem?_set, fv_get, fv_get, List.getElem?_set]
  have hl : (fv X ads f k fs).length = fs.length := by
    clear h
    induction fs generalizing k with
    | nil => rfl
    | cons q t ih =>
      cases q with
      | none => rw [fv, List.length_cons, List.length_cons, ih]
      | some r => rw [fv, List.length_cons, List.length_cons, ih]
  by_cases hj : j = i
  · subst hj
    rw [if_pos rfl, if_pos rfl, hl, if_pos h, if_pos h]
    rfl
  · rw [if_neg hj, if_neg hj]
theorem mkW_setsk {X : Cx} {ads : List Nat} {σ : Sg} {sk : List Sk} {c : Nat} {s s2 : Sk} {e : va_E} (h : sk[c]? = some s) (he : mkc X ads (σ c) s2 = e) : (mkW X ads σ sk).set c (ads.getD c 0, e) = mkW X ads σ (sk.set c s2) := by
  subst he
  apply List.ext_getElem?
  intro j
  rw [List.getElem?_set, mkW, mkW, List.getElem?_mapIdx, List.getElem?_mapIdx, List.length_mapIdx, List.getElem?_set]
  have hl : c < sk.length := (List.getElem?_eq_some_iff.mp h).1
  by_cases hj : c = j
  · subst hj
    rw [if_pos rfl, if_pos rfl, if_pos hl, if_pos hl]
    rfl
  · rw [if_neg hj, if_neg hj]
section JB
variable {α : Type} {X : Cx} {M : MM} {P : PG} {tb : TB} {R : Room} {kc nc : Nat} {EX : EXT} {F : α → Prop × ZT} {ads : List Nat} {sk : List Sk} {L : List (Option PV)} {st : List PV} {σ : Sg} {res : Option α} {pc pc2 : Nat}
/-- a reference field is written: the skeleton changes -/
theorem j_prf (n j : Nat) {idx ci k c : Nat} {i : Int} {r : Option Nat} {fs : List (Option (Option Nat))} {sk2 : List Sk} {w : vw_C} (hn : P[n]? = some (.putfield idx, pc, pc2)) (hf : tb.2.1[j]? = some (idx, ci, k, i)) (hs : sk[c]? = some (.inl (ci, fs))) (hk : Nat.blt k fs.length = true) (hw : vwCl[ci]? = some w) (hfin : (w.2.1 k).2.2.2 = false ∨ (M.1.name = "<init>" ∧ w.1 = M.1.cls)) (hty : (match tyT ci k with
    | .object _ => true
    | .array _ => true
    | _ => false) = true) (h2 : sk.set c (.inl (ci, fs.set k (some r))) = sk2)
    (kk : J X M P tb R kc nc EX F ads sk2 (pc2, L, st, σ) res) : J X M P tb R kc nc EX F ads sk (pc, L, .inr r :: .inr (some c) :: st, σ) res := by
  subst h2
  intro ho a0 ha hq
  have ho2 : okC M P tb ads (sk.set c (.inl (ci, fs.set k (some r)))) := ⟨ho.1, ho.2.1, by simpa using ho.2.2.1, by simpa using ho.2.2.2⟩
  have hq2 : nrP M (pc2, L, st, σ) := ⟨hq.1, hq.2.1, nrS_tail (nrS_tail hq.2.2)⟩
  obtain ⟨r1, r2⟩ := kk ho2 a0 ha hq2
  refine ⟨r1, ?_⟩
  obtain ⟨hd, rfl⟩ := okP_get ho.1 hn (by simp [lenI])
  obtain ⟨w2, hw1, hw2, hw3, hw4, hw5⟩ := ho.2.1.2.1 _ (List.mem_of_getElem? hf)
  have : w2 = w := Option.some.inj (hw1.symm.trans hw)
  subst this
  have hk := Nat.le_of_ble_eq_true hk
  intro p e s m args below meth cc H locs ls FF hE hP hD hS hl
  show W _ _ _ _ _ _ _ _ _ _ _ _ _ _ _ (F0 m pc ls (em X ads (.inr r) :: em X ads (.inr (some c)) :: emS X ads st))
  rw [sk_em ho hs]
  have hn1 : narrow (tyT ci k) (em X ads (.inr r)) = em X ads (.inr r) ∧ fits (tyT ci k) (em X ads (.inr r)) = true := by
    cases ht : tyT ci k <;> rw [ht] at hty <;> first | (cases hty; done) | (cases r <;> exact ⟨rfl, rfl⟩)
  have hlen : k < (fv X ads (σ c) 0 fs).length := by
    have h2 := fv_setr (X := X) (ads := ads) (f := σ c) (r := none) hk 0
    rcases Nat.lt_or_ge k (fv X ads (σ c) 0 fs).length with q | q
    · exact q
    · have h3 := List.getElem?_eq_none q
      rw [fv_get, List.getElem?_eq_getElem hk] at h3
      simp at h3
  have fin : ∀ (H1 : Heap) (locs1 : List Loc), va_P X.2.1 vwCl ((mkW X ads σ sk).set c (ads.getD c 0, .inr (ci, (fv X ads (σ c) 0 fs).set k (em X ads (.inr r))))) H1 → va_D (AA X) ((mkW X ads σ sk).set c (ads.getD c 0, .inr (ci, (fv X ads (σ c) 0 fs).set k (em X ads (.inr r))))) → va_S (AA X) s.heap H1 locs1 → W p X.1 e R s m args below meth cc H1 locs1 kc nc ((F a0).2 below args s) (F0 m (pc + 3) ls (emS X ads st)) := by
    intro H1 locs1 h1 h2 h3
    have ew := mkW_setsk (X := X) (ads := ads) (σ := σ) (s2 := .inl (ci, fs.set k (some r))) hs rfl
    have ef : mkc X ads (σ c) (.inl (ci, fs.set k (some r))) = .inr (ci, (fv X ads (σ c) 0 fs).set k (em X ads (.inr r))) := by
      rw [fv_setr hk]; rfl
    rw [ef] at ew
    rw [ew] at h1 h2
    exact r2 p e s m args below meth cc H1 locs1 ls FF hE h1 h2 h3 hl
  rcases hfin with hfin | ⟨hi, hdc⟩
  · exact va_put FF.1 FF.2.1 (C := w2.1) (T := w2.2.1) (N := w2.2.2) FF.2.2.2.2.2.1 (clAll hw1).1 (tyT ci) (clAll hw1).2.1 (clAll hw1).2.2 FF.2.2.2.2.1 FF.2.2.2.2.2.2.2.2.1 hP hD hS c (mkW_get hs) hw1 k hw2 (FF.2.2.2.2.2.1 _ hw5) (fun x hx => by rw [hw3] at hx; exact hx) hfin ((clAll hw1).2.1 k hw2) hn1.1 hn1.2 hlen hd fin
  · by_cases hb : (w2.2.1 k).2.2.2 = false
    · exact va_put FF.1 FF.2.1 (C := w2.1) (T := w2.2.1) (N := w2.2.2) FF.2.2.2.2.2.1 (clAll hw1).1 (tyT ci) (clAll hw1).2.1 (clAll hw1).2.2 FF.2.2.2.2.1 FF.2.2.2.2.2.2.2.2.1 hP hD hS c (mkW_get hs) hw1 k hw2 (FF.2.2.2.2.2.1 _ hw5) (fun x hx => by rw [hw3] at hx; exact hx) hb ((clAll hw1).2.1 k hw2) hn1.1 hn1.2 hlen hd fin
    · exact va_putF FF.1 FF.2.1 (C := w2.1) (T := w2.2.1) (N := w2.2.2) FF.2.2.2.2.2.1 (clAll hw1).1 (tyT ci) (clAll hw1).2.1 (clAll hw1).2.2 FF.2.2.2.2.1 FF.2.2.2.2.2.2.2.2.1 hP hD hS c (mkW_get hs) hw1 k hw2 (FF.2.2.2.2.2.1 _ hw5) (fun x hx => by rw [hw3] at hx; exact hx) (by simpa using hb) (FF.2.2.2.2.2.2.2.1 hi) (hw3.trans hdc) ((clAll hw1).2.1 k hw2) hn1.1 hn1.2 hlen hd fin
/-- a final whole number is written in a constructor -/
theorem j_pff (n j : Nat) {idx ci k c : Nat} {i z : Int} {fs : List (Option (Option Nat))} {w : vw_C} (hn : P[n]? = some (.putfield idx, pc, pc2)) (hf : tb.2.1[j]? = some (idx, ci, k, i)) (hs : sk[c]? = some (.inl (ci, fs))) (hk : fs[k]? = some none) (hw : vwCl[ci]? = some w) (hfin : (w.2.1 k).2.2.2 = true) (hi : M.1.name = "<init>") (hdc : w.1 = M.1.cls) (hty : tyT ci k = .int) (kk : J X M P tb R kc nc EX F ads sk (pc2, L, st, wr σ c i z) res) : J X M P tb R kc nc EX F ads sk (pc, L, .inl z :: .inr (some c) :: st, σ) res := by
  refine J.step (ps2 := (pc2, L, st, wr σ c i z)) (fun ho a ha hq => ⟨ha, ⟨hq.1, hq.2.1, nrS_tail (nrS_tail hq.2.2)⟩, fun Z kk => ?_⟩) kk
  obtain ⟨hd, rfl⟩ := okP_get ho.1 hn (by simp [lenI])
  obtain ⟨w2, hw1, hw2, hw3, hw4, hw5⟩ := ho.2.1.2.1 _ (List.mem_of_getElem? hf)
  have : w2 = w := Option.some.inj (hw1.symm.trans hw)
  subst this
  intro p e s m args below meth cc H locs ls FF hE hP hD hS hl
  show W _ _ _ _ _ _ _ _ _ _ _ _ _ _ _ (F0 m pc ls (.int (Int32.ofInt z) :: em X ads (.inr (some c)) :: emS X ads st))
  rw [sk_em ho hs]
  have hn1 : narrow (tyT ci k) (.int (Int32.ofInt z)) = .int (Int32.ofInt z) ∧ fits (tyT ci k) (.int (Int32.ofInt z)) = true := by
    rw [hty]; exact ⟨rfl, rfl⟩
  have hlen : k < (fv X ads (σ c) 0 fs).length := by
    rcases Nat.lt_or_ge k (fv X ads (σ c) 0 fs).length with q | q
    · exact q
    · have h2 := List.getElem?_eq_none q
      rw [fv_get, hk] at h2
      simp at h2
  refine va_putF FF.1 FF.2.1 (C := w2.1) (T := w2.2.1) (N := w2.2.2) FF.2.2.2.2.2.1 (clAll hw1).1 (tyT ci) (clAll hw1).2.1 (clAll hw1).2.2 FF.2.2.2.2.1 FF.2.2.2.2.2.2.2.2.1 hP hD hS c (mkW_get hs) hw1 k hw2 (FF.2.2.2.2.2.1 _ hw5) (fun x hx => by rw [hw3] at hx; exact hx) hfin (FF.2.2.2.2.2.2.2.1 hi) (hw3.trans hdc) ((clAll hw1).2.1 k hw2) hn1.1 hn1.2 hlen hd ?_
  intro H1 locs1 h1 h2 h3
  rw [mkW_wr (i := i) (z := z) hs (by
    rw [fv_set hk]
    simp only [mkc, wr_self, hw4])] at h1 h2
  exact kk p e s m args below meth cc H1 locs1 ls FF hE h1 h2 h3 hl
theorem obW : Cond.instanceMethod Lib.objectInit ∈ TW ∧ Cond.code Lib.objectInit ⟨#[0xb1]⟩ 1 none ∈ TW := ⟨tw_of (i := 27) (by decide +kernel) rfl, tw_of (i := 28) (by decide +kernel) rfl⟩
/-- Object.<init> -/
theorem j_obj (n : Nat) {idx : Nat} {r : Option Nat} (hn : P[n]? = some (.invokespecial idx, pc, pc2)) (hm : Cond.methodLink M.1.cls idx Lib.objectInit ∈ TW) (hR : 1 ≤ R.frames ∧ st.length + 12 ≤ R.locals) (hr : r.isSome = true) (kk : J X M P tb R kc nc EX F ads sk (pc2, L, st, σ) res) : J X M P tb R kc nc EX F ads sk (pc, L, .inr r :: st, σ) res := by
  refine J.step (ps2 := (pc2, L, st, σ)) (fun ho a ha hq => ⟨ha, ⟨hq.1, hq.2.1, nrS_tail hq.2.2⟩, fun Z kk => ?_⟩) kk
  obtain ⟨hd, rfl⟩ := okP_get ho.1 hn (by simp [lenI])
  obtain ⟨c, rfl⟩ := Option.isSome_iff_exists.mp hr
  intro p e s m args below meth cc H locs ls FF hE hP hD hS hl
  have hts := FF.2.2.2.2.2.1
  refine W.objInit FF.1 FF.2.1 FF.2.2.2.2.1 (hts _ hm) (hts _ obW.1) (hts _ obW.2) rfl (hl.1.trans FF.2.2.1.symm) rfl hd hR.1 ?_ (kk p e s m args below meth cc H locs ls FF hE hP hD hS hl)
  show 2 * 0 + ((emS X ads st).map fun v => v.category).sum + 12 ≤ R.locals
  rw [em_sum_eq]
  omega
theorem j_ci (n j ar : Nat) {N : MM} {idx c k mc ms : Nat} {As st0 : List PV} {sk2 : List Sk} {r0 : Option Sg} {K : Sg → Option α} (hn : P[n]? = some (.invokespecial idx, pc, pc2)) (hm : tb.2.2.1[j]? = some (idx, N.1)) (hw : MWI N ar) (hC : CFA X N ads sk (.inr (some c) :: As) σ k sk2 mc ms r0) (hlen : As.length = ar) (hst : As.reverse ++ .inr (some c) :: st = st0) (hR : RoomOK R N kc nc mc ms) (h8 : st.length ≤ 8) (hok : vOK sk.length L st [] = true) (hsk2 : sk2.length = sk.length + k ∧ sk2.length ≤ 1000)
    (kk : ∀ (new : List Nat) (τ : Sg), new.length = k → r0 = some τ → J X M P tb R (kc + mc) (nc + ms) EX F (ads ++ new) sk2 (pc2, L, st, τ) (K τ)) : J X M P tb R kc nc EX F ads sk (pc, L, st0, σ) (r0.bind K) := by
  intro ho b hb hq
  obtain ⟨τ, h1, h2⟩ := Option.bind_eq_some_iff.mp hb
  obtain ⟨hd, rfl⟩ := okP_get ho.1 hn (by simp [lenI])
  subst hst
  have hl := ho.2.2.1
  obtain ⟨v1, v2, -⟩ := vOK_of hok
  have hA := nrS_rev (As := As) (st := .inr (some c) :: st) hq.2.2
  have c2 := hC τ h1 (nrS_cons trivial hA.1)
  have ho2 : ∀ new : List Nat, new.length = k → okC M P tb (ads ++ new) sk2 := fun new hne => ⟨ho.1, ho.2.1, by simp [hl, hne, hsk2.1], hsk2.2⟩
  have hq2 : nrP M (pc + lenI (.invokespecial idx), L, st, τ) := ⟨hq.1, hq.2.1, nrS_tail hA.2⟩
  refine ⟨(kk (List.replicate k 0) τ (by simp) h1 (ho2 _ (by simp)) b h2 hq2).1, ?_⟩
  show WZ _ _ _ _ _ _ _ _ _ (emS X ads (As.reverse ++ .inr (some c) :: st)) _
  have e1 : emS X ads (As.reverse ++ .inr (some c) :: st) = (As.map (em X ads)).reverse ++ .ref (ea X ads c) :: emS X ads st := by
    rw [emS_app]
    simp only [emS, List.map_cons, List.map_reverse]
    rfl
  rw [e1]
  refine w_callI hd (ho.2.1.2.2.1 _ (List.mem_of_getElem? hm)) hw (by simpa using hlen) c2 hR (em_sum h8) ?_
  rintro r ws2 ⟨rfl, new, hne, rfl⟩
  have k2 := (kk new τ hne h1 (ho2 _ hne) b h2 hq2).2
  have eL : emL X (ads ++ new) L = emL X ads L := emL_new (by rw [hl]; exact v1)
  have eS : emS X (ads ++ new) st = emS X ads st := emS_new (by rw [hl]; exact v2)
  have k3 : WZ X M R (kc + mc) (nc + ms) EX (F b).2 (pc + 3) (emL X (ads ++ new) L) (emS X (ads ++ new) st) (mkW X (ads ++ new) τ sk2) := k2
  rw [eL, eS] at k3
  exact k3
theorem j_ciN (n j ar : Nat) {N : MM} {idx c k mc ms : Nat} {host : String} {As st0 : List PV} {sk2 : List Sk} {r0 : Option Sg} {K : Sg → Option α} (hn : P[n]? = some (.invokespecial idx, pc, pc2)) (hm : tb.2.2.2.1[j]? = some (idx, N.1, host)) (hw : MWI N ar) (hC : CFA X N ads sk (.inr (some c) :: As) σ k sk2 mc ms r0) (hlen : As.length = ar) (hst : As.reverse ++ .inr (some c) :: st = st0) (hR : RoomOK R N kc nc mc ms) (h8 : st.length ≤ 8) (hok : vOK sk.length L st [] = true) (hsk2 : sk2.length = sk.length + k ∧ sk2.length ≤ 1000)
    (kk : ∀ (new : List Nat) (τ : Sg), new.length = k → r0 = some τ → J X M P tb R (kc + mc) (nc + ms) EX F (ads ++ new) sk2 (pc2, L, st, τ) (K τ)) : J X M P tb R kc nc EX F ads sk (pc, L, st0, σ) (r0.bind K) := by
  intro ho b hb hq
  obtain ⟨τ, h1, h2⟩ := Option.bind_eq_some_iff.mp hb
  obtain ⟨hd, rfl⟩ := okP_get ho.1 hn (by simp [lenI])
  subst hst
  have hl := ho.2.2.1
  obtain ⟨v1, v2, -⟩ := vOK_of hok
  have hA := nrS_rev (As := As) (st := .inr (some c) :: st) hq.2.2
  have c2 := hC τ h1 (nrS_cons trivial hA.1)
  have ho2 : ∀ new : List Nat, new.length = k → okC M P tb (ads ++ new) sk2 := fun new hne => ⟨ho.1, ho.2.1, by simp [hl, hne, hsk2.1], hsk2.2⟩
  have hq2 : nrP M (pc + lenI (.invokespecial idx), L, st, τ) := ⟨hq.1, hq.2.1, nrS_tail hA.2⟩
  refine ⟨(kk (List.replicate k 0) τ (by simp) h1 (ho2 _ (by simp)) b h2 hq2).1, ?_⟩
  show WZ _ _ _ _ _ _ _ _ _ (emS X ads (As.reverse ++ .inr (some c) :: st)) _
  have e1 : emS X ads (As.reverse ++ .inr (some c) :: st) = (As.map (em X ads)).reverse ++ .ref (ea X ads c) :: emS X ads st := by
    rw [emS_app]
    simp only [emS, List.map_cons, List.map_reverse]
    rfl
  rw [e1]
  refine w_callIN hd (ho.2.1.2.2.2.1 _ (List.mem_of_getElem? hm)) hw (by simpa using hlen) c2 hR (em_sum h8) ?_
  rintro r ws2 ⟨rfl, new, hne, rfl⟩
  have k2 := (kk new τ hne h1 (ho2 _ hne) b h2 hq2).2
  have eL : emL X (ads ++ new) L = emL X ads L := emL_new (by rw [hl]; exact v1)
  have eS : emS X (ads ++ new) st = emS X ads st := emS_new (by rw [hl]; exact v2)
  have k3 : WZ X M R (kc + mc) (nc + ms) EX (F b).2 (pc + 3) (emL X (ads ++ new) L) (emS X (ads ++ new) st) (mkW X (ads ++ new) τ sk2) := k2
  rw [eL, eS] at k3
  exact k3
theorem j_vretA (n : Nat) {d k mc ms : Nat} {ads0 new : List Nat} {sk0 : List Sk} (hn : P[n]? = some (.return_, pc, pc2)) (hr : M.2.2.2.1 = none) (hads : ads = ads0 ++ new) (hk : new.length = k) (hsk : sk = sk0) : J X M P tb (rmD d mc ms) mc ms EX (FA X ads0 k sk0 mc ms) ads sk (pc, L, [], σ) (some σ) := by
  intro ho a2 ha hq
  cases ha
  subst hads
  subst hsk
  obtain ⟨hd, rfl⟩ := okP_get ho.1 hn (by simp [lenI])
  refine ⟨trivial, ?_⟩
  intro p e s m args below meth cc H locs ls FF hE hP hD hS hl
  refine W.vret FF.1 FF.2.1 (FF.2.2.2.1.trans hr) (fun t ht hW => ?_) hS.2.2 hd FF.2.2.2.2.2.2.1
  exact ⟨⟨_, _, rfl, ⟨rfl, new, hk, rfl⟩, WD.here FF.2.2.2.2.2.2.2.2.1 FF.2.2.2.2.2.2.2.2.2.1 FF.2.2.2.2.2.2.2.2.2.2 hP hD hS ht hW⟩, hS.F ht⟩
end JB
