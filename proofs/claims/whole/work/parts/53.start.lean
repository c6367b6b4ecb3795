/-! THE START: from the law's entry to its loop -/
def sTm (i : Nat) : Term := .string (sOwn.getD i "") (sIdx.getD i 0)
def sVal (i : Nat) : Term := .field (sTm i) "java/lang/String" "value" "[B"
def sBlk (j : Nat) : List Cond := [Cond.exactly (sTm j) "java/lang/String", Cond.eq (.field (sTm j) "java/lang/String" "coder" "B") (.int 0), Cond.arrayOf (sVal j) .byte, Cond.eq (.length (sVal j)) (.int (Int32.ofNat (lenS.getD j 0)))] ++ (List.range (lenS.getD j 0)).map (fun i => Cond.eq (.elem (sVal j) (.int (Int32.ofNat i))) (.int ((bytS.getD j []).getD i 0))) ++ (List.range j).map (fun i => Cond.not (Cond.eq (sTm i) (sTm j)))
set_option maxRecDepth 100000 in
theorem nflat : flatC narrow_1 = (flatC narrow_1).take 7 ++ (List.range nS).flatMap sBlk := by decide +kernel
theorem nblk {j : Nat} (hj : j < nS) {w : Cond} (h : w ∈ sBlk j) : w ∈ flatC narrow_1 := by
  rw [nflat]
  exact List.mem_append_right _ (List.mem_flatMap.mpr ⟨j, List.mem_range.mpr hj, h⟩)
theorem lt_of {w : Cond} {i : Nat} (h : tables_1[i]? = some w) : w ∈ lw_tbl := List.mem_append_right _ (List.mem_of_getElem? h)
theorem tw_lt {w : Cond} (h : w ∈ TW) : w ∈ lw_tbl := (List.mem_filter.mp h).1
theorem clInst {ci : Nat} {w : vw_C} (h : vwCl[ci]? = some w) : Cond.instantiable w.1 w.2.2 ∈ lw_tbl := by
  match ci, h with
  | 0, h => cases h; exact lt_of (i := 318) (by decide +kernel)
  | 1, h => cases h; exact lt_of (i := 36) (by decide +kernel)
  | 2, h => cases h; exact lt_of (i := 81) (by decide +kernel)
  | 3, h => cases h; exact lt_of (i := 235) (by decide +kernel)
  | 4, h => cases h; exact lt_of (i := 285) (by decide +kernel)
  | 5, h => cases h; exact lt_of (i := 382) (by decide +kernel)
  | 6, h => cases h; exact lt_of (i := 119) (by decide +kernel)
  | 7, h => cases h; exact lt_of (i := 258) (by decide +kernel)
  | 8, h => cases h; exact lt_of (i := 356) (by decide +kernel)
  | 9, h => cases h; exact lt_of (i := 30) (by decide +kernel)
  | 10, h => cases h; exact lt_of (i := 22) (by decide +kernel)
  | 11, h => cases h; exact lt_of (i := 1181) (by decide +kernel)
  | k + 12, h => simp [vwCl] at h
theorem start_arr {s : State} {args : Array Value} {ty : FieldType} (h : (Cond.arrayClass ty).before args s = true) (hty : ∀ k, ty ≠ .object k) : ∃ cA : ClassId, ArrOfT s cA ty ∧ s.vm.findClass ("[" ++ ty.toString) = some cA := by
  obtain ⟨cA, kA, comp, h1, h2, h3⟩ := Cond.arrayClass_spec h
  exact ⟨cA, fun n z => ⟨fun k h => (by cases h), kA, h2, comp, h3⟩, h1⟩
theorem start_K {s : State} {args : Array Value} (hts : ∀ w ∈ lw_tbl, w.before args s = true) : ∃ (D : va_G) (cA : ClassId × ClassId × ClassId), va_K D vwCl [(cA.1, .int), (cA.2.1, .byte), (cA.2.2, .boolean)] s := by
  have h0 : ∀ ci : Nat, ∃ q : ClassId × (Nat → Nat), ∀ w, vwCl[ci]? = some w → u_Kn s w.1 w.2.1 w.2.2 q.1 q.2 := by
    intro ci
    by_cases hc : ∃ w, vwCl[ci]? = some w
    · obtain ⟨w, hw⟩ := hc
      obtain ⟨cC, iS, hk⟩ := u_known hts (fun u hu => tw_lt ((clAll hw).1 u hu)) (hts _ (clInst hw))
      exact ⟨(cC, iS), fun w' hw' => by rw [hw] at hw'; cases hw'; exact hk⟩
    · exact ⟨(0, fun _ => 0), fun w hw => absurd ⟨w, hw⟩ hc⟩
  obtain ⟨D, hD⟩ := Classical.axiomOfChoice h0
  obtain ⟨c0, a0, r0⟩ := start_arr (hts _ (tw_lt (acw_all 0))) (fun k h => by cases h)
  obtain ⟨c1, a1, r1⟩ := start_arr (hts _ (tw_lt (acw_all 1))) (fun k h => by cases h)
  obtain ⟨c2, a2, r2⟩ := start_arr (hts _ (tw_lt (acw_all 2))) (fun k h => by cases h)
  refine ⟨(fun ci => (D ci).1, fun ci => (D ci).2), (c0, c1, c2), fun ci w hw => hD ci w hw, fun k q hk => ?_⟩
  match k, hk with
  | 0, hk => cases hk; exact ⟨a0, r0⟩
  | 1, hk => cases hk; exact ⟨a1, r1⟩
  | 2, hk => cases hk; exact ⟨a2, r2⟩
  | k + 3, hk => simp at hk
theorem start_S {s : State} {args : Array Value} (hn : ∀ w ∈ flatC narrow_1, w.before args s = true) {A : Nat → Prop} (hA : ∀ a : Nat, a < s.heap.size → ¬ A a) : ∃ adK adV : Nat → Nat, vk_S nS lenS bytS adK adV A s s.heap ∧ ∀ i : Nat, i < nS → (sTm i).eval args s none [] s = some (.ref (adK i)) := by
  refine vk_Sof (tm := sTm) (fun i hi => Nat.lt_trans (sb_all i hi).2.1 (by decide)) (fun i hi => hn _ (nblk hi (by simp [sBlk]))) (fun i hi => hn _ (nblk hi (by simp [sBlk]))) (fun i hi => hn _ (nblk hi (by simp [sBlk, sVal]))) (fun i hi => hn _ (nblk hi (by simp [sBlk, sVal])))
    (fun i hi j hj => hn _ (nblk hi (List.mem_append_left _ (List.mem_append_right _ (List.mem_map.mpr ⟨j, List.mem_range.mpr hj, rfl⟩))))) (fun i j hi hj hij => ?_) hA
  rcases Nat.lt_or_ge i j with h | h
  · exact Or.inl (hn _ (nblk hj (List.mem_append_right _ (List.mem_map.mpr ⟨i, List.mem_range.mpr h, rfl⟩))))
  · exact Or.inr (hn _ (nblk hi (List.mem_append_right _ (List.mem_map.mpr ⟨j, List.mem_range.mpr (by omega), rfl⟩))))
def strW : List Nat := [663, 727, 1389, 1396, 1397, 1398, 1399, 1400, 1401, 1406, 1407, 1408, 1409, 1410, 1411, 1412, 1413, 1414, 1415, 1420, 1421, 1426, 1431, 1432]
set_option maxRecDepth 100000 in
theorem strW_ok : ∀ i : Nat, i < nS → tables_1[strW.getD i 0]? = some (Cond.stringRef (sOwn.getD i "") (sIdx.getD i 0) (sTx.getD i "")) := by decide +kernel
set_option maxRecDepth 100000 in
theorem nestL_in : ∀ q ∈ nestL, Cond.methodLinkNest q.1 q.2.1 q.2.2.1 q.2.2.2 ∈ tables_1 := by decide +kernel
theorem start_X {s : State} {b L : Nat} {xs : Nat → Int32} (l : Launch) {args : Array Value} (hts : ∀ w ∈ lw_tbl, w.before args s = true) (hn : ∀ w ∈ flatC narrow_1, w.before args s = true) : ∃ X : Cx, X.1 = l ∧ X.2.2.2.1 = s.heap.size ∧ X.2.2.2.2.2 10000 = b ∧ va_K X.2.1 vwCl (tyL X) s ∧ SD X s s.heap := by
  obtain ⟨D, cA, hK⟩ := start_K hts
  have hA : ∀ a : Nat, a < s.heap.size → ¬ (fun q => s.heap.size ≤ q) a := fun a h => Nat.not_le.mpr h
  obtain ⟨adK, adV, hS, hE⟩ := start_S hn hA
  have hZ := va_Zqof (C := fmC) (n := fmN) (d := fmD) (hts _ (lt_of (i := 689) (by decide +kernel))) (hts _ (lt_of (i := 17) (by decide +kernel))) (hn _ (List.mem_of_getElem? (i := 3) (by decide +kernel))) hA
  have hC := va_Zof (C := "java/lang/String") (n := "COMPACT_STRINGS") (d := "Z") (v := .int 1) (hts _ (lt_of (i := 673) (by decide +kernel))) (hts _ (lt_of (i := 15) (by decide +kernel))) (va_eqt (hn _ (List.mem_of_getElem? (i := 2) (by decide +kernel)))) hA
  have hZ2 : ∃ t : Nat, va_Z fmC fmN fmD .null (fun q => s.heap.size ≤ q) s s.heap ∨ va_Z fmC fmN fmD (.ref t) (fun q => s.heap.size ≤ q) s s.heap := by
    rcases hZ with h | ⟨t, h⟩
    · exact ⟨0, Or.inl h⟩
    · exact ⟨t, Or.inr h⟩
  obtain ⟨t, ht⟩ := hZ2
  refine ⟨(l, D, cA, s.heap.size, adK, fun k => if k = 9999 then t else if k = 10000 then b else adV k), rfl, rfl, rfl, hK, fun i hi => vk_R.of (hts _ (lt_of (strW_ok i hi))) (hE i hi), ⟨fun i hi => ?_, hS.2⟩, hC, fun q hq => va_Nw.of rfl (hts _ (List.mem_append_right _ (nestL_in q hq))), ht⟩
  have hi2 : i < 24 := hi
  have e : (if i = 9999 then t else if i = 10000 then b else adV i) = adV i := by rw [if_neg (by omega), if_neg (by omega)]
  show _ ∧ _ ∧ va_OF _ _ _ (.ref (if i = 9999 then t else if i = 10000 then b else adV i)) _ _ _ _ ∧ va_T .byte (if i = 9999 then t else if i = 10000 then b else adV i) _ _ _ _ _
  rw [e]
  exact hS.1 i hi
