/-! rules for longs -/
theorem lvL.stl {ls : Array Slot} {n i : Nat} {L : List (Option Value)} {x : Int64} (h : lv_has ls n ((i, Value.long x) :: (lvx 0 L).filter (fun q => !(q.1 == i) && (!(q.1 == i + 1) && !(q.1 + 1 == i && q.2.category == 2))))) (ho : okS L i = true) : lvL ls n ((L.set i (some (.long x))).set (i + 1) none) := by
  refine ⟨h.1, h.2.1, fun q hq => ?_⟩
  obtain ⟨-, hq2⟩ := (lvx_mem _ 0 q).mp hq
  rw [Nat.sub_zero] at hq2
  have hne1 : q.1 ≠ i + 1 := by
    intro he
    rw [he] at hq2
    rcases Nat.lt_or_ge (i + 1) L.length with h3 | h3
    · rw [List.getElem?_set_self (by simpa using h3)] at hq2; cases hq2
    · rw [List.getElem?_eq_none (by simpa using h3)] at hq2; cases hq2
  rw [List.getElem?_set_ne (fun e => hne1 e.symm)] at hq2
  rcases Nat.decEq q.1 i with hne | he
  · rw [List.getElem?_set_ne (fun e => hne e.symm)] at hq2
    refine h.2.2 q (List.mem_cons_of_mem _ (List.mem_filter.mpr ⟨(lvx_mem L 0 q).mpr ⟨Nat.zero_le _, hq2⟩, ?_⟩))
    have h1 : (q.1 + 1 == i && q.2.category == 2) = false := by
      rcases Nat.decEq (q.1 + 1) i with hn | hn
      · simp [hn]
      · subst hn
        simp only [okS, List.getD_eq_getElem?_getD, hq2, Option.getD_some, beq_iff_eq] at ho
        simp [ho]
    simp [hne, hne1, h1]
  · subst he
    have h2 : q.1 < L.length := by
      rcases Nat.lt_or_ge q.1 L.length with h3 | h3
      · exact h3
      · rw [List.getElem?_eq_none (by simpa using h3)] at hq2; cases hq2
    rw [List.getElem?_set_self h2] at hq2
    have h3 : q = (q.1, Value.long x) := by
      have := Option.some.inj (Option.some.inj hq2)
      cases q; simp_all
    rw [h3]
    exact h.2.2 _ List.mem_cons_self
section RulesLong
variable {X : Cx} {M : MM} {pc : Nat} {L : List (Option Value)} {st : List Value} {ws : va_W} {R : Room} {kc nc : Nat} {EX : EXT} {Z : ZT}
theorem w_lstore_n {k : Fin 4} {i : Nat} {x : Int64} {L2 : List (Option Value)} (hd : decode M.2.1 pc = .ok (.lstore_n k, 1)) (hi : (k : Nat) = i) (hn : i + 1 < M.2.2.1) (ho : okS L i = true) (h2 : (L.set i (some (.long x))).set (i + 1) none = L2) (kk : WZ X M R kc nc EX Z (pc + 1) L2 (st) ws) : WZ X M R kc nc EX Z pc L (.long x :: st) ws := by
  intro p e s m args below meth c H locs ls F hE hP hD hS hl
  subst h2
  exact lv_lstore_n F.1 F.2.1 hd hi hl hn rfl (fun ls2 hl2 => kk p e s m args below meth c H locs ls2 F hE hP hD hS (lvL.stl hl2 ho))
theorem w_lstore {i : Nat} {x : Int64} {L2 : List (Option Value)} (hd : decode M.2.1 pc = .ok (.lstore i, 2)) (hn : i + 1 < M.2.2.1) (ho : okS L i = true) (h2 : (L.set i (some (.long x))).set (i + 1) none = L2) (kk : WZ X M R kc nc EX Z (pc + 2) L2 (st) ws) : WZ X M R kc nc EX Z pc L (.long x :: st) ws := by
  intro p e s m args below meth c H locs ls F hE hP hD hS hl
  subst h2
  exact lv_lstore F.1 F.2.1 hd hl hn rfl (fun ls2 hl2 => kk p e s m args below meth c H locs ls2 F hE hP hD hS (lvL.stl hl2 ho))
theorem WZ.sub {L2 : List (Option Value)} (h : ∀ (i : Nat) (v : Value), L2[i]? = some (some v) → L[i]? = some (some v)) (k : WZ X M R kc nc EX Z pc L2 st ws) : WZ X M R kc nc EX Z pc L st ws := by
  intro p e s m args below meth c H locs ls F hE hP hD hS hl
  refine k p e s m args below meth c H locs ls F hE hP hD hS ⟨hl.1, hl.2.1, fun q hq => hl.2.2 q ((lvx_mem L 0 q).mpr ⟨Nat.zero_le _, ?_⟩)⟩
  obtain ⟨-, h2⟩ := (lvx_mem L2 0 q).mp hq
  exact h _ _ h2
end RulesLong
