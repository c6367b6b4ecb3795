/-! branches by the ite of a result (c: an Option; t: a value); calls whose result is a plain value -/
section JI
variable {α β : Type} {X : Cx} {M : MM} {P : PG} {tb : TB} {R : Room} {kc nc : Nat} {EX : EXT} {F : α → Prop × ZT} {ads : List Nat} {sk : List Sk} {L : List (Option PV)} {st : List PV} {σ : Sg} {pc pc2 : Nat}
theorem jc_icmp_eq (n : Nat) {off : Int} {tgt : Nat} {x y : Int} {r1 r2 : Option α} (hn : P[n]? = some (.if_icmp .eq off, pc, pc2)) (ht : (pc : Int) + off = (tgt : Int)) (k1 : x = y → J X M P tb R kc nc EX F ads sk (tgt, L, st, σ) r1) (k2 : ¬ (x = y) → J X M P tb R kc nc EX F ads sk (pc2, L, st, σ) r2) : J X M P tb R kc nc EX F ads sk (pc, L, (.inl y :: .inl x :: st), σ) (if x = y then r1 else r2) := by
  refine jb_icmp n (x = y) hn ht Iff.rfl (fun h => ?_) (fun h => ?_)
  · rw [if_pos h]; exact k1 h
  · rw [if_neg h]; exact k2 h
theorem jt_icmp_eq (n : Nat) {off : Int} {tgt : Nat} {x y : Int} {r1 r2 : α} (hn : P[n]? = some (.if_icmp .eq off, pc, pc2)) (ht : (pc : Int) + off = (tgt : Int)) (k1 : x = y → J X M P tb R kc nc EX F ads sk (tgt, L, st, σ) (some r1)) (k2 : ¬ (x = y) → J X M P tb R kc nc EX F ads sk (pc2, L, st, σ) (some r2)) : J X M P tb R kc nc EX F ads sk (pc, L, (.inl y :: .inl x :: st), σ) (some (if x = y then r1 else r2)) := by
  refine jb_icmp n (x = y) hn ht Iff.rfl (fun h => ?_) (fun h => ?_)
  · rw [if_pos h]; exact k1 h
  · rw [if_neg h]; exact k2 h
theorem jc_icmp_ne (n : Nat) {off : Int} {tgt : Nat} {x y : Int} {r1 r2 : Option α} (hn : P[n]? = some (.if_icmp .ne off, pc, pc2)) (ht : (pc : Int) + off = (tgt : Int)) (k1 : x = y → J X M P tb R kc nc EX F ads sk (pc2, L, st, σ) r1) (k2 : ¬ (x = y) → J X M P tb R kc nc EX F ads sk (tgt, L, st, σ) r2) : J X M P tb R kc nc EX F ads sk (pc, L, (.inl y :: .inl x :: st), σ) (if x = y then r1 else r2) := by
  refine jb_icmp n (¬ x = y) hn ht Iff.rfl (fun h => ?_) (fun h => ?_)
  · rw [if_neg h]; exact k2 h
  · rw [if_pos (Decidable.of_not_not h)]; exact k1 (Decidable.of_not_not h)
theorem jt_icmp_ne (n : Nat) {off : Int} {tgt : Nat} {x y : Int} {r1 r2 : α} (hn : P[n]? = some (.if_icmp .ne off, pc, pc2)) (ht : (pc : Int) + off = (tgt : Int)) (k1 : x = y → J X M P tb R kc nc EX F ads sk (pc2, L, st, σ) (some r1)) (k2 : ¬ (x = y) → J X M P tb R kc nc EX F ads sk (tgt, L, st, σ) (some r2)) : J X M P tb R kc nc EX F ads sk (pc, L, (.inl y :: .inl x :: st), σ) (some (if x = y then r1 else r2)) := by
  refine jb_icmp n (¬ x = y) hn ht Iff.rfl (fun h => ?_) (fun h => ?_)
  · rw [if_neg h]; exact k2 h
  · rw [if_pos (Decidable.of_not_not h)]; exact k1 (Decidable.of_not_not h)
theorem jc_icmp_lt (n : Nat) {off : Int} {tgt : Nat} {x y : Int} {r1 r2 : Option α} (hn : P[n]? = some (.if_icmp .lt off, pc, pc2)) (ht : (pc : Int) + off = (tgt : Int)) (k1 : x < y → J X M P tb R kc nc EX F ads sk (tgt, L, st, σ) r1) (k2 : ¬ (x < y) → J X M P tb R kc nc EX F ads sk (pc2, L, st, σ) r2) : J X M P tb R kc nc EX F ads sk (pc, L, (.inl y :: .inl x :: st), σ) (if x < y then r1 else r2) := by
  refine jb_icmp n (x < y) hn ht Iff.rfl (fun h => ?_) (fun h => ?_)
  · rw [if_pos h]; exact k1 h
  · rw [if_neg h]; exact k2 h
theorem jt_icmp_lt (n : Nat) {off : Int} {tgt : Nat} {x y : Int} {r1 r2 : α} (hn : P[n]? = some (.if_icmp .lt off, pc, pc2)) (ht : (pc : Int) + off = (tgt : Int)) (k1 : x < y → J X M P tb R kc nc EX F ads sk (tgt, L, st, σ) (some r1)) (k2 : ¬ (x < y) → J X M P tb R kc nc EX F ads sk (pc2, L, st, σ) (some r2)) : J X M P tb R kc nc EX F ads sk (pc, L, (.inl y :: .inl x :: st), σ) (some (if x < y then r1 else r2)) := by
  refine jb_icmp n (x < y) hn ht Iff.rfl (fun h => ?_) (fun h => ?_)
  · rw [if_pos h]; exact k1 h
  · rw [if_neg h]; exact k2 h
theorem jc_icmp_ge (n : Nat) {off : Int} {tgt : Nat} {x y : Int} {r1 r2 : Option α} (hn : P[n]? = some (.if_icmp .ge off, pc, pc2)) (ht : (pc : Int) + off = (tgt : Int)) (k1 : x < y → J X M P tb R kc nc EX F ads sk (pc2, L, st, σ) r1) (k2 : ¬ (x < y) → J X M P tb R kc nc EX F ads sk (tgt, L, st, σ) r2) : J X M P tb R kc nc EX F ads sk (pc, L, (.inl y :: .inl x :: st), σ) (if x < y then r1 else r2) := by
  refine jb_icmp n (y ≤ x) hn ht Iff.rfl (fun h => ?_) (fun h => ?_)
  · rw [if_neg (Int.not_lt.mpr h)]; exact k2 (Int.not_lt.mpr h)
  · rw [if_pos (Int.not_le.mp h)]; exact k1 (Int.not_le.mp h)
theorem jt_icmp_ge (n : Nat) {off : Int} {tgt : Nat} {x y : Int} {r1 r2 : α} (hn : P[n]? = some (.if_icmp .ge off, pc, pc2)) (ht : (pc : Int) + off = (tgt : Int)) (k1 : x < y → J X M P tb R kc nc EX F ads sk (pc2, L, st, σ) (some r1)) (k2 : ¬ (x < y) → J X M P tb R kc nc EX F ads sk (tgt, L, st, σ) (some r2)) : J X M P tb R kc nc EX F ads sk (pc, L, (.inl y :: .inl x :: st), σ) (some (if x < y then r1 else r2)) := by
  refine jb_icmp n (y ≤ x) hn ht Iff.rfl (fun h => ?_) (fun h => ?_)
  · rw [if_neg (Int.not_lt.mpr h)]; exact k2 (Int.not_lt.mpr h)
  · rw [if_pos (Int.not_le.mp h)]; exact k1 (Int.not_le.mp h)
theorem jc_icmp_gt (n : Nat) {off : Int} {tgt : Nat} {x y : Int} {r1 r2 : Option α} (hn : P[n]? = some (.if_icmp .gt off, pc, pc2)) (ht : (pc : Int) + off = (tgt : Int)) (k1 : y < x → J X M P tb R kc nc EX F ads sk (tgt, L, st, σ) r1) (k2 : ¬ (y < x) → J X M P tb R kc nc EX F ads sk (pc2, L, st, σ) r2) : J X M P tb R kc nc EX F ads sk (pc, L, (.inl y :: .inl x :: st), σ) (if y < x then r1 else r2) := by
  refine jb_icmp n (y < x) hn ht Iff.rfl (fun h => ?_) (fun h => ?_)
  · rw [if_pos h]; exact k1 h
  · rw [if_neg h]; exact k2 h
theorem jt_icmp_gt (n : Nat) {off : Int} {tgt : Nat} {x y : Int} {r1 r2 : α} (hn : P[n]? = some (.if_icmp .gt off, pc, pc2)) (ht : (pc : Int) + off = (tgt : Int)) (k1 : y < x → J X M P tb R kc nc EX F ads sk (tgt, L, st, σ) (some r1)) (k2 : ¬ (y < x) → J X M P tb R kc nc EX F ads sk (pc2, L, st, σ) (some r2)) : J X M P tb R kc nc EX F ads sk (pc, L, (.inl y :: .inl x :: st), σ) (some (if y < x then r1 else r2)) := by
  refine jb_icmp n (y < x) hn ht Iff.rfl (fun h => ?_) (fun h => ?_)
  · rw [if_pos h]; exact k1 h
  · rw [if_neg h]; exact k2 h
theorem jc_icmp_le (n : Nat) {off : Int} {tgt : Nat} {x y : Int} {r1 r2 : Option α} (hn : P[n]? = some (.if_icmp .le off, pc, pc2)) (ht : (pc : Int) + off = (tgt : Int)) (k1 : y < x → J X M P tb R kc nc EX F ads sk (pc2, L, st, σ) r1) (k2 : ¬ (y < x) → J X M P tb R kc nc EX F ads sk (tgt, L, st, σ) r2) : J X M P tb R kc nc EX F ads sk (pc, L, (.inl y :: .inl x :: st), σ) (if y < x then r1 else r2) := by
  refine jb_icmp n (x ≤ y) hn ht Iff.rfl (fun h => ?_) (fun h => ?_)
  · rw [if_neg (Int.not_lt.mpr h)]; exact k2 (Int.not_lt.mpr h)
  · rw [if_pos (Int.not_le.mp h)]; exact k1 (Int.not_le.mp h)
theorem jt_icmp_le (n : Nat) {off : Int} {tgt : Nat} {x y : Int} {r1 r2 : α} (hn : P[n]? = some (.if_icmp .le off, pc, pc2)) (ht : (pc : Int) + off = (tgt : Int)) (k1 : y < x → J X M P tb R kc nc EX F ads sk (pc2, L, st, σ) (some r1)) (k2 : ¬ (y < x) → J X M P tb R kc nc EX F ads sk (tgt, L, st, σ) (some r2)) : J X M P tb R kc nc EX F ads sk (pc, L, (.inl y :: .inl x :: st), σ) (some (if y < x then r1 else r2)) := by
  refine jb_icmp n (x ≤ y) hn ht Iff.rfl (fun h => ?_) (fun h => ?_)
  · rw [if_neg (Int.not_lt.mpr h)]; exact k2 (Int.not_lt.mpr h)
  · rw [if_pos (Int.not_le.mp h)]; exact k1 (Int.not_le.mp h)
theorem jc_if_eq (n : Nat) {off : Int} {tgt : Nat} {x : Int} {r1 r2 : Option α} (hn : P[n]? = some (.ifCond .eq off, pc, pc2)) (ht : (pc : Int) + off = (tgt : Int)) (k1 : x = 0 → J X M P tb R kc nc EX F ads sk (tgt, L, st, σ) r1) (k2 : ¬ (x = 0) → J X M P tb R kc nc EX F ads sk (pc2, L, st, σ) r2) : J X M P tb R kc nc EX F ads sk (pc, L, (.inl x :: st), σ) (if x = 0 then r1 else r2) := by
  refine jb_if n (x = 0) hn ht Iff.rfl (fun h => ?_) (fun h => ?_)
  · rw [if_pos h]; exact k1 h
  · rw [if_neg h]; exact k2 h
theorem jt_if_eq (n : Nat) {off : Int} {tgt : Nat} {x : Int} {r1 r2 : α} (hn : P[n]? = some (.ifCond .eq off, pc, pc2)) (ht : (pc : Int) + off = (tgt : Int)) (k1 : x = 0 → J X M P tb R kc nc EX F ads sk (tgt, L, st, σ) (some r1)) (k2 : ¬ (x = 0) → J X M P tb R kc nc EX F ads sk (pc2, L, st, σ) (some r2)) : J X M P tb R kc nc EX F ads sk (pc, L, (.inl x :: st), σ) (some (if x = 0 then r1 else r2)) := by
  refine jb_if n (x = 0) hn ht Iff.rfl (fun h => ?_) (fun h => ?_)
  · rw [if_pos h]; exact k1 h
  · rw [if_neg h]; exact k2 h
theorem jc_if_ne (n : Nat) {off : Int} {tgt : Nat} {x : Int} {r1 r2 : Option α} (hn : P[n]? = some (.ifCond .ne off, pc, pc2)) (ht : (pc : Int) + off = (tgt : Int)) (k1 : x = 0 → J X M P tb R kc nc EX F ads sk (pc2, L, st, σ) r1) (k2 : ¬ (x = 0) → J X M P tb R kc nc EX F ads sk (tgt, L, st, σ) r2) : J X M P tb R kc nc EX F ads sk (pc, L, (.inl x :: st), σ) (if x = 0 then r1 else r2) := by
  refine jb_if n (¬ x = 0) hn ht Iff.rfl (fun h => ?_) (fun h => ?_)
  · rw [if_neg h]; exact k2 h
  · rw [if_pos (Decidable.of_not_not h)]; exact k1 (Decidable.of_not_not h)
theorem jt_if_ne (n : Nat) {off : Int} {tgt : Nat} {x : Int} {r1 r2 : α} (hn : P[n]? = some (.ifCond .ne off, pc, pc2)) (ht : (pc : Int) + off = (tgt : Int)) (k1 : x = 0 → J X M P tb R kc nc EX F ads sk (pc2, L, st, σ) (some r1)) (k2 : ¬ (x = 0) → J X M P tb R kc nc EX F ads sk (tgt, L, st, σ) (some r2)) : J X M P tb R kc nc EX F ads sk (pc, L, (.inl x :: st), σ) (some (if x = 0 then r1 else r2)) := by
  refine jb_if n (¬ x = 0) hn ht Iff.rfl (fun h => ?_) (fun h => ?_)
  · rw [if_neg h]; exact k2 h
  · rw [if_pos (Decidable.of_not_not h)]; exact k1 (Decidable.of_not_not h)
theorem jc_if_lt (n : Nat) {off : Int} {tgt : Nat} {x : Int} {r1 r2 : Option α} (hn : P[n]? = some (.ifCond .lt off, pc, pc2)) (ht : (pc : Int) + off = (tgt : Int)) (k1 : x < 0 → J X M P tb R kc nc EX F ads sk (tgt, L, st, σ) r1) (k2 : ¬ (x < 0) → J X M P tb R kc nc EX F ads sk (pc2, L, st, σ) r2) : J X M P tb R kc nc EX F ads sk (pc, L, (.inl x :: st), σ) (if x < 0 then r1 else r2) := by
  refine jb_if n (x < 0) hn ht Iff.rfl (fun h => ?_) (fun h => ?_)
  · rw [if_pos h]; exact k1 h
  · rw [if_neg h]; exact k2 h
theorem jt_if_lt (n : Nat) {off : Int} {tgt : Nat} {x : Int} {r1 r2 : α} (hn : P[n]? = some (.ifCond .lt off, pc, pc2)) (ht : (pc : Int) + off = (tgt : Int)) (k1 : x < 0 → J X M P tb R kc nc EX F ads sk (tgt, L, st, σ) (some r1)) (k2 : ¬ (x < 0) → J X M P tb R kc nc EX F ads sk (pc2, L, st, σ) (some r2)) : J X M P tb R kc nc EX F ads sk (pc, L, (.inl x :: st), σ) (some (if x < 0 then r1 else r2)) := by
  refine jb_if n (x < 0) hn ht Iff.rfl (fun h => ?_) (fun h => ?_)
  · rw [if_pos h]; exact k1 h
  · rw [if_neg h]; exact k2 h
theorem jc_if_ge (n : Nat) {off : Int} {tgt : Nat} {x : Int} {r1 r2 : Option α} (hn : P[n]? = some (.ifCond .ge off, pc, pc2)) (ht : (pc : Int) + off = (tgt : Int)) (k1 : x < 0 → J X M P tb R kc nc EX F ads sk (pc2, L, st, σ) r1) (k2 : ¬ (x < 0) → J X M P tb R kc nc EX F ads sk (tgt, L, st, σ) r2) : J X M P tb R kc nc EX F ads sk (pc, L, (.inl x :: st), σ) (if x < 0 then r1 else r2) := by
  refine jb_if n (0 ≤ x) hn ht Iff.rfl (fun h => ?_) (fun h => ?_)
  · rw [if_neg (Int.not_lt.mpr h)]; exact k2 (Int.not_lt.mpr h)
  · rw [if_pos (Int.not_le.mp h)]; exact k1 (Int.not_le.mp h)
theorem jt_if_ge (n : Nat) {off : Int} {tgt : Nat} {x : Int} {r1 r2 : α} (hn : P[n]? = some (.ifCond .ge off, pc, pc2)) (ht : (pc : Int) + off = (tgt : Int)) (k1 : x < 0 → J X M P tb R kc nc EX F ads sk (pc2, L, st, σ) (some r1)) (k2 : ¬ (x < 0) → J X M P tb R kc nc EX F ads sk (tgt, L, st, σ) (some r2)) : J X M P tb R kc nc EX F ads sk (pc, L, (.inl x :: st), σ) (some (if x < 0 then r1 else r2)) := by
  refine jb_if n (0 ≤ x) hn ht Iff.rfl (fun h => ?_) (fun h => ?_)
  · rw [if_neg (Int.not_lt.mpr h)]; exact k2 (Int.not_lt.mpr h)
  · rw [if_pos (Int.not_le.mp h)]; exact k1 (Int.not_le.mp h)
theorem jc_if_gt (n : Nat) {off : Int} {tgt : Nat} {x : Int} {r1 r2 : Option α} (hn : P[n]? = some (.ifCond .gt off, pc, pc2)) (ht : (pc : Int) + off = (tgt : Int)) (k1 : 0 < x → J X M P tb R kc nc EX F ads sk (tgt, L, st, σ) r1) (k2 : ¬ (0 < x) → J X M P tb R kc nc EX F ads sk (pc2, L, st, σ) r2) : J X M P tb R kc nc EX F ads sk (pc, L, (.inl x :: st), σ) (if 0 < x then r1 else r2) := by
  refine jb_if n (0 < x) hn ht Iff.rfl (fun h => ?_) (fun h => ?_)
  · rw [if_pos h]; exact k1 h
  · rw [if_neg h]; exact k2 h
theorem jt_if_gt (n : Nat) {off : Int} {tgt : Nat} {x : Int} {r1 r2 : α} (hn : P[n]? = some (.ifCond .gt off, pc, pc2)) (ht : (pc : Int) + off = (tgt : Int)) (k1 : 0 < x → J X M P tb R kc nc EX F ads sk (tgt, L, st, σ) (some r1)) (k2 : ¬ (0 < x) → J X M P tb R kc nc EX F ads sk (pc2, L, st, σ) (some r2)) : J X M P tb R kc nc EX F ads sk (pc, L, (.inl x :: st), σ) (some (if 0 < x then r1 else r2)) := by
  refine jb_if n (0 < x) hn ht Iff.rfl (fun h => ?_) (fun h => ?_)
  · rw [if_pos h]; exact k1 h
  · rw [if_neg h]; exact k2 h
theorem jc_if_le (n : Nat) {off : Int} {tgt : Nat} {x : Int} {r1 r2 : Option α} (hn : P[n]? = some (.ifCond .le off, pc, pc2)) (ht : (pc : Int) + off = (tgt : Int)) (k1 : 0 < x → J X M P tb R kc nc EX F ads sk (pc2, L, st, σ) r1) (k2 : ¬ (0 < x) → J X M P tb R kc nc EX F ads sk (tgt, L, st, σ) r2) : J X M P tb R kc nc EX F ads sk (pc, L, (.inl x :: st), σ) (if 0 < x then r1 else r2) := by
  refine jb_if n (x ≤ 0) hn ht Iff.rfl (fun h => ?_) (fun h => ?_)
  · rw [if_neg (Int.not_lt.mpr h)]; exact k2 (Int.not_lt.mpr h)
  · rw [if_pos (Int.not_le.mp h)]; exact k1 (Int.not_le.mp h)
theorem jt_if_le (n : Nat) {off : Int} {tgt : Nat} {x : Int} {r1 r2 : α} (hn : P[n]? = some (.ifCond .le off, pc, pc2)) (ht : (pc : Int) + off = (tgt : Int)) (k1 : 0 < x → J X M P tb R kc nc EX F ads sk (pc2, L, st, σ) (some r1)) (k2 : ¬ (0 < x) → J X M P tb R kc nc EX F ads sk (tgt, L, st, σ) (some r2)) : J X M P tb R kc nc EX F ads sk (pc, L, (.inl x :: st), σ) (some (if 0 < x then r1 else r2)) := by
  refine jb_if n (x ≤ 0) hn ht Iff.rfl (fun h => ?_) (fun h => ?_)
  · rw [if_neg (Int.not_lt.mpr h)]; exact k2 (Int.not_lt.mpr h)
  · rw [if_pos (Int.not_le.mp h)]; exact k1 (Int.not_le.mp h)
theorem jc_ite {ps : PS} {c : Prop} [Decidable c] {r1 r2 : Option α} (k1 : c → J X M P tb R kc nc EX F ads sk ps r1) (k2 : ¬ c → J X M P tb R kc nc EX F ads sk ps r2) : J X M P tb R kc nc EX F ads sk ps (if c then r1 else r2) := by
  by_cases h : c
  · rw [if_pos h]; exact k1 h
  · rw [if_neg h]; exact k2 h
theorem jt_ite {ps : PS} {c : Prop} [Decidable c] {r1 r2 : α} (k1 : c → J X M P tb R kc nc EX F ads sk ps (some r1)) (k2 : ¬ c → J X M P tb R kc nc EX F ads sk ps (some r2)) : J X M P tb R kc nc EX F ads sk ps (some (if c then r1 else r2)) := by
  by_cases h : c
  · rw [if_pos h]; exact k1 h
  · rw [if_neg h]; exact k2 h
theorem rok {d : Nat} {N : MM} (h1 : Nat.ble (N.2.2.2.2 + 1) d = true) (h2 : Nat.ble (8 + (N.2.2.1 + 11) + 64 * N.2.2.2.2) (64 * d) = true) : RoomOK (rmD d 0 0) N 0 0 0 0 :=
  ⟨⟨Nat.le_of_ble_eq_true h1, Nat.le_of_ble_eq_true h2⟩, Nat.le_refl 0, Nat.le_refl 0⟩
theorem rokS {d : Nat} {N : MM} (h1 : N.2.2.2.2 + 1 ≤ d) (h2 : N.2.2.1 ≤ 45) : RoomOK (rmD d 0 0) N 0 0 0 0 := by
  refine ⟨⟨h1, ?_⟩, Nat.le_refl 0, Nat.le_refl 0⟩
  show 8 + (N.2.2.1 + 11) + 64 * N.2.2.2.2 ≤ 64 * d
  omega
theorem rokC {d : Nat} (h1 : Nat.ble 1 d = true) (h2 : Nat.ble (0 + (nativeFrameWords "java/lang/System" "arraycopy" 5 + 11)) 64 = true) : 1 ≤ (rmD d 0 0).frames ∧ 0 + (nativeFrameWords "java/lang/System" "arraycopy" 5 + 11) ≤ (rmD d 0 0).locals := by
  have h1 := Nat.le_of_ble_eq_true h1
  have h2 := Nat.le_of_ble_eq_true h2
  refine ⟨h1, ?_⟩
  show _ ≤ 64 * d
  omega
theorem j_cvT (n j ar : Nat) {N : MM} {idx c ci : Nat} {fs : List (Option (Option Nat))} {q : vw_C} {As st0 : List PV} {w : β → Option PV × Sg} {a : β} {res : Option α} (hn : P[n]? = some (.invokevirtual idx, pc, pc2)) (hm : tb.2.2.1[j]? = some (idx, N.1)) (hw : MWV N ar) (hs : sk[c]? = some (.inl (ci, fs))) (hcl : vwCl[ci]? = some q) (hcn : q.1 = N.1.cls) (hC : CF X N ads sk (.inr (some c) :: As) σ w (some a)) (hlen : As.length = ar) (hst : As.reverse ++ .inr (some c) :: st = st0) (hR : RoomOK R N kc nc 0 0) (h8 : st.length ≤ 8)
    (k : nrR N (w a).1 → J X M P tb R kc nc EX F ads sk (pc2, L, (w a).1.toList ++ st, (w a).2) res) : J X M P tb R kc nc EX F ads sk (pc, L, st0, σ) res :=
  j_cv (K := fun _ => res) n j ar hn hm hw hs hcl hcn hC hlen hst hR h8 (fun b hb hr => by cases hb; exact k hr)
theorem j_csT (n j ar : Nat) {N : MM} {idx : Nat} {As st0 : List PV} {w : β → Option PV × Sg} {a : β} {res : Option α} (hn : P[n]? = some (.invokestatic idx, pc, pc2)) (hm : tb.2.2.1[j]? = some (idx, N.1)) (hw : MWS N ar) (hC : CF X N ads sk As σ w (some a)) (hlen : As.length = ar) (hst : As.reverse ++ st = st0) (hR : RoomOK R N kc nc 0 0) (h8 : st.length ≤ 8)
    (k : nrR N (w a).1 → J X M P tb R kc nc EX F ads sk (pc2, L, (w a).1.toList ++ st, (w a).2) res) : J X M P tb R kc nc EX F ads sk (pc, L, st0, σ) res :=
  j_cs (K := fun _ => res) n j ar hn hm hw hC hlen hst hR h8 (fun b hb hr => by cases hb; exact k hr)
theorem j_csNT (n j ar : Nat) {N : MM} {idx : Nat} {host : String} {As st0 : List PV} {w : β → Option PV × Sg} {a : β} {res : Option α} (hn : P[n]? = some (.invokestatic idx, pc, pc2)) (hm : tb.2.2.2.1[j]? = some (idx, N.1, host)) (hw : MWS N ar) (hC : CF X N ads sk As σ w (some a)) (hlen : As.length = ar) (hst : As.reverse ++ st = st0) (hR : RoomOK R N kc nc 0 0) (h8 : st.length ≤ 8)
    (k : nrR N (w a).1 → J X M P tb R kc nc EX F ads sk (pc2, L, (w a).1.toList ++ st, (w a).2) res) : J X M P tb R kc nc EX F ads sk (pc, L, st0, σ) res :=
  j_csN (K := fun _ => res) n j ar hn hm hw hC hlen hst hR h8 (fun b hb hr => by cases hb; exact k hr)
/-- reads and writes whose place is plainly within the array -/
theorem j_ald0 (n : Nat) {c N : Nat} {i : Int} {res : Option α} (hn : P[n]? = some (.iaload, pc, pc2)) (hs : sk[c]? = some (.inr (0, N))) (hi : 0 ≤ i ∧ i < (N : Int)) (kk : J X M P tb R kc nc EX F ads sk (pc2, L, .inl (rd σ c i) :: st, σ) res) : J X M P tb R kc nc EX F ads sk (pc, L, .inl i :: .inr (some c) :: st, σ) res := by
  have := j_ald n hn hs rfl kk
  unfold grd at this
  rwa [if_pos hi] at this
theorem j_ast0 (n : Nat) {c N : Nat} {i z : Int} {res : Option α} (hn : P[n]? = some (.iastore, pc, pc2)) (hs : sk[c]? = some (.inr (0, N))) (hi : 0 ≤ i ∧ i < (N : Int)) (kk : J X M P tb R kc nc EX F ads sk (pc2, L, st, wr σ c i z) res) : J X M P tb R kc nc EX F ads sk (pc, L, .inl z :: .inl i :: .inr (some c) :: st, σ) res := by
  have := j_ast n hn hs rfl kk
  unfold grd at this
  rwa [if_pos hi] at this
theorem j_div (n : Nat) {x y : Int} {res : Option α} (hn : P[n]? = some (.idiv, pc, pc2)) (kk : J X M P tb R kc nc EX F ads sk (pc2, L, .inl (tdv x y) :: st, σ) res) : J X M P tb R kc nc EX F ads sk (pc, L, .inl y :: .inl x :: st, σ) (grd (¬ y = 0) res) := by
  refine j_grd (fun hg => J.step (ps2 := (pc2, L, .inl (tdv x y) :: st, σ)) (fun ho a ha hq => ⟨ha, ⟨hq.1, hq.2.1, nrS_cons (bw_toInt _) (nrS_tail (nrS_tail hq.2.2))⟩, fun Z kk => ?_⟩) kk)
  obtain ⟨hd, rfl⟩ := okP_get ho.1 hn (by simp [lenI])
  refine w_idiv hd (fun q => hg ((ofI_eq0 (nrS_head hq.2.2)).mp q)) ?_
  simpa only [WP, lenI, emS, List.map_cons, em, tdv, Int32.ofInt_toInt] using kk
theorem j_rem (n : Nat) {x y : Int} {res : Option α} (hn : P[n]? = some (.irem, pc, pc2)) (kk : J X M P tb R kc nc EX F ads sk (pc2, L, .inl (trm x y) :: st, σ) res) : J X M P tb R kc nc EX F ads sk (pc, L, .inl y :: .inl x :: st, σ) (grd (¬ y = 0) res) := by
  refine j_grd (fun hg => J.step (ps2 := (pc2, L, .inl (trm x y) :: st, σ)) (fun ho a ha hq => ⟨ha, ⟨hq.1, hq.2.1, nrS_cons (bw_toInt _) (nrS_tail (nrS_tail hq.2.2))⟩, fun Z kk => ?_⟩) kk)
  obtain ⟨hd, rfl⟩ := okP_get ho.1 hn (by simp [lenI])
  refine w_irem hd (fun q => hg ((ofI_eq0 (nrS_head hq.2.2)).mp q)) ?_
  simpa only [WP, lenI, emS, List.map_cons, em, trm, Int32.ofInt_toInt] using kk
theorem j_div0 (n : Nat) {x y : Int} {res : Option α} (hn : P[n]? = some (.idiv, pc, pc2)) (hy : ¬ y = 0) (kk : J X M P tb R kc nc EX F ads sk (pc2, L, .inl (tdv x y) :: st, σ) res) : J X M P tb R kc nc EX F ads sk (pc, L, .inl y :: .inl x :: st, σ) res := by
  have := j_div n hn kk
  unfold grd at this
  rwa [if_pos hy] at this
theorem j_rem0 (n : Nat) {x y : Int} {res : Option α} (hn : P[n]? = some (.irem, pc, pc2)) (hy : ¬ y = 0) (kk : J X M P tb R kc nc EX F ads sk (pc2, L, .inl (trm x y) :: st, σ) res) : J X M P tb R kc nc EX F ads sk (pc, L, .inl y :: .inl x :: st, σ) res := by
  have := j_rem n hn kk
  unfold grd at this
  rwa [if_pos hy] at this
end JI
