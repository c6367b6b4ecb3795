/-! best: what the tables hold -/
theorem getD_ge {l : List Int} {k : Nat} (h : k < l.length) : l.getD k 0 = l[k] := by
  rw [List.getD_eq_getElem?_getD, List.getElem?_eq_getElem h]
  rfl
theorem upL_pw : ∀ (n : Nat) (i : Int), (upL n i).Pairwise (· < ·)
  | 0, i => by rw [upL]; exact List.Pairwise.nil
  | n + 1, i => by
    rw [upL]
    exact List.Pairwise.cons (fun a ha => by have := (upL_mem n (i + 1) a).mp ha; omega) (upL_pw n (i + 1))
theorem frL_pw {w : Int → Int} {s : Int} {n : Nat} : (frL w s n).Pairwise (· < ·) := by
  rw [frL_eq]
  exact (upL_pw n 0).filter _
theorem frL_lt {w : Int → Int} {s : Int} {n i j : Nat} (hij : i < j) (hj : j < (frL w s n).length) : (frL w s n).getD i 0 < (frL w s n).getD j 0 := by
  have h := List.pairwise_iff_getElem.mp (frL_pw (w := w) (s := s) (n := n)) i j (by omega) hj hij
  rw [getD_ge (by omega), getD_ge hj]
  exact h
theorem frL_inj {w : Int → Int} {s : Int} {n i j : Nat} (hi : i < (frL w s n).length) (hj : j < (frL w s n).length) (h : (frL w s n).getD i 0 = (frL w s n).getD j 0) : i = j := by
  rcases Nat.lt_trichotomy i j with e | e | e
  · have := frL_lt (w := w) (s := s) (n := n) e hj; omega
  · exact e
  · have := frL_lt (w := w) (s := s) (n := n) e hi; omega
theorem frL_two {w : Int → Int} : ∀ n : Nat, (frL w 0 n).length + (frL w 1 n).length ≤ n
  | 0 => by simp [frL]
  | n + 1 => by
    have := frL_two (w := w) n
    rw [frL, frL, List.length_append, List.length_append]
    by_cases c : w (68 + (n : Int)) = -1 ∧ w (91 + (n : Int)) = 0
    · rw [if_pos c, if_neg (by omega)]
      simp
      omega
    · rw [if_neg c]
      split <;> simp <;> omega
def mdel (m : Nat) (b : Int) : Nat := m &&& (2 ^ b.toNat ^^^ (2 ^ 32 - 1))
theorem mdel_lt {m : Nat} {b : Int} (h : m < 4096) : mdel m b < 4096 := Nat.lt_of_le_of_lt Nat.and_le_left h
theorem mdel_bit {m : Nat} {b : Int} (h : m < 4096) (j : Nat) : (mdel m b).testBit j = (m.testBit j && !decide (b.toNat = j)) := by
  unfold mdel
  rw [andn_bit h, Nat.testBit_two_pow]
def Bs (w : Int → Int) (R : List Int) : List Int → Nat → Int
  | [], _ => 0
  | a :: t, m => R.foldl (fun acc b => if m.testBit b.toNat = true then max acc (foundW w a b + Bs w R t (mdel m b)) else acc) (Bs w R t m)
theorem fold_r {c : Int} {f : Int → Int → Int} (hf : ∀ a b, 0 ≤ a → a ≤ c → 0 ≤ f a b ∧ f a b ≤ c) : ∀ (l : List Int) (a : Int), 0 ≤ a → a ≤ c → 0 ≤ l.foldl f a ∧ l.foldl f a ≤ c
  | [], a, h0, h1 => ⟨h0, h1⟩
  | b :: t, a, h0, h1 => by
    rw [List.foldl_cons]
    have := hf a b h0 h1
    exact fold_r hf t _ this.1 this.2
theorem Bs_r {w : Int → Int} {R : List Int} : ∀ (l : List Int) (m : Nat), 0 ≤ Bs w R l m ∧ Bs w R l m ≤ 9 * l.length
  | [], m => by rw [Bs]; simp
  | a :: t, m => by
    have h := Bs_r (w := w) (R := R) t m
    rw [Bs, List.length_cons]
    refine fold_r (fun x b x0 x1 => ?_) R _ h.1 (by omega)
    have h2 := Bs_r (w := w) (R := R) t (mdel m b)
    have h3 := foundW_r w a b
    split <;> omega
/-- whom one takes first -/
def tkF (w : Int → Int) (R : List Int) (a : Int) (t : List Int) (m : Nat) : Int → Bool := fun b => m.testBit b.toNat && decide (foundW w a b + Bs w R t (mdel m b) = Bs w R (a :: t) m)
def tkH (w : Int → Int) (R : List Int) : List Int → Nat → (Int → Int) → (Int → Int)
  | [], _, H => H
  | a :: t, m, H => match R.find? (tkF w R a t m) with
    | some b => tkH w R t (mdel m b) (upz (upz H a b) b a)
    | none => tkH w R t m H
/-- bits of a set and one more -/
theorem cntN_or {K j : Nat} : ∀ n : Nat, cntN (K ||| 2 ^ j) n = cntN K n + if j < n ∧ ¬ K.testBit j = true then 1 else 0
  | 0 => by simp [cntN]
  | n + 1 => by
    have ih := cntN_or (K := K) (j := j) n
    rw [cntN, cntN, ih, Nat.testBit_or, Nat.testBit_two_pow]
    by_cases e : j = n
    · rw [← e]
      by_cases b : K.testBit j = true
      · simp [b]
      · rw [Bool.not_eq_true] at b
        simp [b]
    · have d : decide (j = n) = false := decide_eq_false e
      rw [d, Bool.or_false]
      by_cases l : j < n
      · have l2 : j < n + 1 := by omega
        by_cases b : K.testBit j = true
        · simp [b]
        · rw [Bool.not_eq_true] at b
          simp [b, l, l2]
          omega
      · have l2 : ¬ j < n + 1 := by omega
        simp [l, l2]
def Rel (R : List Int) (set m : Nat) : Prop := m < 4096 ∧ ∀ j : Nat, j < R.length → set.testBit j = !m.testBit (R.getD j 0).toNat
theorem Rel_del {w : Int → Int} {s : Int} {n set m j : Nat} (h : Rel (frL w s n) set m) (hj : j < (frL w s n).length) : Rel (frL w s n) (set ||| 2 ^ j) (mdel m ((frL w s n).getD j 0)) := by
  refine ⟨mdel_lt h.1, fun i hi => ?_⟩
  rw [Nat.testBit_or, Nat.testBit_two_pow, mdel_bit h.1, h.2 i hi]
  by_cases e : j = i
  · rw [e]; simp
  · have ne : ¬ ((frL w s n).getD j 0).toNat = ((frL w s n).getD i 0).toNat := fun z => by
      have m1 : ∀ k, k < (frL w s n).length → 0 ≤ (frL w s n).getD k 0 := fun k hk => by
        rw [getD_ge hk]
        exact (frL_mem.mp (List.getElem_mem hk)).1.1
      have := m1 j hj
      have := m1 i hi
      exact e (frL_inj hj hi (by omega))
    rw [decide_eq_false e, decide_eq_false ne]
    simp
theorem bshl_s : ∀ x : Nat, x ≤ 13 → ∀ k : Nat, k ≤ 12 → bshl (x : Int) (k : Int) = x * 2 ^ k := by decide +kernel
theorem idx_b {i k set : Nat} (hi : i ≤ 13) (hk : k ≤ 12) (hs : set < 2 ^ k) : bor (bshl (i : Int) (k : Int)) (set : Int) = ((i * 2 ^ k + set : Nat) : Int) := by
  have h1 : 2 ^ k ≤ 2 ^ 12 := Nat.pow_le_pow_right (by decide) hk
  have h2 : i * 2 ^ k ≤ 13 * 2 ^ 12 := Nat.mul_le_mul hi h1
  have e : (i : Int) * 2 ^ k = ((i * 2 ^ k : Nat) : Int) := by rw [Int.natCast_mul, Int.natCast_pow]; rfl
  rw [bshl_s i hi k hk, e, bor_nat (by omega) (by omega) (by omega) (by omega), Int.toNat_natCast, Int.toNat_natCast, ← Nat.shiftLeft_eq, ← Nat.shiftLeft_add_eq_or_of_lt hs]
theorem idx_lt {l k i set : Nat} (hlk : l + k ≤ 12) (hi : i ≤ l) (hs : set < 2 ^ k) : i * 2 ^ k + set < 4096 := by
  have h1 : l < 2 ^ l := Nat.lt_two_pow_self
  have h2 : (i + 1) * 2 ^ k ≤ 2 ^ l * 2 ^ k := Nat.mul_le_mul (by omega) (Nat.le_refl _)
  rw [← Nat.pow_add] at h2
  have h3 : 2 ^ (l + k) ≤ 2 ^ 12 := Nat.pow_le_pow_right (by decide) hlk
  rw [Nat.add_mul] at h2
  omega
theorem idx_inj {k i i2 s s2 : Nat} (hs : s < 2 ^ k) (hs2 : s2 < 2 ^ k) (h : i * 2 ^ k + s = i2 * 2 ^ k + s2) : i = i2 ∧ s = s2 := by
  have h1 : (i * 2 ^ k + s) / 2 ^ k = i := by rw [Nat.add_comm, Nat.add_mul_div_right _ _ (Nat.pow_pos (by decide)), Nat.div_eq_of_lt hs, Nat.zero_add]
  have h2 : (i2 * 2 ^ k + s2) / 2 ^ k = i2 := by rw [Nat.add_comm, Nat.add_mul_div_right _ _ (Nat.pow_pos (by decide)), Nat.div_eq_of_lt hs2, Nat.zero_add]
  have e : i = i2 := by rw [← h1, ← h2, h]
  refine ⟨e, ?_⟩
  rw [e] at h
  omega
