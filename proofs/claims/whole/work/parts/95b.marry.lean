/-! stable: whatever the order of asking, the same end -/
abbrev Lp (w : Int → Int) (a : Int) : Prop := isP w a ∧ w (68 + a) = -1 ∧ w (91 + a) = 0
abbrev Rp (w : Int → Int) (b : Int) : Prop := isP w b ∧ w (68 + b) = -1 ∧ w (91 + b) = 1
theorem LR_ne {w : Int → Int} {a b : Int} (ha : Lp w a) (hb : Rp w b) : a ≠ b := fun z => by
  have h1 := ha.2.2
  have h2 := hb.2.2
  rw [z] at h1
  omega
/-- b holds x dearer than a -/
abbrev prfS (w : Int → Int) (b x a : Int) : Prop := matchW w b a < matchW w b x ∨ matchW w b a = matchW w b x ∧ x < a
def StI (w : Int → Int) (A : Int → Nat) (H : Int → Int) : Prop :=
  (∀ a, Lp w a → H a = -1 ∨ Rp w (H a) ∧ H (H a) = a) ∧
  (∀ b, Rp w b → H b = -1 ∨ Lp w (H b) ∧ H (H b) = b) ∧
  (∀ a b, Lp w a → Rp w b → (A a).testBit b.toNat = true → H b = a ∨ matchW w b a = 0 ∨ H b ≠ -1 ∧ prfS w b (H b) a) ∧
  (∀ b, Rp w b → H b ≠ -1 → (A (H b)).testBit b.toNat = true ∧ 0 < matchW w b (H b)) ∧
  (∀ a b c, Lp w a → Rp w b → Rp w c → (A a).testBit b.toNat = true → prfS w a c b → (A a).testBit c.toNat = true)
def Term (w : Int → Int) (A : Int → Nat) (H : Int → Int) : Prop := ∀ a, Lp w a → H a ≠ -1 ∨ ∀ b, Rp w b → 0 < matchW w a b → (A a).testBit b.toNat = true
def SubA (w : Int → Int) (A A' : Int → Nat) : Prop := ∀ a b, Lp w a → Rp w b → (A a).testBit b.toNat = true → (A' a).testBit b.toNat = true
/-- b is the next whom a asks -/
def Nxt (w : Int → Int) (A : Int → Nat) (a b : Int) : Prop := Rp w b ∧ (A a).testBit b.toNat = false ∧ 0 < matchW w a b ∧ ∀ c, Rp w c → prfS w a c b → (A a).testBit c.toNat = true
theorem ask_in {w : Int → Int} {A A' : Int → Nat} {H H' : Int → Int} {a b : Int} (hS : StI w A H) (hT : StI w A' H') (ht : Term w A' H') (hs : SubA w A A') (ha : Lp w a) (hH : H a = -1) (hN : Nxt w A a b) : (A' a).testBit b.toNat = true := by
  obtain ⟨n1, n2, n3, n4⟩ := hN
  obtain ⟨s1, s2, s3, s4, s5⟩ := hS
  obtain ⟨t1, t2, t3, t4, t5⟩ := hT
  apply Classical.byContradiction
  intro hno
  have h1 : H' a ≠ -1 := (ht a ha).resolve_right (fun z => hno (z b n1 n3))
  obtain ⟨r1, r2⟩ := (t1 a ha).resolve_left h1
  have h2 : H' (H' a) ≠ -1 := by rw [r2]; have := ha.1.1; omega
  obtain ⟨q1, q2⟩ := t4 (H' a) r1 h2
  rw [r2] at q1 q2
  have hne : H' a ≠ b := fun z => hno (by rw [← z]; exact q1)
  have hbet : prfS w a (H' a) b := by
    by_cases c : prfS w a b (H' a)
    · exact absurd (t5 a (H' a) b ha r1 n1 q1 c) hno
    · unfold prfS at c ⊢
      omega
  have h3 := n4 (H' a) r1 hbet
  rcases s3 a (H' a) ha r1 h3 with e | e | e
  · have := (s2 (H' a) r1).resolve_left (by rw [e]; have := ha.1.1; omega)
    rw [e] at this
    have h5 := this.2
    have := r1.1.1
    omega
  · omega
  · obtain ⟨x1, x2⟩ := (s2 (H' a) r1).resolve_left e.1
    obtain ⟨y1, y2⟩ := s4 (H' a) r1 e.1
    have h6 := hs _ _ x1 r1 y1
    rcases t3 _ _ x1 r1 h6 with z | z | z
    · rw [r2] at z
      have := e.2
      rw [← z] at this
      unfold prfS at this
      omega
    · omega
    · have z2 := z.2
      rw [r2] at z2
      have e2 := e.2
      unfold prfS at z2 e2
      omega
def askA (A : Int → Nat) (a b : Int) : Int → Nat := fun x => if x = a then A a ||| 2 ^ b.toNat else A x
def tkeH (H : Int → Int) (a b : Int) : Int → Int := upz (upz (if H b = -1 then H else upz H (H b) (-1)) b a) a b
theorem askA_bit {A : Int → Nat} {a b x : Int} (j : Nat) : (askA A a b x).testBit j = (A x).testBit j ∨ (askA A a b x).testBit j = true ∧ x = a ∧ j = b.toNat := by
  unfold askA
  by_cases e : x = a
  · rw [if_pos e, Nat.testBit_or, Nat.testBit_two_pow]
    by_cases f : b.toNat = j
    · exact Or.inr ⟨by rw [decide_eq_true f, Bool.or_true], e, f.symm⟩
    · left; rw [decide_eq_false f, Bool.or_false, e]
  · rw [if_neg e]; exact Or.inl rfl
theorem askA_up {A : Int → Nat} {a b x : Int} {j : Nat} (h : (A x).testBit j = true) : (askA A a b x).testBit j = true := by
  rcases askA_bit (A := A) (a := a) (b := b) (x := x) j with e | e
  · rw [e]; exact h
  · exact e.1
theorem askA_new {A : Int → Nat} {a b : Int} : (askA A a b a).testBit b.toNat = true := by
  unfold askA
  rw [if_pos rfl, Nat.testBit_or, Nat.testBit_two_pow_self, Bool.or_true]
theorem ask_pre {w : Int → Int} {A : Int → Nat} {H : Int → Int} {a b : Int} (hS : StI w A H) (hN : Nxt w A a b) : ∀ x y c, Lp w x → Rp w y → Rp w c → (askA A a b x).testBit y.toNat = true → prfS w x c y → (askA A a b x).testBit c.toNat = true := by
  intro x y c hx hy hc h1 h2
  rcases askA_bit (A := A) (a := a) (b := b) (x := x) y.toNat with e | e
  · rw [e] at h1
    exact askA_up (hS.2.2.2.2 x y c hx hy hc h1 h2)
  · have ey : y = b := by have := hy.1.1; have := hN.1.1.1; omega
    rw [e.2.1] at h2 ⊢
    rw [ey] at h2
    exact askA_up (hN.2.2.2 c hc h2)
theorem ask_no {w : Int → Int} {A : Int → Nat} {H : Int → Int} {a b : Int} (hS : StI w A H) (ha : Lp w a) (hH : H a = -1) (hN : Nxt w A a b) (hno : matchW w b a = 0 ∨ H b ≠ -1 ∧ ¬ prfS w b a (H b)) : StI w (askA A a b) H := by
  obtain ⟨s1, s2, s3, s4, s5⟩ := hS
  refine ⟨s1, s2, fun x y hx hy h1 => ?_, fun y hy hb => ⟨askA_up (s4 y hy hb).1, (s4 y hy hb).2⟩, ask_pre ⟨s1, s2, s3, s4, s5⟩ hN⟩
  rcases askA_bit (A := A) (a := a) (b := b) (x := x) y.toNat with e | e
  · rw [e] at h1
    exact s3 x y hx hy h1
  · have ey : y = b := by have := hy.1.1; have := hN.1.1.1; omega
    rw [ey, e.2.1]
    rcases hno with z | z
    · exact Or.inr (Or.inl z)
    · right; right
      refine ⟨z.1, ?_⟩
      have h5 := ((s2 b hN.1).resolve_left z.1).2
      have hne : H b ≠ a := fun q => by rw [q, hH] at h5; have := hN.1.1.1; omega
      have z2 := z.2
      unfold prfS at z2 ⊢
      omega
theorem tkeH_at {w : Int → Int} {A : Int → Nat} {H : Int → Int} {a b : Int} (hS : StI w A H) (ha : Lp w a) (hb : Rp w b) : tkeH H a b a = b ∧ tkeH H a b b = a ∧ (H b ≠ -1 → H b ≠ a → tkeH H a b (H b) = -1) ∧ ∀ x, x ≠ a → x ≠ b → (H b = -1 ∨ x ≠ H b) → tkeH H a b x = H x := by
  have hne := LR_ne ha hb
  unfold tkeH
  refine ⟨upz_s, by rw [upz_n (Ne.symm hne), upz_s], fun h1 h2 => ?_, fun x h1 h2 h3 => ?_⟩
  · have h4 := (hS.2.1 b hb).resolve_left h1
    rw [upz_n h2, upz_n (LR_ne h4.1 hb), if_neg h1, upz_s]
  · rw [upz_n h1, upz_n h2]
    by_cases e : H b = -1
    · rw [if_pos e]
    · rw [if_neg e, upz_n (h3.resolve_left e)]
theorem ask_yes {w : Int → Int} {A : Int → Nat} {H : Int → Int} {a b : Int} (hS : StI w A H) (ha : Lp w a) (hH : H a = -1) (hN : Nxt w A a b) (h0 : 0 < matchW w b a) (hyes : H b = -1 ∨ prfS w b a (H b)) : StI w (askA A a b) (tkeH H a b) := by
  obtain ⟨k1, k2, k3, k4⟩ := tkeH_at hS ha hN.1
  have hpre := ask_pre hS hN
  obtain ⟨s1, s2, s3, s4, s5⟩ := hS
  have hb := hN.1
  have b0 := hb.1.1
  have a0 := ha.1.1
  have hab := LR_ne ha hb
  have old : H b ≠ -1 → Lp w (H b) ∧ H (H b) = b ∧ H b ≠ a := fun z => by
    obtain ⟨z1, z2⟩ := (s2 b hb).resolve_left z
    exact ⟨z1, z2, fun q => by rw [q, hH] at z2; omega⟩
  refine ⟨fun x hx => ?_, fun y hy => ?_, fun x y hx hy h1 => ?_, fun y hy h1 => ?_, hpre⟩
  · by_cases e1 : x = a
    · rw [e1, k1, k2]; exact Or.inr ⟨hb, rfl⟩
    · by_cases e2 : H b ≠ -1 ∧ x = H b
      · left
        rw [e2.2]
        exact k3 e2.1 (old e2.1).2.2
      · have hx' : tkeH H a b x = H x := k4 x e1 (LR_ne hx hb) (by omega)
        rw [hx']
        rcases s1 x hx with q | ⟨q1, q2⟩
        · exact Or.inl q
        · right
          refine ⟨q1, ?_⟩
          have n1 : H x ≠ b := fun z => by
            rw [z] at q2
            have := hx.1.1
            omega
          rw [k4 (H x) (fun z => LR_ne ha q1 z.symm) n1 ?_]
          · exact q2
          · by_cases e3 : H b = -1
            · exact Or.inl e3
            · exact Or.inr (fun z => LR_ne (old e3).1 q1 z.symm)
  · by_cases e1 : y = b
    · rw [e1, k2, k1]; exact Or.inr ⟨ha, rfl⟩
    · have hy' : tkeH H a b y = H y := k4 y (fun z => LR_ne ha hy z.symm) e1 (by
        by_cases e3 : H b = -1
        · exact Or.inl e3
        · exact Or.inr (fun z => LR_ne (old e3).1 hy z.symm))
      rw [hy']
      rcases s2 y hy with q | ⟨q1, q2⟩
      · exact Or.inl q
      · right
        refine ⟨q1, ?_⟩
        have n1 : H y ≠ a := fun z => by
          rw [z, hH] at q2
          have := hy.1.1
          omega
        have n2 : H b = -1 ∨ H y ≠ H b := by
          by_cases e3 : H b = -1
          · exact Or.inl e3
          · refine Or.inr (fun z => ?_)
            rw [z, (old e3).2.1] at q2
            exact e1 q2.symm
        rw [k4 (H y) n1 (LR_ne q1 hb) n2]
        exact q2
  · by_cases e1 : y = b
    · rw [e1, k2]
      by_cases e2 : x = a
      · exact Or.inl e2.symm
      · rcases askA_bit (A := A) (a := a) (b := b) (x := x) y.toNat with e | e
        · rw [e] at h1
          rw [e1] at h1
          rcases s3 x b hx hb h1 with q | q | q
          · right; right
            have hn : H b ≠ -1 := by rw [q]; have := hx.1.1; omega
            have := hyes.resolve_left hn
            rw [q] at this
            exact ⟨by omega, this⟩
          · exact Or.inr (Or.inl q)
          · right; right
            have h5 := hyes.resolve_left q.1
            have h6 := q.2
            refine ⟨by omega, ?_⟩
            unfold prfS at h5 h6 ⊢
            omega
        · exact absurd e.2.1 e2
    · have hy' : tkeH H a b y = H y := k4 y (fun z => LR_ne ha hy z.symm) e1 (by
        by_cases e3 : H b = -1
        · exact Or.inl e3
        · exact Or.inr (fun z => LR_ne (old e3).1 hy z.symm))
      rw [hy']
      rcases askA_bit (A := A) (a := a) (b := b) (x := x) y.toNat with e | e
      · rw [e] at h1
        exact s3 x y hx hy h1
      · exact absurd (show y = b by have := hy.1.1; omega) e1
  · by_cases e1 : y = b
    · rw [e1, k2]
      exact ⟨askA_new, h0⟩
    · have hy' : tkeH H a b y = H y := k4 y (fun z => LR_ne ha hy z.symm) e1 (by
        by_cases e3 : H b = -1
        · exact Or.inl e3
        · exact Or.inr (fun z => LR_ne (old e3).1 hy z.symm))
      rw [hy'] at h1 ⊢
      exact ⟨askA_up (s4 y hy h1).1, (s4 y hy h1).2⟩
theorem ask_sub {w : Int → Int} {A A' : Int → Nat} {H H' : Int → Int} {a b : Int} (hS : StI w A H) (hT : StI w A' H') (ht : Term w A' H') (hs : SubA w A A') (ha : Lp w a) (hH : H a = -1) (hN : Nxt w A a b) : SubA w (askA A a b) A' := by
  intro x y hx hy h1
  rcases askA_bit (A := A) (a := a) (b := b) (x := x) y.toNat with e | e
  · rw [e] at h1
    exact hs x y hx hy h1
  · rw [e.2.1, e.2.2]
    exact ask_in hS hT ht hs ha hH hN
theorem same_end {w : Int → Int} {A A' : Int → Nat} {H H' : Int → Int} (hS : StI w A H) (hT : StI w A' H') (h1 : SubA w A A') (h2 : SubA w A' A) : (∀ b, Rp w b → H b = H' b) ∧ ∀ a, Lp w a → H a = H' a := by
  obtain ⟨s1, s2, s3, s4, s5⟩ := hS
  obtain ⟨t1, t2, t3, t4, t5⟩ := hT
  have hb : ∀ b, Rp w b → H b = H' b := by
    intro b hb
    by_cases e1 : H b = -1
    · by_cases e2 : H' b = -1
      · rw [e1, e2]
      · exfalso
        obtain ⟨x1, x2⟩ := (t2 b hb).resolve_left e2
        obtain ⟨y1, y2⟩ := t4 b hb e2
        rcases s3 _ b x1 hb (h2 _ _ x1 hb y1) with q | q | q
        · have := x1.1.1; omega
        · omega
        · exact q.1 e1
    · obtain ⟨p1, p2⟩ := (s2 b hb).resolve_left e1
      obtain ⟨q1, q2⟩ := s4 b hb e1
      by_cases e2 : H' b = -1
      · exfalso
        rcases t3 _ b p1 hb (h1 _ _ p1 hb q1) with q | q | q
        · have := p1.1.1; omega
        · omega
        · exact q.1 e2
      · obtain ⟨x1, x2⟩ := (t2 b hb).resolve_left e2
        obtain ⟨y1, y2⟩ := t4 b hb e2
        rcases t3 _ b p1 hb (h1 _ _ p1 hb q1) with q | q | q
        · exact q.symm
        · omega
        · rcases s3 _ b x1 hb (h2 _ _ x1 hb y1) with z | z | z
          · exact z
          · omega
          · have q2 := q.2
            have z2 := z.2
            unfold prfS at q2 z2
            omega
  refine ⟨hb, fun a ha => ?_⟩
  rcases s1 a ha with e1 | ⟨e1, e2⟩
  · rcases t1 a ha with f1 | ⟨f1, f2⟩
    · rw [e1, f1]
    · exfalso
      have h3 := hb _ f1
      rw [f2] at h3
      have := ((s2 _ f1).resolve_left (by rw [h3]; have := ha.1.1; omega)).2
      rw [h3, e1] at this
      have := f1.1.1
      omega
  · have h3 := hb _ e1
    rw [e2] at h3
    have := ((t2 _ e1).resolve_left (by rw [← h3]; have := ha.1.1; omega)).2
    rw [← h3] at this
    exact this.symm
/-- how many have asked -/
def bitsA (A : Int → Nat) : Int := sumN (fun a => ((cntN (A a) 12 : Nat) : Int)) 12
theorem bitsA_r (A : Int → Nat) : 0 ≤ bitsA A ∧ bitsA A ≤ 144 := by
  have := sumN_r (f := fun a => ((cntN (A a) 12 : Nat) : Int)) (k := 12) (fun i _ => ⟨by omega, by have := cntN_le (K := A i) 12; omega⟩) 12
  unfold bitsA
  omega
theorem bitsA_up {w : Int → Int} {A : Int → Nat} {a b : Int} (h12 : w 85 ≤ 12) (ha : Lp w a) (hN : Nxt w A a b) : bitsA A + 1 ≤ bitsA (askA A a b) := by
  have a0 := ha.1.1
  have a1 := ha.1.2
  have b0 := hN.1.1.1
  have b1 := hN.1.1.2
  have h1 : ∀ x : Int, ((cntN (A x) 12 : Nat) : Int) + (if x = a then 1 else 0) ≤ ((cntN (askA A a b x) 12 : Nat) : Int) := by
    intro x
    unfold askA
    by_cases e : x = a
    · rw [if_pos e, if_pos e, cntN_or, if_pos ⟨by omega, by rw [hN.2.1]; decide⟩, e]
      omega
    · rw [if_neg e, if_neg e]; omega
  exact sumN_lt (k := a) a0 (by have := h1 a; rw [if_pos rfl] at this; exact this) 12 (by omega) (fun i _ _ => by have := h1 i; split at this <;> omega)
