/-! each method does what its function says -/
abbrev jX7_isLetter (X : Cx) (ads : List Nat) (sk : List Sk) (σ : Sg) (ps : PS) (res : Option (Int)) : Prop := J X mX7_isLetter pX7_isLetter tbX7 (rmD 0 0 0) 0 0 E0 (fun a => FM X mX7_isLetter ads sk ((wP σ) a)) ads sk ps res
theorem JX7_isLetter_J12 {X : Cx} {ads : List Nat} {sk : List Sk} (hA : ads.length = sk.length ∧ sk.length ≤ 1000) (σ : Sg) (x0 : Int) : jX7_isLetter X ads sk σ (12, [some (.inl x0)], [], σ) (some (fX7_isLetter_J12 x0)) := by
  unfold fX7_isLetter_J12
  refine j_run 6 2 rfl ?_
  refine jt_icmp_lt 8 rfl rfl (fun h1 => ?_) (fun h1 => ?_)
  · refine j_run 14 1 rfl ?_
    exact j_zret 15 rfl rfl (by decide) rfl
  · refine j_run 9 2 rfl ?_
    refine jt_icmp_gt 11 rfl rfl (fun h2 => ?_) (fun h2 => ?_)
    · refine j_run 14 1 rfl ?_
      exact j_zret 15 rfl rfl (by decide) rfl
    · refine j_run 12 1 rfl ?_
      refine j_goto 13 rfl rfl ?_
      exact j_zret 15 rfl rfl (by decide) rfl
theorem eX7_isLetter {X : Cx} {ads : List Nat} {sk : List Sk} (hA : ads.length = sk.length ∧ sk.length ≤ 1000) (x0 : Int) (σ : Sg) : CF X mX7_isLetter ads sk [.inl x0] σ (wP σ) (some (fX7_isLetter x0)) := by
  refine CF.of ⟨pX7_isLetter_ok, tbX7_ok, hA.1, hA.2⟩ (plainFor_of_name plX7) (Nat.le_of_ble_eq_true rfl) ?_
  show jX7_isLetter X ads sk σ (0, [some (.inl x0)], [], σ) (some (fX7_isLetter x0))
  unfold fX7_isLetter
  refine j_run 0 2 rfl ?_
  refine jt_icmp_lt 2 rfl rfl (fun h3 => ?_) (fun h3 => ?_)
  · exact j_weak (leP_s (leP_z)) (JX7_isLetter_J12 hA σ x0)
  · refine j_run 3 2 rfl ?_
    refine jt_icmp_le 5 rfl rfl (fun h4 => ?_) (fun h4 => ?_)
    · exact j_weak (leP_s (leP_z)) (JX7_isLetter_J12 hA σ x0)
    · refine j_run 12 1 rfl ?_
      refine j_goto 13 rfl rfl ?_
      exact j_zret 15 rfl rfl (by decide) rfl
abbrev jX7_isDigit (X : Cx) (ads : List Nat) (sk : List Sk) (σ : Sg) (ps : PS) (res : Option (Int)) : Prop := J X mX7_isDigit pX7_isDigit tbX7 (rmD 0 0 0) 0 0 E0 (fun a => FM X mX7_isDigit ads sk ((wP σ) a)) ads sk ps res
theorem eX7_isDigit {X : Cx} {ads : List Nat} {sk : List Sk} (hA : ads.length = sk.length ∧ sk.length ≤ 1000) (x0 : Int) (σ : Sg) : CF X mX7_isDigit ads sk [.inl x0] σ (wP σ) (some (fX7_isDigit x0)) := by
  refine CF.of ⟨pX7_isDigit_ok, tbX7_ok, hA.1, hA.2⟩ (plainFor_of_name plX7) (Nat.le_of_ble_eq_true rfl) ?_
  show jX7_isDigit X ads sk σ (0, [some (.inl x0)], [], σ) (some (fX7_isDigit x0))
  unfold fX7_isDigit
  refine j_run 0 2 rfl ?_
  refine jt_icmp_lt 2 rfl rfl (fun h1 => ?_) (fun h1 => ?_)
  · refine j_run 8 1 rfl ?_
    exact j_zret 9 rfl rfl (by decide) rfl
  · refine j_run 3 2 rfl ?_
    refine jt_icmp_gt 5 rfl rfl (fun h2 => ?_) (fun h2 => ?_)
    · refine j_run 8 1 rfl ?_
      exact j_zret 9 rfl rfl (by decide) rfl
    · refine j_run 6 1 rfl ?_
      refine j_goto 7 rfl rfl ?_
      exact j_zret 9 rfl rfl (by decide) rfl
abbrev jX7_lettersEnd (X : Cx) (ads : List Nat) (sk : List Sk) (σ : Sg) (ps : PS) (res : Option (Int)) : Prop := J X mX7_lettersEnd pX7_lettersEnd tbX7 (rmD 1 0 0) 0 0 E0 (fun a => FM X mX7_lettersEnd ads sk ((wP σ) a)) ads sk ps res
theorem JX7_lettersEnd_L2 {X : Cx} {ads : List Nat} {sk : List Sk} (hA : ads.length = sk.length ∧ sk.length ≤ 1000) (hp0 : ocT sk) (σ : Sg) : ∀ (n : Nat) (x2 : Int), jX7_lettersEnd X ads sk σ (2, [some (.inr (some 59)), none, some (.inl x2)], [], σ) (fX7_lettersEnd_L2 σ n x2) := by
  intro n
  induction n with
  | zero => intro x2; exact j_none
  | succ n ih =>
    intro x2
    rw [fX7_lettersEnd_L2]
    refine j_run 2 2 rfl ?_
    refine j_gf 4 0 rfl rfl hp0.1 rfl ?_
    refine jc_icmp_ge 5 rfl rfl (fun h1 => ?_) (fun h1 => ?_)
    · refine j_run 6 2 rfl ?_
      refine j_cv 8 0 1 rfl rfl mwX7_sign hp0.1 rfl rfl (eX7_sign hA hp0 x2 _) rfl rfl (rok rfl rfl) (Nat.le_of_ble_eq_true rfl) (fun r2 _ h2 => ?_)
      refine j_csT 9 1 1 rfl rfl mwX7_isLetter (eX7_isLetter hA r2 _) rfl rfl (rok rfl rfl) (Nat.le_of_ble_eq_true rfl) (fun h3 => ?_)
      refine jc_if_ne 10 rfl rfl (fun h4 => ?_) (fun h4 => ?_)
      · refine j_run 11 1 rfl ?_
        exact j_iret 12 rfl rfl rfl
      · refine j_run 13 1 rfl ?_
        refine j_goto 14 rfl rfl ?_
        exact j_weak (leP_s (leP_n (leP_s (leP_z)))) (ih (bw (x2 + 1)))
    · refine j_run 15 1 rfl ?_
      refine j_gf 16 0 rfl rfl hp0.1 rfl ?_
      exact j_iret 17 rfl rfl rfl
theorem eX7_lettersEnd {X : Cx} {ads : List Nat} {sk : List Sk} (hA : ads.length = sk.length ∧ sk.length ≤ 1000) (hp0 : ocT sk) (x1 : Int) (σ : Sg) : CF X mX7_lettersEnd ads sk [.inr (some 59), .inl x1] σ (wP σ) (fX7_lettersEnd x1 σ) := by
  refine CF.of ⟨pX7_lettersEnd_ok, tbX7_ok, hA.1, hA.2⟩ (plainFor_of_name plX7) (Nat.le_of_ble_eq_true rfl) ?_
  show jX7_lettersEnd X ads sk σ (0, [some (.inr (some 59)), some (.inl x1), none], [], σ) (fX7_lettersEnd x1 σ)
  unfold fX7_lettersEnd
  refine j_run 0 2 rfl ?_
  exact j_weak (leP_s (leP_n (leP_s (leP_z)))) (JX7_lettersEnd_L2 hA hp0 σ FU x1)
abbrev jX7_isSame (X : Cx) (ads : List Nat) (sk : List Sk) (σ : Sg) (ps : PS) (res : Option (Int)) : Prop := J X mX7_isSame pX7_isSame tbX7 (rmD 8 0 0) 0 0 E0 (fun a => FM X mX7_isSame ads sk ((wP σ) a)) ads sk ps res
theorem JX7_isSame_L3 {X : Cx} {ads : List Nat} {sk : List Sk} (hA : ads.length = sk.length ∧ sk.length ≤ 1000) (hp0 : ocT sk) (σ : Sg) (x1 : Int) (x2 : Int) (x3 : Int) : ∀ (n : Nat) (x4 : Int), jX7_isSame X ads sk σ (3, [some (.inr (some 59)), some (.inl x1), some (.inl x2), some (.inl x3), some (.inl x4)], [], σ) (fX7_isSame_L3 σ x1 x2 x3 n x4) := by
  intro n
  induction n with
  | zero => intro x4; exact j_none
  | succ n ih =>
    intro x4
    rw [fX7_isSame_L3]
    refine j_run 2 2 rfl ?_
    refine jc_icmp_ge 4 rfl rfl (fun h1 => ?_) (fun h1 => ?_)
    · refine j_run 5 3 rfl ?_
      refine j_ldcS 8 0 rfl rfl ?_
      refine j_sLen 9 2 rfl rfl (by decide) (rok rfl rfl) (Nat.le_of_ble_eq_true rfl) ?_
      refine jc_icmp_ge 10 rfl rfl (fun h3 => ?_) (fun h3 => ?_)
      · refine j_ldcS 11 0 rfl rfl ?_
        refine j_run 12 3 rfl ?_
        refine j_sCh 15 3 rfl rfl (by decide) (rok rfl rfl) (Nat.le_of_ble_eq_true rfl) ?_
        refine j_run 16 4 rfl ?_
        refine j_cv 20 0 1 rfl rfl mwX7_sign hp0.1 rfl rfl (eX7_sign hA hp0 (bw (x2 + x4)) _) rfl rfl (rok rfl rfl) (Nat.le_of_ble_eq_true rfl) (fun r5 _ h5 => ?_)
        refine jc_icmp_eq 21 rfl rfl (fun h6 => ?_) (fun h6 => ?_)
        · refine j_run 24 1 rfl ?_
          refine j_goto 25 rfl rfl ?_
          exact j_weak (leP_s (leP_s (leP_s (leP_s (leP_s (leP_z)))))) (ih (bw (x4 + 1)))
        · refine j_run 22 1 rfl ?_
          exact j_zret 23 rfl rfl (by decide) rfl
      · refine j_run 26 1 rfl ?_
        exact j_zret 27 rfl rfl (by decide) rfl
    · refine j_run 26 1 rfl ?_
      exact j_zret 27 rfl rfl (by decide) rfl
theorem eX7_isSame {X : Cx} {ads : List Nat} {sk : List Sk} (hA : ads.length = sk.length ∧ sk.length ≤ 1000) (hp0 : ocT sk) (x1 : Int) (x2 : Int) (x3 : Int) (σ : Sg) : CF X mX7_isSame ads sk [.inr (some 59), .inl x1, .inl x2, .inl x3] σ (wP σ) (fX7_isSame x1 x2 x3 σ) := by
  refine CF.of ⟨pX7_isSame_ok, tbX7_ok, hA.1, hA.2⟩ (plainFor_of_name plX7) (Nat.le_of_ble_eq_true rfl) ?_
  show jX7_isSame X ads sk σ (0, [some (.inr (some 59)), some (.inl x1), some (.inl x2), some (.inl x3), none], [], σ) (fX7_isSame x1 x2 x3 σ)
  unfold fX7_isSame
  refine j_run 0 2 rfl ?_
  exact j_weak (leP_s (leP_s (leP_s (leP_s (leP_s (leP_z)))))) (JX7_isSame_L3 hA hp0 σ x1 x2 x3 FU 0)
abbrev jX7_wordOf (X : Cx) (ads : List Nat) (sk : List Sk) (σ : Sg) (ps : PS) (res : Option (Int)) : Prop := J X mX7_wordOf pX7_wordOf tbX7 (rmD 9 0 0) 0 0 E0 (fun a => FM X mX7_wordOf ads sk ((wP σ) a)) ads sk ps res
theorem JX7_wordOf_L8 {X : Cx} {ads : List Nat} {sk : List Sk} (hA : ads.length = sk.length ∧ sk.length ≤ 1000) (hp0 : ocT sk) (σ : Sg) (x1 : Int) (x2 : Int) : ∀ (n : Nat) (x3 : Int) (x4 : Int) (x5 : Int), jX7_wordOf X ads sk σ (8, [some (.inr (some 59)), some (.inl x1), some (.inl x2), some (.inl x3), some (.inl x4), some (.inl x5)], [], σ) (fX7_wordOf_L8 σ x1 x2 n x3 x4 x5) := by
  intro n
  induction n with
  | zero => intro x3 x4 x5; exact j_none
  | succ n ih =>
    intro x3 x4 x5
    rw [fX7_wordOf_L8]
    refine j_run 6 1 rfl ?_
    refine j_ldcS 7 0 rfl rfl ?_
    refine j_sLen 8 2 rfl rfl (by decide) (rok rfl rfl) (Nat.le_of_ble_eq_true rfl) ?_
    refine jc_icmp_ge 9 rfl rfl (fun h2 => ?_) (fun h2 => ?_)
    · refine j_ldcS 10 0 rfl rfl ?_
      refine j_run 11 1 rfl ?_
      refine j_sCh 12 3 rfl rfl (by decide) (rok rfl rfl) (Nat.le_of_ble_eq_true rfl) ?_
      refine j_run 13 1 rfl ?_
      refine jc_icmp_eq 14 rfl rfl (fun h4 => ?_) (fun h4 => ?_)
      · refine j_run 16 6 rfl ?_
        refine jc_icmp_ne 22 rfl rfl (fun h5 => ?_) (fun h5 => ?_)
        · refine j_run 23 6 rfl ?_
          refine j_cv 29 4 3 rfl rfl mwX7_isSame hp0.1 rfl rfl (eX7_isSame hA hp0 x4 x1 (bw (x2 - x1)) _) rfl rfl (rok rfl rfl) (Nat.le_of_ble_eq_true rfl) (fun r6 _ h6 => ?_)
          refine jc_if_eq 30 rfl rfl (fun h7 => ?_) (fun h7 => ?_)
          · refine j_run 33 5 rfl ?_
            refine j_run 38 1 rfl ?_
            refine j_goto 39 rfl rfl ?_
            exact j_weak (leP_s (leP_s (leP_s (leP_s (leP_s (leP_s (leP_z))))))) (ih (bw (x3 + 1)) (bw (x5 + 1)) (bw (x5 + 1)))
          · refine j_run 31 1 rfl ?_
            exact j_iret 32 rfl rfl rfl
        · refine j_run 33 5 rfl ?_
          refine j_run 38 1 rfl ?_
          refine j_goto 39 rfl rfl ?_
          exact j_weak (leP_s (leP_s (leP_s (leP_s (leP_s (leP_s (leP_z))))))) (ih (bw (x3 + 1)) (bw (x5 + 1)) (bw (x5 + 1)))
      · refine j_goto 15 rfl rfl ?_
        refine j_run 38 1 rfl ?_
        refine j_goto 39 rfl rfl ?_
        exact j_weak (leP_s (leP_s (leP_s (leP_s (leP_s (leP_s (leP_z))))))) (ih x3 x4 (bw (x5 + 1)))
    · refine j_run 40 1 rfl ?_
      exact j_iret 41 rfl rfl rfl
theorem eX7_wordOf {X : Cx} {ads : List Nat} {sk : List Sk} (hA : ads.length = sk.length ∧ sk.length ≤ 1000) (hp0 : ocT sk) (x1 : Int) (x2 : Int) (σ : Sg) : CF X mX7_wordOf ads sk [.inr (some 59), .inl x1, .inl x2] σ (wP σ) (fX7_wordOf x1 x2 σ) := by
  refine CF.of ⟨pX7_wordOf_ok, tbX7_ok, hA.1, hA.2⟩ (plainFor_of_name plX7) (Nat.le_of_ble_eq_true rfl) ?_
  show jX7_wordOf X ads sk σ (0, [some (.inr (some 59)), some (.inl x1), some (.inl x2), none, none, none], [], σ) (fX7_wordOf x1 x2 σ)
  unfold fX7_wordOf
  refine j_run 0 6 rfl ?_
  exact j_weak (leP_s (leP_s (leP_s (leP_s (leP_s (leP_s (leP_z))))))) (JX7_wordOf_L8 hA hp0 σ x1 x2 FU 3 0 0)
abbrev jX7_digitsEnd (X : Cx) (ads : List Nat) (sk : List Sk) (σ : Sg) (ps : PS) (res : Option (Int)) : Prop := J X mX7_digitsEnd pX7_digitsEnd tbX7 (rmD 1 0 0) 0 0 E0 (fun a => FM X mX7_digitsEnd ads sk ((wP σ) a)) ads sk ps res
theorem JX7_digitsEnd_L2 {X : Cx} {ads : List Nat} {sk : List Sk} (hA : ads.length = sk.length ∧ sk.length ≤ 1000) (hp0 : ocT sk) (σ : Sg) : ∀ (n : Nat) (x2 : Int), jX7_digitsEnd X ads sk σ (2, [some (.inr (some 59)), none, some (.inl x2)], [], σ) (fX7_digitsEnd_L2 σ n x2) := by
  intro n
  induction n with
  | zero => intro x2; exact j_none
  | succ n ih =>
    intro x2
    rw [fX7_digitsEnd_L2]
    refine j_run 2 2 rfl ?_
    refine j_gf 4 0 rfl rfl hp0.1 rfl ?_
    refine jc_icmp_ge 5 rfl rfl (fun h1 => ?_) (fun h1 => ?_)
    · refine j_run 6 2 rfl ?_
      refine j_cv 8 0 1 rfl rfl mwX7_sign hp0.1 rfl rfl (eX7_sign hA hp0 x2 _) rfl rfl (rok rfl rfl) (Nat.le_of_ble_eq_true rfl) (fun r2 _ h2 => ?_)
      refine j_csT 9 5 1 rfl rfl mwX7_isDigit (eX7_isDigit hA r2 _) rfl rfl (rok rfl rfl) (Nat.le_of_ble_eq_true rfl) (fun h3 => ?_)
      refine jc_if_ne 10 rfl rfl (fun h4 => ?_) (fun h4 => ?_)
      · refine j_run 11 1 rfl ?_
        exact j_iret 12 rfl rfl rfl
      · refine j_run 13 1 rfl ?_
        refine j_goto 14 rfl rfl ?_
        exact j_weak (leP_s (leP_n (leP_s (leP_z)))) (ih (bw (x2 + 1)))
    · refine j_run 15 1 rfl ?_
      refine j_gf 16 0 rfl rfl hp0.1 rfl ?_
      exact j_iret 17 rfl rfl rfl
theorem eX7_digitsEnd {X : Cx} {ads : List Nat} {sk : List Sk} (hA : ads.length = sk.length ∧ sk.length ≤ 1000) (hp0 : ocT sk) (x1 : Int) (σ : Sg) : CF X mX7_digitsEnd ads sk [.inr (some 59), .inl x1] σ (wP σ) (fX7_digitsEnd x1 σ) := by
  refine CF.of ⟨pX7_digitsEnd_ok, tbX7_ok, hA.1, hA.2⟩ (plainFor_of_name plX7) (Nat.le_of_ble_eq_true rfl) ?_
  show jX7_digitsEnd X ads sk σ (0, [some (.inr (some 59)), some (.inl x1), none], [], σ) (fX7_digitsEnd x1 σ)
  unfold fX7_digitsEnd
  refine j_run 0 2 rfl ?_
  exact j_weak (leP_s (leP_n (leP_s (leP_z)))) (JX7_digitsEnd_L2 hA hp0 σ FU x1)
abbrev jX7_valueOf (X : Cx) (ads : List Nat) (sk : List Sk) (σ : Sg) (ps : PS) (res : Option (Int)) : Prop := J X mX7_valueOf pX7_valueOf tbX7 (rmD 1 0 0) 0 0 E0 (fun a => FM X mX7_valueOf ads sk ((wP σ) a)) ads sk ps res
theorem JX7_valueOf_L5 {X : Cx} {ads : List Nat} {sk : List Sk} (hA : ads.length = sk.length ∧ sk.length ≤ 1000) (hp0 : ocT sk) (σ : Sg) (x2 : Int) : ∀ (n : Nat) (x3 : Int) (x4 : Int), jX7_valueOf X ads sk σ (5, [some (.inr (some 59)), none, some (.inl x2), some (.inl x3), some (.inl x4)], [], σ) (fX7_valueOf_L5 σ x2 n x3 x4) := by
  intro n
  induction n with
  | zero => intro x3 x4; exact j_none
  | succ n ih =>
    intro x3 x4
    rw [fX7_valueOf_L5]
    refine j_run 4 2 rfl ?_
    refine jc_icmp_ge 6 rfl rfl (fun h1 => ?_) (fun h1 => ?_)
    · refine j_run 7 5 rfl ?_
      refine j_cv 12 0 1 rfl rfl mwX7_sign hp0.1 rfl rfl (eX7_sign hA hp0 x4 _) rfl rfl (rok rfl rfl) (Nat.le_of_ble_eq_true rfl) (fun r2 _ h2 => ?_)
      refine j_run 13 5 rfl ?_
      refine j_goto 18 rfl rfl ?_
      exact j_weak (leP_s (leP_n (leP_s (leP_s (leP_s (leP_z)))))) (ih (bw ((bw ((bw (10 * x3)) + r2)) - 48)) (bw (x4 + 1)))
    · refine j_run 19 1 rfl ?_
      exact j_iret 20 rfl rfl rfl
theorem eX7_valueOf {X : Cx} {ads : List Nat} {sk : List Sk} (hA : ads.length = sk.length ∧ sk.length ≤ 1000) (hp0 : ocT sk) (x1 : Int) (x2 : Int) (σ : Sg) : CF X mX7_valueOf ads sk [.inr (some 59), .inl x1, .inl x2] σ (wP σ) (fX7_valueOf x1 x2 σ) := by
  refine CF.of ⟨pX7_valueOf_ok, tbX7_ok, hA.1, hA.2⟩ (plainFor_of_name plX7) (Nat.le_of_ble_eq_true rfl) ?_
  show jX7_valueOf X ads sk σ (0, [some (.inr (some 59)), some (.inl x1), some (.inl x2), none, none], [], σ) (fX7_valueOf x1 x2 σ)
  unfold fX7_valueOf
  refine j_run 0 4 rfl ?_
  exact j_weak (leP_s (leP_n (leP_s (leP_s (leP_s (leP_z)))))) (JX7_valueOf_L5 hA hp0 σ x2 FU 0 x1)
abbrev jX7_split (X : Cx) (ads : List Nat) (sk : List Sk) (ps : PS) (res : Option (Sg)) : Prop := J X mX7_split pX7_split tbX7 (rmD 10 0 0) 0 0 E0 (fun a => FM X mX7_split ads sk (wV a)) ads sk ps res
theorem JX7_split_J108 {X : Cx} {ads : List Nat} {sk : List Sk} (hA : ads.length = sk.length ∧ sk.length ≤ 1000) (hp0 : ocT sk) (x1 : Int) (x2 : Int) (x3 : Int) (z0 : Int) (k4 : Int → Int → Sg → Option (Sg)) (hk4 : ∀ (x1 : Int) (x3 : Int) (σ : Sg), jX7_split X ads sk (4, [some (.inr (some 59)), some (.inl x1), none, some (.inl x3), none], [], σ) (k4 x1 x3 σ)) (y0 : Int) (σ : Sg) : jX7_split X ads sk (108, [some (.inr (some 59)), some (.inl x1), some (.inl x2), some (.inl x3), none], [.inl y0, .inl z0, .inr (some 61)], σ) (fX7_split_J108 k4 x1 x2 x3 z0 y0 σ) := by
  unfold fX7_split_J108
  refine j_ast 61 rfl hp0.2.2.1 rfl ?_
  refine j_run 62 1 rfl ?_
  refine j_gr 63 4 rfl rfl hp0.1 rfl ?_
  refine j_run 64 4 rfl ?_
  refine j_cv 68 9 2 rfl rfl mwX7_valueOf hp0.1 rfl rfl (eX7_valueOf hA hp0 x3 x2 _) rfl rfl (rok rfl rfl) (Nat.le_of_ble_eq_true rfl) (fun r13 _ h13 => ?_)
  refine j_ast 69 rfl hp0.2.2.2.1 rfl ?_
  refine j_goto 70 rfl rfl ?_
  refine j_run 83 1 rfl ?_
  refine j_gr 84 3 rfl rfl hp0.1 rfl ?_
  refine j_run 85 2 rfl ?_
  refine j_ast 87 rfl hp0.2.2.2.2 rfl ?_
  refine j_run 88 1 rfl ?_
  refine j_run 89 2 rfl ?_
  refine j_goto 91 rfl rfl ?_
  exact j_weak (leP_s (leP_s (leP_n (leP_s (leP_n (leP_z)))))) (hk4 (bw (x1 + 1)) x2 _)
theorem JX7_split_L4 {X : Cx} {ads : List Nat} {sk : List Sk} (hA : ads.length = sk.length ∧ sk.length ≤ 1000) (hp0 : ocT sk) (k162 : Int → Sg → Option (Sg)) (hk162 : ∀ (x1 : Int) (σ : Sg), jX7_split X ads sk (162, [some (.inr (some 59)), some (.inl x1), none, none, none], [], σ) (k162 x1 σ)) : ∀ (n : Nat) (x1 : Int) (x3 : Int) (σ : Sg), jX7_split X ads sk (4, [some (.inr (some 59)), some (.inl x1), none, some (.inl x3), none], [], σ) (fX7_split_L4 k162 n x1 x3 σ) := by
  intro n
  induction n with
  | zero => intro x1 x3 σ; exact j_none
  | succ n ih =>
    intro x1 x3 σ
    rw [fX7_split_L4]
    refine j_run 4 2 rfl ?_
    refine j_gf 6 0 rfl rfl hp0.1 rfl ?_
    refine jc_icmp_ge 7 rfl rfl (fun h1 => ?_) (fun h1 => ?_)
    · refine j_run 8 2 rfl ?_
      refine j_cv 10 0 1 rfl rfl mwX7_sign hp0.1 rfl rfl (eX7_sign hA hp0 x3 _) rfl rfl (rok rfl rfl) (Nat.le_of_ble_eq_true rfl) (fun r2 _ h2 => ?_)
      refine j_run 11 7 rfl ?_
      refine jc_icmp_eq 18 rfl rfl (fun h3 => ?_) (fun h3 => ?_)
      · refine j_run 89 2 rfl ?_
        refine j_goto 91 rfl rfl ?_
        exact j_weak (leP_s (leP_s (leP_n (leP_s (leP_n (leP_z)))))) (ih x1 (bw (x3 + 1)) _)
      · refine j_run 19 2 rfl ?_
        refine jc_icmp_ne 21 rfl rfl (fun h4 => ?_) (fun h4 => ?_)
        · refine j_goto 22 rfl rfl ?_
          refine j_run 89 2 rfl ?_
          refine j_goto 91 rfl rfl ?_
          exact j_weak (leP_s (leP_s (leP_n (leP_s (leP_n (leP_z)))))) (ih x1 (bw (x3 + 1)) _)
        · refine j_run 23 1 rfl ?_
          refine j_csT 24 1 1 rfl rfl mwX7_isLetter (eX7_isLetter hA r2 _) rfl rfl (rok rfl rfl) (Nat.le_of_ble_eq_true rfl) (fun h5 => ?_)
          refine jc_if_eq 25 rfl rfl (fun h6 => ?_) (fun h6 => ?_)
          · refine j_run 41 1 rfl ?_
            refine j_csT 42 5 1 rfl rfl mwX7_isDigit (eX7_isDigit hA r2 _) rfl rfl (rok rfl rfl) (Nat.le_of_ble_eq_true rfl) (fun h7 => ?_)
            refine jc_if_eq 43 rfl rfl (fun h8 => ?_) (fun h8 => ?_)
            · refine j_run 71 1 rfl ?_
              refine j_gr 72 2 rfl rfl hp0.1 rfl ?_
              refine j_run 73 1 rfl ?_
              refine j_ldcS 74 1 rfl rfl ?_
              refine j_run 75 2 rfl ?_
              refine j_sIx 77 6 rfl rfl (by decide) (rok rfl rfl) (Nat.le_of_ble_eq_true rfl) ?_
              refine jc_if_lt 78 rfl rfl (fun h10 => ?_) (fun h10 => ?_)
              · refine j_run 81 1 rfl ?_
                refine j_ast 82 rfl hp0.2.2.1 rfl ?_
                refine j_run 83 1 rfl ?_
                refine j_gr 84 3 rfl rfl hp0.1 rfl ?_
                refine j_run 85 2 rfl ?_
                refine j_ast 87 rfl hp0.2.2.2.2 rfl ?_
                refine j_run 88 1 rfl ?_
                refine j_run 89 2 rfl ?_
                refine j_goto 91 rfl rfl ?_
                exact j_weak (leP_s (leP_s (leP_n (leP_s (leP_n (leP_z)))))) (ih (bw (x1 + 1)) (bw (x3 + 1)) _)
              · refine j_run 79 1 rfl ?_
                refine j_goto 80 rfl rfl ?_
                refine j_ast 82 rfl hp0.2.2.1 rfl ?_
                refine j_run 83 1 rfl ?_
                refine j_gr 84 3 rfl rfl hp0.1 rfl ?_
                refine j_run 85 2 rfl ?_
                refine j_ast 87 rfl hp0.2.2.2.2 rfl ?_
                refine j_run 88 1 rfl ?_
                refine j_run 89 2 rfl ?_
                refine j_goto 91 rfl rfl ?_
                exact j_weak (leP_s (leP_s (leP_n (leP_s (leP_n (leP_z)))))) (ih (bw (x1 + 1)) (bw (x3 + 1)) _)
            · refine j_run 44 3 rfl ?_
              refine j_cv 47 7 1 rfl rfl mwX7_digitsEnd hp0.1 rfl rfl (eX7_digitsEnd hA hp0 x3 _) rfl rfl (rok rfl rfl) (Nat.le_of_ble_eq_true rfl) (fun r11 _ h11 => ?_)
              refine j_csT 48 8 2 rfl rfl mwJ9_max_7cf53 (eJ9_max_7cf53 hA (bw (x3 + 1)) r11 _) rfl rfl (rok rfl rfl) (Nat.le_of_ble_eq_true rfl) (fun h12 => ?_)
              refine j_run 49 2 rfl ?_
              refine j_gr 51 2 rfl rfl hp0.1 rfl ?_
              refine j_run 52 5 rfl ?_
              refine jc_icmp_gt 57 rfl rfl (fun h14 => ?_) (fun h14 => ?_)
              · refine j_run 60 1 rfl ?_
                exact j_weak (leP_s (leP_s (leP_s (leP_s (leP_n (leP_z)))))) (JX7_split_J108 hA hp0 x1 (fJ9_max_7cf53 (bw (x3 + 1)) r11) x3 x1 _ ih 2 _)
              · refine j_run 58 1 rfl ?_
                refine j_goto 59 rfl rfl ?_
                exact j_weak (leP_s (leP_s (leP_s (leP_s (leP_n (leP_z)))))) (JX7_split_J108 hA hp0 x1 (fJ9_max_7cf53 (bw (x3 + 1)) r11) x3 x1 _ ih 1 _)
          · refine j_run 26 3 rfl ?_
            refine j_cv 29 10 1 rfl rfl mwX7_lettersEnd hp0.1 rfl rfl (eX7_lettersEnd hA hp0 x3 _) rfl rfl (rok rfl rfl) (Nat.le_of_ble_eq_true rfl) (fun r15 _ h15 => ?_)
            refine j_csT 30 8 2 rfl rfl mwJ9_max_7cf53 (eJ9_max_7cf53 hA (bw (x3 + 1)) r15 _) rfl rfl (rok rfl rfl) (Nat.le_of_ble_eq_true rfl) (fun h16 => ?_)
            refine j_run 31 2 rfl ?_
            refine j_gr 33 2 rfl rfl hp0.1 rfl ?_
            refine j_run 34 4 rfl ?_
            refine j_cv 38 11 2 rfl rfl mwX7_wordOf hp0.1 rfl rfl (eX7_wordOf hA hp0 x3 (fJ9_max_7cf53 (bw (x3 + 1)) r15) _) rfl rfl (rok rfl rfl) (Nat.le_of_ble_eq_true rfl) (fun r17 _ h17 => ?_)
            refine j_ast 39 rfl hp0.2.2.1 rfl ?_
            refine j_goto 40 rfl rfl ?_
            refine j_run 83 1 rfl ?_
            refine j_gr 84 3 rfl rfl hp0.1 rfl ?_
            refine j_run 85 2 rfl ?_
            refine j_ast 87 rfl hp0.2.2.2.2 rfl ?_
            refine j_run 88 1 rfl ?_
            refine j_run 89 2 rfl ?_
            refine j_goto 91 rfl rfl ?_
            exact j_weak (leP_s (leP_s (leP_n (leP_s (leP_n (leP_z)))))) (ih (bw (x1 + 1)) (fJ9_max_7cf53 (bw (x3 + 1)) r15) _)
    · exact j_weak (leP_s (leP_s (leP_n (leP_n (leP_n (leP_z)))))) (hk162 x1 _)
theorem eX7_split {X : Cx} {ads : List Nat} {sk : List Sk} (hA : ads.length = sk.length ∧ sk.length ≤ 1000) (hp0 : ocT sk) (σ : Sg) : CF X mX7_split ads sk [.inr (some 59)] σ wV (fX7_split σ) := by
  refine CF.of ⟨pX7_split_ok, tbX7_ok, hA.1, hA.2⟩ (plainFor_of_name plX7) (Nat.le_of_ble_eq_true rfl) ?_
  show jX7_split X ads sk (0, [some (.inr (some 59)), none, none, none, none], [], σ) (fX7_split σ)
  unfold fX7_split
  refine j_run 0 4 rfl ?_
  refine j_weak (leP_s (leP_s (leP_n (leP_s (leP_n (leP_z)))))) (JX7_split_L4 hA hp0 _ (fun v18_1 s18 => ?_) FU 0 0 _)
  refine j_run 92 1 rfl ?_
  refine j_gr 93 2 rfl rfl hp0.1 rfl ?_
  refine j_run 94 2 rfl ?_
  refine j_ast 96 rfl hp0.2.2.1 rfl ?_
  refine j_run 97 1 rfl ?_
  refine j_gr 98 3 rfl rfl hp0.1 rfl ?_
  refine j_run 99 2 rfl ?_
  refine j_gf 101 0 rfl rfl hp0.1 rfl ?_
  refine j_ast 102 rfl hp0.2.2.2.2 rfl ?_
  exact j_vret 103 rfl rfl rfl
abbrev jX9_isSteep (X : Cx) (ads : List Nat) (sk : List Sk) (σ : Sg) (ps : PS) (res : Option (Int)) : Prop := J X mX9_isSteep pX9_isSteep tbX9 (rmD 0 0 0) 0 0 E0 (fun a => FM X mX9_isSteep ads sk ((wP σ) a)) ads sk ps res
theorem eX9_isSteep {X : Cx} {ads : List Nat} {sk : List Sk} (hA : ads.length = sk.length ∧ sk.length ≤ 1000) {c0 : Nat} (hp0 : ocW sk c0) (x1 : Int) (σ : Sg) : CF X mX9_isSteep ads sk [.inr (some c0), .inl x1] σ (wP σ) (fX9_isSteep c0 x1 σ) := by
  refine CF.of ⟨pX9_isSteep_ok, tbX9_ok, hA.1, hA.2⟩ (plainFor_of_name plX9) (Nat.le_of_ble_eq_true rfl) ?_
  show jX9_isSteep X ads sk σ (0, [some (.inr (some c0)), some (.inl x1)], [], σ) (fX9_isSteep c0 x1 σ)
  unfold fX9_isSteep
  refine j_run 0 1 rfl ?_
  refine j_gr 1 10 rfl rfl hp0.1 rfl ?_
  refine j_run 2 1 rfl ?_
  refine j_ald 3 rfl hp0.2.1 rfl ?_
  refine j_run 4 1 rfl ?_
  refine j_gf 5 11 rfl rfl hp0.1 rfl ?_
  refine jc_icmp_lt 6 rfl rfl (fun h1 => ?_) (fun h1 => ?_)
  · refine j_run 9 1 rfl ?_
    exact j_zret 10 rfl rfl (by decide) rfl
  · refine j_run 7 1 rfl ?_
    refine j_goto 8 rfl rfl ?_
    exact j_zret 10 rfl rfl (by decide) rfl
abbrev jX9_beside (X : Cx) (ads : List Nat) (sk : List Sk) (σ : Sg) (ps : PS) (res : Option (Int)) : Prop := J X mX9_beside pX9_beside tbX9 (rmD 0 0 0) 0 0 E0 (fun a => FM X mX9_beside ads sk ((wP σ) a)) ads sk ps res
theorem JX9_beside_J50 {X : Cx} {ads : List Nat} {sk : List Sk} (hA : ads.length = sk.length ∧ sk.length ≤ 1000) {c0 : Nat} (hp0 : ocW sk c0) (σ : Sg) (x3 : Int) (z0 : Int) (y0 : Int) : jX9_beside X ads sk σ (50, [some (.inr (some c0)), none, none, some (.inl x3), none], [.inl y0, .inl z0], σ) (some (fX9_beside_J50 c0 σ x3 z0 y0)) := by
  unfold fX9_beside_J50
  refine j_run 33 3 rfl ?_
  refine jt_if_lt 36 rfl rfl (fun h1 => ?_) (fun h1 => ?_)
  · refine j_run 47 1 rfl ?_
    refine j_goto 48 rfl rfl ?_
    exact j_iret 54 rfl rfl rfl
  · refine j_run 37 2 rfl ?_
    refine j_gf 39 5 rfl rfl hp0.1 rfl ?_
    refine jt_icmp_ge 40 rfl rfl (fun h2 => ?_) (fun h2 => ?_)
    · refine j_run 41 1 rfl ?_
      refine jt_if_lt 42 rfl rfl (fun h3 => ?_) (fun h3 => ?_)
      · refine j_run 47 1 rfl ?_
        refine j_goto 48 rfl rfl ?_
        exact j_iret 54 rfl rfl rfl
      · refine j_run 43 2 rfl ?_
        refine j_gf 45 6 rfl rfl hp0.1 rfl ?_
        refine jt_icmp_lt 46 rfl rfl (fun h4 => ?_) (fun h4 => ?_)
        · refine j_run 49 5 rfl ?_
          exact j_iret 54 rfl rfl rfl
        · refine j_run 47 1 rfl ?_
          refine j_goto 48 rfl rfl ?_
          exact j_iret 54 rfl rfl rfl
    · refine j_run 47 1 rfl ?_
      refine j_goto 48 rfl rfl ?_
      exact j_iret 54 rfl rfl rfl
theorem JX9_beside_J40 {X : Cx} {ads : List Nat} {sk : List Sk} (hA : ads.length = sk.length ∧ sk.length ≤ 1000) {c0 : Nat} (hp0 : ocW sk c0) (σ : Sg) (x2 : Int) (x3 : Int) (z0 : Int) (y0 : Int) : jX9_beside X ads sk σ (40, [some (.inr (some c0)), none, some (.inl x2), some (.inl x3), none], [.inl y0, .inl z0], σ) (some (fX9_beside_J40 c0 σ x2 x3 z0 y0)) := by
  unfold fX9_beside_J40
  refine j_run 27 2 rfl ?_
  refine jt_if_ne 29 rfl rfl (fun h5 => ?_) (fun h5 => ?_)
  · refine j_run 30 1 rfl ?_
    refine j_goto 31 rfl rfl ?_
    exact j_weak (leP_s (leP_n (leP_n (leP_s (leP_n (leP_z)))))) (JX9_beside_J50 hA hp0 σ x3 (bw (z0 + y0)) 1)
  · refine j_run 32 1 rfl ?_
    exact j_weak (leP_s (leP_n (leP_n (leP_s (leP_n (leP_z)))))) (JX9_beside_J50 hA hp0 σ x3 (bw (z0 + y0)) 0)
theorem JX9_beside_J25 {X : Cx} {ads : List Nat} {sk : List Sk} (hA : ads.length = sk.length ∧ sk.length ≤ 1000) {c0 : Nat} (hp0 : ocW sk c0) (σ : Sg) (x1 : Int) (x2 : Int) (z0 : Int) (y0 : Int) : jX9_beside X ads sk σ (25, [some (.inr (some c0)), some (.inl x1), some (.inl x2), none, none], [.inl y0, .inl z0], σ) (some (fX9_beside_J25 c0 σ x1 x2 z0 y0)) := by
  unfold fX9_beside_J25
  refine j_run 16 7 rfl ?_
  refine jt_icmp_ne 23 rfl rfl (fun h6 => ?_) (fun h6 => ?_)
  · refine j_run 24 1 rfl ?_
    refine j_goto 25 rfl rfl ?_
    exact j_weak (leP_s (leP_n (leP_s (leP_s (leP_n (leP_z)))))) (JX9_beside_J40 hA hp0 σ x2 (bw (z0 - y0)) (bshr x1 3) 1)
  · refine j_run 26 1 rfl ?_
    exact j_weak (leP_s (leP_n (leP_s (leP_s (leP_n (leP_z)))))) (JX9_beside_J40 hA hp0 σ x2 (bw (z0 - y0)) (bshr x1 3) 0)
theorem JX9_beside_J14 {X : Cx} {ads : List Nat} {sk : List Sk} (hA : ads.length = sk.length ∧ sk.length ≤ 1000) {c0 : Nat} (hp0 : ocW sk c0) (σ : Sg) (x1 : Int) (x2 : Int) (z0 : Int) (y0 : Int) : jX9_beside X ads sk σ (14, [some (.inr (some c0)), some (.inl x1), some (.inl x2), none, none], [.inl y0, .inl z0], σ) (some (fX9_beside_J14 c0 σ x1 x2 z0 y0)) := by
  unfold fX9_beside_J14
  refine j_run 9 3 rfl ?_
  refine jt_icmp_ne 12 rfl rfl (fun h7 => ?_) (fun h7 => ?_)
  · refine j_run 13 1 rfl ?_
    refine j_goto 14 rfl rfl ?_
    exact j_weak (leP_s (leP_s (leP_s (leP_n (leP_n (leP_z)))))) (JX9_beside_J25 hA hp0 σ x1 x2 (bw (z0 + y0)) 1)
  · refine j_run 15 1 rfl ?_
    exact j_weak (leP_s (leP_s (leP_s (leP_n (leP_n (leP_z)))))) (JX9_beside_J25 hA hp0 σ x1 x2 (bw (z0 + y0)) 0)
theorem eX9_beside {X : Cx} {ads : List Nat} {sk : List Sk} (hA : ads.length = sk.length ∧ sk.length ≤ 1000) {c0 : Nat} (hp0 : ocW sk c0) (x1 : Int) (x2 : Int) (σ : Sg) : CF X mX9_beside ads sk [.inr (some c0), .inl x1, .inl x2] σ (wP σ) (some (fX9_beside c0 x1 x2 σ)) := by
  refine CF.of ⟨pX9_beside_ok, tbX9_ok, hA.1, hA.2⟩ (plainFor_of_name plX9) (Nat.le_of_ble_eq_true rfl) ?_
  show jX9_beside X ads sk σ (0, [some (.inr (some c0)), some (.inl x1), some (.inl x2), none, none], [], σ) (some (fX9_beside c0 x1 x2 σ))
  unfold fX9_beside
  refine j_run 0 5 rfl ?_
  refine jt_icmp_ne 5 rfl rfl (fun h8 => ?_) (fun h8 => ?_)
  · refine j_run 6 1 rfl ?_
    refine j_goto 7 rfl rfl ?_
    exact j_weak (leP_s (leP_s (leP_s (leP_n (leP_n (leP_z)))))) (JX9_beside_J14 hA hp0 σ x1 x2 (band x1 7) 1)
  · refine j_run 8 1 rfl ?_
    exact j_weak (leP_s (leP_s (leP_s (leP_n (leP_n (leP_z)))))) (JX9_beside_J14 hA hp0 σ x1 x2 (band x1 7) 0)
abbrev jX8_fewestSteps (X : Cx) (ads : List Nat) (sk : List Sk) (ps : PS) (res : Option (Int × Sg)) : Prop := J X mX8_fewestSteps pX8_fewestSteps tbX8 (rmD 1 0 0) 0 0 E0 (fun a => FM X mX8_fewestSteps ads sk (wE a)) ads sk ps res
theorem JX8_fewestSteps_L21 {X : Cx} {ads : List Nat} {sk : List Sk} (hA : ads.length = sk.length ∧ sk.length ≤ 1000) (hp0 : ocY sk) {c1 : Nat} (hp1 : ocW sk c1) (x2 : Int) (x3 : Int) (k42 : Sg → Option (Int × Sg)) (hk42 : ∀  (σ : Sg), jX8_fewestSteps X ads sk (42, [some (.inr (some 74)), some (.inr (some c1)), some (.inl x2), some (.inl x3), none, none, none, none], [], σ) (k42 σ)) : ∀ (n : Nat) (x4 : Int) (σ : Sg), jX8_fewestSteps X ads sk (21, [some (.inr (some 74)), some (.inr (some c1)), some (.inl x2), some (.inl x3), some (.inl x4), none, none, none], [], σ) (fX8_fewestSteps_L21 c1 k42 x2 x3 n x4 σ) := by
  intro n
  induction n with
  | zero => intro x4 σ; exact j_none
  | succ n ih =>
    intro x4 σ
    rw [fX8_fewestSteps_L21]
    refine j_run 12 2 rfl ?_
    refine jc_icmp_ge 14 rfl rfl (fun h5 => ?_) (fun h5 => ?_)
    · refine j_run 15 1 rfl ?_
      refine j_gr 16 0 rfl rfl hp0.1 rfl ?_
      refine j_run 17 2 rfl ?_
      refine j_ast 19 rfl hp0.2.2.1 rfl ?_
      refine j_run 20 1 rfl ?_
      refine j_goto 21 rfl rfl ?_
      exact j_weak (leP_s (leP_s (leP_s (leP_s (leP_s (leP_n (leP_n (leP_n (leP_z))))))))) (ih (bw (x4 + 1)) _)
    · exact j_weak (leP_s (leP_s (leP_s (leP_s (leP_n (leP_n (leP_n (leP_n (leP_z))))))))) (hk42 _)
theorem JX8_fewestSteps_L95 {X : Cx} {ads : List Nat} {sk : List Sk} (hA : ads.length = sk.length ∧ sk.length ≤ 1000) (hp0 : ocY sk) {c1 : Nat} (hp1 : ocW sk c1) (x3 : Int) (x4 : Int) (x5 : Int) (k64 : Int → Sg → Option (Int × Sg)) (hk64 : ∀ (x4 : Int) (σ : Sg), jX8_fewestSteps X ads sk (64, [some (.inr (some 74)), some (.inr (some c1)), none, some (.inl x3), some (.inl x4), none, none, none], [], σ) (k64 x4 σ)) : ∀ (n : Nat) (x6 : Int) (σ : Sg), jX8_fewestSteps X ads sk (95, [some (.inr (some 74)), some (.inr (some c1)), none, some (.inl x3), some (.inl x4), some (.inl x5), some (.inl x6), none], [], σ) (fX8_fewestSteps_L95 c1 k64 x3 x4 x5 n x6 σ) := by
  intro n
  induction n with
  | zero => intro x6 σ; exact j_none
  | succ n ih =>
    intro x6 σ
    rw [fX8_fewestSteps_L95]
    refine j_run 54 2 rfl ?_
    refine jc_icmp_ge 56 rfl rfl (fun h9 => ?_) (fun h9 => ?_)
    · refine j_run 57 3 rfl ?_
      refine j_cvT 60 1 2 rfl rfl mwX9_beside hp1.1 rfl rfl (eX9_beside hA hp1 x5 x6 _) rfl rfl (rok rfl rfl) (Nat.le_of_ble_eq_true rfl) (fun h10 => ?_)
      refine j_run 61 3 rfl ?_
      refine jc_icmp_eq 64 rfl rfl (fun h11 => ?_) (fun h11 => ?_)
      · refine j_run 97 1 rfl ?_
        refine j_goto 98 rfl rfl ?_
        exact j_weak (leP_s (leP_s (leP_n (leP_s (leP_s (leP_s (leP_s (leP_n (leP_z))))))))) (ih (bw (x6 + 1)) _)
      · refine j_run 65 1 rfl ?_
        refine j_gr 66 0 rfl rfl hp0.1 rfl ?_
        refine j_run 67 1 rfl ?_
        refine j_ald 68 rfl hp0.2.2.1 rfl ?_
        refine j_run 69 1 rfl ?_
        refine jc_icmp_ne 70 rfl rfl (fun h12 => ?_) (fun h12 => ?_)
        · refine j_run 71 2 rfl ?_
          refine j_cv 73 0 1 rfl rfl mwX9_isSteep hp1.1 rfl rfl (eX9_isSteep hA hp1 (fX9_beside c1 x5 x6 σ) _) rfl rfl (rok rfl rfl) (Nat.le_of_ble_eq_true rfl) (fun r13 _ h13 => ?_)
          refine jc_if_ne 74 rfl rfl (fun h14 => ?_) (fun h14 => ?_)
          · refine j_run 75 1 rfl ?_
            refine j_gr 76 0 rfl rfl hp0.1 rfl ?_
            refine j_run 77 2 rfl ?_
            refine j_gr 79 0 rfl rfl hp0.1 rfl ?_
            refine j_run 80 1 rfl ?_
            refine j_ald 81 rfl hp0.2.2.1 rfl ?_
            refine j_run 82 2 rfl ?_
            refine j_ast 84 rfl hp0.2.2.1 rfl ?_
            refine j_run 85 1 rfl ?_
            refine j_gr 86 1 rfl rfl hp0.1 rfl ?_
            refine j_run 87 1 rfl ?_
            refine j_gf 88 2 rfl rfl hp0.1 rfl ?_
            refine j_run 89 1 rfl ?_
            refine j_ast 90 rfl hp0.2.1 rfl ?_
            refine j_run 91 2 rfl ?_
            refine j_gf 93 2 rfl rfl hp0.1 rfl ?_
            refine j_run 94 2 rfl ?_
            refine j_pf 96 2 rfl rfl hp0.1 rfl rfl (Or.inl rfl) ?_
            refine j_run 97 1 rfl ?_
            refine j_goto 98 rfl rfl ?_
            exact j_weak (leP_s (leP_s (leP_n (leP_s (leP_s (leP_s (leP_s (leP_n (leP_z))))))))) (ih (bw (x6 + 1)) _)
          · refine j_run 97 1 rfl ?_
            refine j_goto 98 rfl rfl ?_
            exact j_weak (leP_s (leP_s (leP_n (leP_s (leP_s (leP_s (leP_s (leP_n (leP_z))))))))) (ih (bw (x6 + 1)) _)
        · refine j_run 97 1 rfl ?_
          refine j_goto 98 rfl rfl ?_
          exact j_weak (leP_s (leP_s (leP_n (leP_s (leP_s (leP_s (leP_s (leP_n (leP_z))))))))) (ih (bw (x6 + 1)) _)
    · refine j_run 99 1 rfl ?_
      refine j_goto 100 rfl rfl ?_
      exact j_weak (leP_s (leP_s (leP_n (leP_s (leP_s (leP_n (leP_n (leP_n (leP_z))))))))) (hk64 (bw (x4 + 1)) _)
theorem JX8_fewestSteps_L64 {X : Cx} {ads : List Nat} {sk : List Sk} (hA : ads.length = sk.length ∧ sk.length ≤ 1000) (hp0 : ocY sk) {c1 : Nat} (hp1 : ocW sk c1) (x3 : Int) : ∀ (n : Nat) (x4 : Int) (σ : Sg), jX8_fewestSteps X ads sk (64, [some (.inr (some 74)), some (.inr (some c1)), none, some (.inl x3), some (.inl x4), none, none, none], [], σ) (fX8_fewestSteps_L64 c1 x3 n x4 σ) := by
  intro n
  induction n with
  | zero => intro x4 σ; exact j_none
  | succ n ih =>
    intro x4 σ
    rw [fX8_fewestSteps_L64]
    refine j_run 37 2 rfl ?_
    refine j_gf 39 2 rfl rfl hp0.1 rfl ?_
    refine jc_icmp_ge 40 rfl rfl (fun h7 => ?_) (fun h7 => ?_)
    · refine j_run 41 1 rfl ?_
      refine j_gr 42 0 rfl rfl hp0.1 rfl ?_
      refine j_run 43 1 rfl ?_
      refine j_ald 44 rfl hp0.2.2.1 rfl ?_
      refine j_run 45 1 rfl ?_
      refine jc_icmp_ne 46 rfl rfl (fun h8 => ?_) (fun h8 => ?_)
      · refine j_run 47 1 rfl ?_
        refine j_gr 48 1 rfl rfl hp0.1 rfl ?_
        refine j_run 49 1 rfl ?_
        refine j_ald 50 rfl hp0.2.1 rfl ?_
        refine j_run 51 3 rfl ?_
        exact j_weak (leP_s (leP_s (leP_n (leP_s (leP_s (leP_s (leP_s (leP_n (leP_z))))))))) (JX8_fewestSteps_L95 hA hp0 hp1 x3 x4 (rd σ 75 x4) _ ih FU 0 _)
      · refine j_run 101 1 rfl ?_
        refine j_gr 102 0 rfl rfl hp0.1 rfl ?_
        refine j_run 103 1 rfl ?_
        refine j_ald 104 rfl hp0.2.2.1 rfl ?_
        exact j_iret 105 rfl rfl rfl
    · refine j_run 101 1 rfl ?_
      refine j_gr 102 0 rfl rfl hp0.1 rfl ?_
      refine j_run 103 1 rfl ?_
      refine j_ald 104 rfl hp0.2.2.1 rfl ?_
      exact j_iret 105 rfl rfl rfl
theorem eX8_fewestSteps {X : Cx} {ads : List Nat} {sk : List Sk} (hA : ads.length = sk.length ∧ sk.length ≤ 1000) (hp0 : ocY sk) {c1 : Nat} (hp1 : ocW sk c1) (x2 : Int) (x3 : Int) (σ : Sg) : CF X mX8_fewestSteps ads sk [.inr (some 74), .inr (some c1), .inl x2, .inl x3] σ wE (fX8_fewestSteps c1 x2 x3 σ) := by
  refine CF.of ⟨pX8_fewestSteps_ok, tbX8_ok, hA.1, hA.2⟩ (plainFor_of_name plX8) (Nat.le_of_ble_eq_true rfl) ?_
  show jX8_fewestSteps X ads sk (0, [some (.inr (some 74)), some (.inr (some c1)), some (.inl x2), some (.inl x3), none, none, none, none], [], σ) (fX8_fewestSteps c1 x2 x3 σ)
  unfold fX8_fewestSteps
  refine j_run 0 2 rfl ?_
  refine j_cv 2 0 1 rfl rfl mwX9_isSteep hp1.1 rfl rfl (eX9_isSteep hA hp1 x2 _) rfl rfl (rok rfl rfl) (Nat.le_of_ble_eq_true rfl) (fun r1 _ h1 => ?_)
  refine jc_if_ne 3 rfl rfl (fun h2 => ?_) (fun h2 => ?_)
  · refine j_run 4 2 rfl ?_
    refine j_cv 6 0 1 rfl rfl mwX9_isSteep hp1.1 rfl rfl (eX9_isSteep hA hp1 x3 _) rfl rfl (rok rfl rfl) (Nat.le_of_ble_eq_true rfl) (fun r3 _ h3 => ?_)
    refine jc_if_eq 7 rfl rfl (fun h4 => ?_) (fun h4 => ?_)
    · refine j_run 10 2 rfl ?_
      refine j_weak (leP_s (leP_s (leP_s (leP_s (leP_s (leP_n (leP_n (leP_n (leP_z))))))))) (JX8_fewestSteps_L21 hA hp0 hp1 x2 x3 _ (fun s6 => ?_) FU 0 _)
      refine j_run 22 1 rfl ?_
      refine j_gr 23 0 rfl rfl hp0.1 rfl ?_
      refine j_run 24 2 rfl ?_
      refine j_ast 26 rfl hp0.2.2.1 rfl ?_
      refine j_run 27 1 rfl ?_
      refine j_gr 28 1 rfl rfl hp0.1 rfl ?_
      refine j_run 29 2 rfl ?_
      refine j_ast0 31 rfl hp0.2.1 (by decide) ?_
      refine j_run 32 2 rfl ?_
      refine j_pf 34 2 rfl rfl hp0.1 rfl rfl (Or.inl rfl) ?_
      refine j_run 35 2 rfl ?_
      exact j_weak (leP_s (leP_s (leP_n (leP_s (leP_s (leP_n (leP_n (leP_n (leP_z))))))))) (JX8_fewestSteps_L64 hA hp0 hp1 x3 FU 0 _)
    · refine j_run 8 1 rfl ?_
      exact j_iret 9 rfl rfl rfl
  · refine j_run 8 1 rfl ?_
    exact j_iret 9 rfl rfl rfl
abbrev jX8_reach (X : Cx) (ads : List Nat) (sk : List Sk) (ps : PS) (res : Option (Sg)) : Prop := J X mX8_reach pX8_reach tbX8 (rmD 0 0 0) 0 0 E0 (fun a => FM X mX8_reach ads sk (wV a)) ads sk ps res
theorem eX8_reach {X : Cx} {ads : List Nat} {sk : List Sk} (hA : ads.length = sk.length ∧ sk.length ≤ 1000) (hp0 : ocY sk) (x1 : Int) (x2 : Int) (σ : Sg) : CF X mX8_reach ads sk [.inr (some 74), .inl x1, .inl x2] σ wV (fX8_reach x1 x2 σ) := by
  refine CF.of ⟨pX8_reach_ok, tbX8_ok, hA.1, hA.2⟩ (plainFor_of_name plX8) (Nat.le_of_ble_eq_true rfl) ?_
  show jX8_reach X ads sk (0, [some (.inr (some 74)), some (.inl x1), some (.inl x2)], [], σ) (fX8_reach x1 x2 σ)
  unfold fX8_reach
  refine j_run 0 1 rfl ?_
  refine j_gr 1 3 rfl rfl hp0.1 rfl ?_
  refine j_run 2 1 rfl ?_
  refine j_ald 3 rfl hp0.2.2.2.1 rfl ?_
  refine j_run 4 1 rfl ?_
  refine jc_icmp_ne 5 rfl rfl (fun h1 => ?_) (fun h1 => ?_)
  · refine j_run 6 1 rfl ?_
    refine j_gf 7 2 rfl rfl hp0.1 rfl ?_
    refine j_run 8 1 rfl ?_
    refine j_gr 9 1 rfl rfl hp0.1 rfl ?_
    refine j_alen 10 rfl hp0.2.1 rfl (by decide) ?_
    refine jc_icmp_ge 11 rfl rfl (fun h2 => ?_) (fun h2 => ?_)
    · refine j_run 12 1 rfl ?_
      refine j_gr 13 3 rfl rfl hp0.1 rfl ?_
      refine j_run 14 2 rfl ?_
      refine j_ast 16 rfl hp0.2.2.2.1 rfl ?_
      refine j_run 17 1 rfl ?_
      refine j_gr 18 1 rfl rfl hp0.1 rfl ?_
      refine j_run 19 1 rfl ?_
      refine j_gf 20 2 rfl rfl hp0.1 rfl ?_
      refine j_run 21 1 rfl ?_
      refine j_ast 22 rfl hp0.2.1 rfl ?_
      refine j_run 23 2 rfl ?_
      refine j_gf 25 2 rfl rfl hp0.1 rfl ?_
      refine j_run 26 2 rfl ?_
      refine j_pf 28 2 rfl rfl hp0.1 rfl rfl (Or.inl rfl) ?_
      exact j_vret 29 rfl rfl rfl
    · exact j_vret 29 rfl rfl rfl
  · exact j_vret 29 rfl rfl rfl
abbrev jX8_search (X : Cx) (ads : List Nat) (sk : List Sk) (ps : PS) (res : Option (Int × Sg)) : Prop := J X mX8_search pX8_search tbX8 (rmD 1 0 0) 0 0 E0 (fun a => FM X mX8_search ads sk (wE a)) ads sk ps res
theorem JX8_search_L3 {X : Cx} {ads : List Nat} {sk : List Sk} (hA : ads.length = sk.length ∧ sk.length ≤ 1000) (hp0 : ocY sk) {c1 : Nat} (hp1 : ocW sk c1) (x2 : Int) (x3 : Int) (k24 : Sg → Option (Int × Sg)) (hk24 : ∀  (σ : Sg), jX8_search X ads sk (24, [some (.inr (some 74)), some (.inr (some c1)), some (.inl x2), some (.inl x3), none, none, none, none, none, none, none], [], σ) (k24 σ)) : ∀ (n : Nat) (x4 : Int) (σ : Sg), jX8_search X ads sk (3, [some (.inr (some 74)), some (.inr (some c1)), some (.inl x2), some (.inl x3), some (.inl x4), none, none, none, none, none, none], [], σ) (fX8_search_L3 c1 k24 x2 x3 n x4 σ) := by
  intro n
  induction n with
  | zero => intro x4 σ; exact j_none
  | succ n ih =>
    intro x4 σ
    rw [fX8_search_L3]
    refine j_run 2 2 rfl ?_
    refine jc_icmp_ge 4 rfl rfl (fun h1 => ?_) (fun h1 => ?_)
    · refine j_run 5 1 rfl ?_
      refine j_gr 6 3 rfl rfl hp0.1 rfl ?_
      refine j_run 7 2 rfl ?_
      refine j_ast 9 rfl hp0.2.2.2.1 rfl ?_
      refine j_run 10 1 rfl ?_
      refine j_goto 11 rfl rfl ?_
      exact j_weak (leP_s (leP_s (leP_s (leP_s (leP_s (leP_n (leP_n (leP_n (leP_n (leP_n (leP_n (leP_z)))))))))))) (ih (bw (x4 + 1)) _)
    · exact j_weak (leP_s (leP_s (leP_s (leP_s (leP_n (leP_n (leP_n (leP_n (leP_n (leP_n (leP_n (leP_z)))))))))))) (hk24 _)
theorem JX8_search_J206 {X : Cx} {ads : List Nat} {sk : List Sk} (hA : ads.length = sk.length ∧ sk.length ≤ 1000) (hp0 : ocY sk) {c1 : Nat} (hp1 : ocW sk c1) (x3 : Int) (x5 : Int) (x6 : Int) (x7 : Int) (x8 : Int) (x9 : Int) (x10 : Int) (k142 : Int → Sg → Option (Int × Sg)) (hk142 : ∀ (x9 : Int) (σ : Sg), jX8_search X ads sk (142, [some (.inr (some 74)), some (.inr (some c1)), none, some (.inl x3), none, some (.inl x5), some (.inl x6), some (.inl x7), some (.inl x8), some (.inl x9), none], [], σ) (k142 x9 σ)) (σ : Sg) : jX8_search X ads sk (206, [some (.inr (some 74)), some (.inr (some c1)), none, some (.inl x3), none, some (.inl x5), some (.inl x6), some (.inl x7), some (.inl x8), some (.inl x9), some (.inl x10)], [], σ) (fX8_search_J206 c1 k142 x3 x5 x6 x7 x8 x9 x10 σ) := by
  unfold fX8_search_J206
  refine j_run 117 1 rfl ?_
  refine jc_if_ne 118 rfl rfl (fun h10 => ?_) (fun h10 => ?_)
  · refine j_run 119 1 rfl ?_
    refine j_gr 120 5 rfl rfl hp0.1 rfl ?_
    refine j_run 121 7 rfl ?_
    refine j_rem0 128 rfl (by decide) ?_
    refine j_run 129 1 rfl ?_
    refine j_zald 130 rfl hp0.2.2.2.2.2 rfl ?_
    refine jc_if_eq 131 rfl rfl (fun h11 => ?_) (fun h11 => ?_)
    · refine j_run 140 1 rfl ?_
      refine j_goto 141 rfl rfl ?_
      exact j_weak (leP_s (leP_s (leP_n (leP_s (leP_n (leP_s (leP_s (leP_s (leP_s (leP_s (leP_n (leP_z)))))))))))) (hk142 (bw (x9 + 1)) _)
    · refine j_run 132 7 rfl ?_
      refine j_cv 139 2 2 rfl rfl mwX8_reach hp0.1 rfl rfl (eX8_reach hA hp0 (bw ((bw (2 * x10)) + 1)) x6 _) rfl rfl (rok rfl rfl) (Nat.le_of_ble_eq_true rfl) (fun s12 _ h12 => ?_)
      refine j_run 140 1 rfl ?_
      refine j_goto 141 rfl rfl ?_
      exact j_weak (leP_s (leP_s (leP_n (leP_s (leP_n (leP_s (leP_s (leP_s (leP_s (leP_s (leP_n (leP_z)))))))))))) (hk142 (bw (x9 + 1)) _)
  · refine j_run 140 1 rfl ?_
    refine j_goto 141 rfl rfl ?_
    exact j_weak (leP_s (leP_s (leP_n (leP_s (leP_n (leP_s (leP_s (leP_s (leP_s (leP_s (leP_n (leP_z)))))))))))) (hk142 (bw (x9 + 1)) _)
theorem JX8_search_L142 {X : Cx} {ads : List Nat} {sk : List Sk} (hA : ads.length = sk.length ∧ sk.length ≤ 1000) (hp0 : ocY sk) {c1 : Nat} (hp1 : ocW sk c1) (x3 : Int) (x5 : Int) (x6 : Int) (x7 : Int) (x8 : Int) (k66 : Int → Sg → Option (Int × Sg)) (hk66 : ∀ (x5 : Int) (σ : Sg), jX8_search X ads sk (66, [some (.inr (some 74)), some (.inr (some c1)), none, some (.inl x3), none, some (.inl x5), none, none, none, none, none], [], σ) (k66 x5 σ)) : ∀ (n : Nat) (x9 : Int) (σ : Sg), jX8_search X ads sk (142, [some (.inr (some 74)), some (.inr (some c1)), none, some (.inl x3), none, some (.inl x5), some (.inl x6), some (.inl x7), some (.inl x8), some (.inl x9), none], [], σ) (fX8_search_L142 c1 k66 x3 x5 x6 x7 x8 n x9 σ) := by
  intro n
  induction n with
  | zero => intro x9 σ; exact j_none
  | succ n ih =>
    intro x9 σ
    rw [fX8_search_L142]
    refine j_run 84 2 rfl ?_
    refine jc_icmp_ge 86 rfl rfl (fun h5 => ?_) (fun h5 => ?_)
    · refine j_run 87 3 rfl ?_
      refine j_cvT 90 1 2 rfl rfl mwX9_beside hp1.1 rfl rfl (eX9_beside hA hp1 x7 x9 _) rfl rfl (rok rfl rfl) (Nat.le_of_ble_eq_true rfl) (fun h6 => ?_)
      refine j_run 91 3 rfl ?_
      refine jc_icmp_eq 94 rfl rfl (fun h7 => ?_) (fun h7 => ?_)
      · refine j_run 140 1 rfl ?_
        refine j_goto 141 rfl rfl ?_
        exact j_weak (leP_s (leP_s (leP_n (leP_s (leP_n (leP_s (leP_s (leP_s (leP_s (leP_s (leP_n (leP_z)))))))))))) (ih (bw (x9 + 1)) _)
      · refine j_run 95 2 rfl ?_
        refine j_cv 97 0 1 rfl rfl mwX9_isSteep hp1.1 rfl rfl (eX9_isSteep hA hp1 (fX9_beside c1 x7 x9 σ) _) rfl rfl (rok rfl rfl) (Nat.le_of_ble_eq_true rfl) (fun r8 _ h8 => ?_)
        refine jc_if_eq 98 rfl rfl (fun h9 => ?_) (fun h9 => ?_)
        · refine j_run 100 1 rfl ?_
          refine jc_if_eq 101 rfl rfl (fun h13 => ?_) (fun h13 => ?_)
          · exact j_weak (leP_s (leP_s (leP_n (leP_s (leP_n (leP_s (leP_s (leP_s (leP_s (leP_s (leP_s (leP_z)))))))))))) (JX8_search_J206 hA hp0 hp1 x3 x5 x6 x7 x8 x9 (fX9_beside c1 x7 x9 σ) _ ih _)
          · refine j_run 102 1 rfl ?_
            refine j_gr 103 5 rfl rfl hp0.1 rfl ?_
            refine j_run 104 5 rfl ?_
            refine j_zald 109 rfl hp0.2.2.2.2.2 rfl ?_
            refine jc_if_ne 110 rfl rfl (fun h14 => ?_) (fun h14 => ?_)
            · refine j_run 111 5 rfl ?_
              refine j_cv 116 2 2 rfl rfl mwX8_reach hp0.1 rfl rfl (eX8_reach hA hp0 (bw (2 * (fX9_beside c1 x7 x9 σ))) x6 _) rfl rfl (rok rfl rfl) (Nat.le_of_ble_eq_true rfl) (fun s15 _ h15 => ?_)
              exact j_weak (leP_s (leP_s (leP_n (leP_s (leP_n (leP_s (leP_s (leP_s (leP_s (leP_s (leP_s (leP_z)))))))))))) (JX8_search_J206 hA hp0 hp1 x3 x5 x6 x7 x8 x9 (fX9_beside c1 x7 x9 σ) _ ih _)
            · exact j_weak (leP_s (leP_s (leP_n (leP_s (leP_n (leP_s (leP_s (leP_s (leP_s (leP_s (leP_s (leP_z)))))))))))) (JX8_search_J206 hA hp0 hp1 x3 x5 x6 x7 x8 x9 (fX9_beside c1 x7 x9 σ) _ ih _)
        · refine j_goto 99 rfl rfl ?_
          refine j_run 140 1 rfl ?_
          refine j_goto 141 rfl rfl ?_
          exact j_weak (leP_s (leP_s (leP_n (leP_s (leP_n (leP_s (leP_s (leP_s (leP_s (leP_s (leP_n (leP_z)))))))))))) (ih (bw (x9 + 1)) _)
    · refine j_run 142 1 rfl ?_
      refine j_goto 143 rfl rfl ?_
      exact j_weak (leP_s (leP_s (leP_n (leP_s (leP_n (leP_s (leP_n (leP_n (leP_n (leP_n (leP_n (leP_z)))))))))))) (hk66 (bw (x5 + 1)) _)
theorem JX8_search_J139 {X : Cx} {ads : List Nat} {sk : List Sk} (hA : ads.length = sk.length ∧ sk.length ≤ 1000) (hp0 : ocY sk) {c1 : Nat} (hp1 : ocW sk c1) (x3 : Int) (x5 : Int) (x6 : Int) (x7 : Int) (x8 : Int) (k66 : Int → Sg → Option (Int × Sg)) (hk66 : ∀ (x5 : Int) (σ : Sg), jX8_search X ads sk (66, [some (.inr (some 74)), some (.inr (some c1)), none, some (.inl x3), none, some (.inl x5), none, none, none, none, none], [], σ) (k66 x5 σ)) (σ : Sg) : jX8_search X ads sk (139, [some (.inr (some 74)), some (.inr (some c1)), none, some (.inl x3), none, some (.inl x5), some (.inl x6), some (.inl x7), some (.inl x8), none, none], [], σ) (fX8_search_J139 c1 k66 x3 x5 x6 x7 x8 σ) := by
  unfold fX8_search_J139
  refine j_run 82 2 rfl ?_
  exact j_weak (leP_s (leP_s (leP_n (leP_s (leP_n (leP_s (leP_s (leP_s (leP_s (leP_s (leP_n (leP_z)))))))))))) (JX8_search_L142 hA hp0 hp1 x3 x5 x6 x7 x8 _ hk66 FU 0 _)
theorem JX8_search_J115 {X : Cx} {ads : List Nat} {sk : List Sk} (hA : ads.length = sk.length ∧ sk.length ≤ 1000) (hp0 : ocY sk) {c1 : Nat} (hp1 : ocW sk c1) (x3 : Int) (x5 : Int) (x6 : Int) (x7 : Int) (k66 : Int → Sg → Option (Int × Sg)) (hk66 : ∀ (x5 : Int) (σ : Sg), jX8_search X ads sk (66, [some (.inr (some 74)), some (.inr (some c1)), none, some (.inl x3), none, some (.inl x5), none, none, none, none, none], [], σ) (k66 x5 σ)) (y0 : Int) (σ : Sg) : jX8_search X ads sk (115, [some (.inr (some 74)), some (.inr (some c1)), none, some (.inl x3), none, some (.inl x5), some (.inl x6), some (.inl x7), none, none, none], [.inl y0], σ) (fX8_search_J115 c1 k66 x3 x5 x6 x7 y0 σ) := by
  unfold fX8_search_J115
  refine j_run 69 3 rfl ?_
  refine j_gr 72 4 rfl rfl hp0.1 rfl ?_
  refine j_run 73 1 rfl ?_
  refine j_zald 74 rfl hp0.2.2.2.2.1 rfl ?_
  refine jc_icmp_ne 75 rfl rfl (fun h16 => ?_) (fun h16 => ?_)
  · refine j_run 76 5 rfl ?_
    refine j_cv 81 2 2 rfl rfl mwX8_reach hp0.1 rfl rfl (eX8_reach hA hp0 (bxor x6 1) x6 _) rfl rfl (rok rfl rfl) (Nat.le_of_ble_eq_true rfl) (fun s17 _ h17 => ?_)
    exact j_weak (leP_s (leP_s (leP_n (leP_s (leP_n (leP_s (leP_s (leP_s (leP_s (leP_n (leP_n (leP_z)))))))))))) (JX8_search_J139 hA hp0 hp1 x3 x5 x6 x7 y0 _ hk66 _)
  · exact j_weak (leP_s (leP_s (leP_n (leP_s (leP_n (leP_s (leP_s (leP_s (leP_s (leP_n (leP_n (leP_z)))))))))))) (JX8_search_J139 hA hp0 hp1 x3 x5 x6 x7 y0 _ hk66 _)
theorem JX8_search_L66 {X : Cx} {ads : List Nat} {sk : List Sk} (hA : ads.length = sk.length ∧ sk.length ≤ 1000) (hp0 : ocY sk) {c1 : Nat} (hp1 : ocW sk c1) (x3 : Int) (k254 : Sg → Option (Int × Sg)) (hk254 : ∀  (σ : Sg), jX8_search X ads sk (254, [some (.inr (some 74)), none, none, some (.inl x3), none, none, none, none, none, none, none], [], σ) (k254 σ)) : ∀ (n : Nat) (x5 : Int) (σ : Sg), jX8_search X ads sk (66, [some (.inr (some 74)), some (.inr (some c1)), none, some (.inl x3), none, some (.inl x5), none, none, none, none, none], [], σ) (fX8_search_L66 c1 k254 x3 n x5 σ) := by
  intro n
  induction n with
  | zero => intro x5 σ; exact j_none
  | succ n ih =>
    intro x5 σ
    rw [fX8_search_L66]
    refine j_run 40 2 rfl ?_
    refine j_gf 42 2 rfl rfl hp0.1 rfl ?_
    refine jc_icmp_ge 43 rfl rfl (fun h3 => ?_) (fun h3 => ?_)
    · refine j_run 44 1 rfl ?_
      refine j_gr 45 3 rfl rfl hp0.1 rfl ?_
      refine j_run 46 3 rfl ?_
      refine j_ald 49 rfl hp0.2.2.2.1 rfl ?_
      refine j_run 50 1 rfl ?_
      refine jc_icmp_ne 51 rfl rfl (fun h4 => ?_) (fun h4 => ?_)
      · refine j_run 52 1 rfl ?_
        refine j_gr 53 1 rfl rfl hp0.1 rfl ?_
        refine j_run 54 1 rfl ?_
        refine j_ald 55 rfl hp0.2.1 rfl ?_
        refine j_run 56 9 rfl ?_
        refine jc_icmp_ne 65 rfl rfl (fun h18 => ?_) (fun h18 => ?_)
        · refine j_run 66 1 rfl ?_
          refine j_goto 67 rfl rfl ?_
          exact j_weak (leP_s (leP_s (leP_n (leP_s (leP_n (leP_s (leP_s (leP_s (leP_n (leP_n (leP_n (leP_z)))))))))))) (JX8_search_J115 hA hp0 hp1 x3 x5 (rd σ 75 x5) (bshr (rd σ 75 x5) 1) _ ih 1 _)
        · refine j_run 68 1 rfl ?_
          exact j_weak (leP_s (leP_s (leP_n (leP_s (leP_n (leP_s (leP_s (leP_s (leP_n (leP_n (leP_n (leP_z)))))))))))) (JX8_search_J115 hA hp0 hp1 x3 x5 (rd σ 75 x5) (bshr (rd σ 75 x5) 1) _ ih 0 _)
      · exact j_weak (leP_s (leP_n (leP_n (leP_s (leP_n (leP_n (leP_n (leP_n (leP_n (leP_n (leP_n (leP_z)))))))))))) (hk254 _)
    · exact j_weak (leP_s (leP_n (leP_n (leP_s (leP_n (leP_n (leP_n (leP_n (leP_n (leP_n (leP_n (leP_z)))))))))))) (hk254 _)
theorem eX8_search {X : Cx} {ads : List Nat} {sk : List Sk} (hA : ads.length = sk.length ∧ sk.length ≤ 1000) (hp0 : ocY sk) {c1 : Nat} (hp1 : ocW sk c1) (x2 : Int) (x3 : Int) (σ : Sg) : CF X mX8_search ads sk [.inr (some 74), .inr (some c1), .inl x2, .inl x3] σ wE (fX8_search c1 x2 x3 σ) := by
  refine CF.of ⟨pX8_search_ok, tbX8_ok, hA.1, hA.2⟩ (plainFor_of_name plX8) (Nat.le_of_ble_eq_true rfl) ?_
  show jX8_search X ads sk (0, [some (.inr (some 74)), some (.inr (some c1)), some (.inl x2), some (.inl x3), none, none, none, none, none, none, none], [], σ) (fX8_search c1 x2 x3 σ)
  unfold fX8_search
  refine j_run 0 2 rfl ?_
  refine j_weak (leP_s (leP_s (leP_s (leP_s (leP_s (leP_n (leP_n (leP_n (leP_n (leP_n (leP_n (leP_z)))))))))))) (JX8_search_L3 hA hp0 hp1 x2 x3 _ (fun s2 => ?_) FU 0 _)
  refine j_run 12 7 rfl ?_
  refine j_gr 19 3 rfl rfl hp0.1 rfl ?_
  refine j_run 20 2 rfl ?_
  refine j_ast 22 rfl hp0.2.2.2.1 rfl ?_
  refine j_run 23 1 rfl ?_
  refine j_gr 24 3 rfl rfl hp0.1 rfl ?_
  refine j_run 25 4 rfl ?_
  refine j_ast 29 rfl hp0.2.2.2.1 rfl ?_
  refine j_run 30 1 rfl ?_
  refine j_gr 31 1 rfl rfl hp0.1 rfl ?_
  refine j_run 32 2 rfl ?_
  refine j_ast0 34 rfl hp0.2.1 (by decide) ?_
  refine j_run 35 2 rfl ?_
  refine j_pf 37 2 rfl rfl hp0.1 rfl rfl (Or.inl rfl) ?_
  refine j_run 38 2 rfl ?_
  refine j_weak (leP_s (leP_s (leP_n (leP_s (leP_n (leP_s (leP_n (leP_n (leP_n (leP_n (leP_n (leP_z)))))))))))) (JX8_search_L66 hA hp0 hp1 x3 _ (fun s19 => ?_) FU 0 _)
  refine j_run 144 1 rfl ?_
  refine j_gr 145 3 rfl rfl hp0.1 rfl ?_
  refine j_run 146 3 rfl ?_
  refine j_ald 149 rfl hp0.2.2.2.1 rfl ?_
  refine j_run 150 1 rfl ?_
  refine jc_icmp_eq 151 rfl rfl (fun h20 => ?_) (fun h20 => ?_)
  · refine j_run 154 1 rfl ?_
    exact j_zret 155 rfl rfl (by decide) rfl
  · refine j_run 152 1 rfl ?_
    refine j_goto 153 rfl rfl ?_
    exact j_zret 155 rfl rfl (by decide) rfl
abbrev jX8_direction (X : Cx) (ads : List Nat) (sk : List Sk) (σ : Sg) (ps : PS) (res : Option (Int)) : Prop := J X mX8_direction pX8_direction tbX8 (rmD 0 0 0) 0 0 E0 (fun a => FM X mX8_direction ads sk ((wP σ) a)) ads sk ps res
theorem eX8_direction {X : Cx} {ads : List Nat} {sk : List Sk} (hA : ads.length = sk.length ∧ sk.length ≤ 1000) (x0 : Int) (x1 : Int) (σ : Sg) : CF X mX8_direction ads sk [.inl x0, .inl x1] σ (wP σ) (some (fX8_direction x0 x1)) := by
  refine CF.of ⟨pX8_direction_ok, tbX8_ok, hA.1, hA.2⟩ (plainFor_of_name plX8) (Nat.le_of_ble_eq_true rfl) ?_
  show jX8_direction X ads sk σ (0, [some (.inl x0), some (.inl x1)], [], σ) (some (fX8_direction x0 x1))
  unfold fX8_direction
  refine j_run 0 4 rfl ?_
  refine jt_icmp_ne 4 rfl rfl (fun h1 => ?_) (fun h1 => ?_)
  · refine j_run 5 1 rfl ?_
    exact j_iret 6 rfl rfl rfl
  · refine j_run 7 4 rfl ?_
    refine jt_icmp_ne 11 rfl rfl (fun h2 => ?_) (fun h2 => ?_)
    · refine j_run 12 1 rfl ?_
      exact j_iret 13 rfl rfl rfl
    · refine j_run 14 4 rfl ?_
      refine jt_icmp_ne 18 rfl rfl (fun h3 => ?_) (fun h3 => ?_)
      · refine j_run 19 1 rfl ?_
        refine j_goto 20 rfl rfl ?_
        exact j_iret 22 rfl rfl rfl
      · refine j_run 21 1 rfl ?_
        exact j_iret 22 rfl rfl rfl
abbrev jX8_addWay (X : Cx) (ads : List Nat) (sk : List Sk) (ps : PS) (res : Option (Sg)) : Prop := J X mX8_addWay pX8_addWay tbX8 (rmD 1 0 0) 0 0 E0 (fun a => FM X mX8_addWay ads sk (wV a)) ads sk ps res
theorem JX8_addWay_J59 {X : Cx} {ads : List Nat} {sk : List Sk} (hA : ads.length = sk.length ∧ sk.length ≤ 1000) (hp0 : ocY sk) (x1 : Int) (x4 : Int) (x5 : Int) (x6 : Int) (x7 : Int) (k7 : Int → Int → Sg → Option (Sg)) (hk7 : ∀ (x3 : Int) (x4 : Int) (σ : Sg), jX8_addWay X ads sk (7, [some (.inr (some 74)), some (.inl x1), none, some (.inl x3), some (.inl x4), none, none, none, none], [], σ) (k7 x3 x4 σ)) (y0 : Int) (σ : Sg) : jX8_addWay X ads sk (59, [some (.inr (some 74)), some (.inl x1), none, none, some (.inl x4), some (.inl x5), some (.inl x6), some (.inl x7), none], [.inl y0], σ) (fX8_addWay_J59 k7 x1 x4 x5 x6 x7 y0 σ) := by
  unfold fX8_addWay_J59
  refine j_run 39 3 rfl ?_
  refine jc_icmp_ne 42 rfl rfl (fun h4 => ?_) (fun h4 => ?_)
  · refine j_run 43 1 rfl ?_
    refine j_gr 44 4 rfl rfl hp0.1 rfl ?_
    refine j_run 45 2 rfl ?_
    refine jc_if_ne 47 rfl rfl (fun h5 => ?_) (fun h5 => ?_)
    · refine j_run 48 1 rfl ?_
      refine j_goto 49 rfl rfl ?_
      refine j_zast 51 rfl hp0.2.2.2.2.1 rfl ?_
      refine j_goto 52 rfl rfl ?_
      refine j_run 78 3 rfl ?_
      refine j_goto 81 rfl rfl ?_
      exact j_weak (leP_s (leP_s (leP_n (leP_s (leP_s (leP_n (leP_n (leP_n (leP_n (leP_z)))))))))) (hk7 x5 (bw (x4 + 1)) _)
    · refine j_run 50 1 rfl ?_
      refine j_zast 51 rfl hp0.2.2.2.2.1 rfl ?_
      refine j_goto 52 rfl rfl ?_
      refine j_run 78 3 rfl ?_
      refine j_goto 81 rfl rfl ?_
      exact j_weak (leP_s (leP_s (leP_n (leP_s (leP_s (leP_n (leP_n (leP_n (leP_n (leP_z)))))))))) (hk7 x5 (bw (x4 + 1)) _)
  · refine j_run 53 1 rfl ?_
    refine jc_if_eq 54 rfl rfl (fun h6 => ?_) (fun h6 => ?_)
    · refine j_run 67 1 rfl ?_
      refine j_gr 68 5 rfl rfl hp0.1 rfl ?_
      refine j_run 69 5 rfl ?_
      refine j_csT 74 3 2 rfl rfl mwX8_direction (eX8_direction hA x7 x6 _) rfl rfl (rok rfl rfl) (Nat.le_of_ble_eq_true rfl) (fun h7 => ?_)
      refine j_run 75 2 rfl ?_
      refine j_zast 77 rfl hp0.2.2.2.2.2 rfl ?_
      refine j_run 78 3 rfl ?_
      refine j_goto 81 rfl rfl ?_
      exact j_weak (leP_s (leP_s (leP_n (leP_s (leP_s (leP_n (leP_n (leP_n (leP_n (leP_z)))))))))) (hk7 x5 (bw (x4 + 1)) _)
    · refine j_run 55 1 rfl ?_
      refine j_gr 56 5 rfl rfl hp0.1 rfl ?_
      refine j_run 57 5 rfl ?_
      refine j_csT 62 3 2 rfl rfl mwX8_direction (eX8_direction hA x6 x7 _) rfl rfl (rok rfl rfl) (Nat.le_of_ble_eq_true rfl) (fun h8 => ?_)
      refine j_run 63 2 rfl ?_
      refine j_zast 65 rfl hp0.2.2.2.2.2 rfl ?_
      refine j_goto 66 rfl rfl ?_
      refine j_run 78 3 rfl ?_
      refine j_goto 81 rfl rfl ?_
      exact j_weak (leP_s (leP_s (leP_n (leP_s (leP_s (leP_n (leP_n (leP_n (leP_n (leP_z)))))))))) (hk7 x5 (bw (x4 + 1)) _)
theorem JX8_addWay_L7 {X : Cx} {ads : List Nat} {sk : List Sk} (hA : ads.length = sk.length ∧ sk.length ≤ 1000) (hp0 : ocY sk) (x1 : Int) : ∀ (n : Nat) (x3 : Int) (x4 : Int) (σ : Sg), jX8_addWay X ads sk (7, [some (.inr (some 74)), some (.inl x1), none, some (.inl x3), some (.inl x4), none, none, none, none], [], σ) (fX8_addWay_L7 x1 n x3 x4 σ) := by
  intro n
  induction n with
  | zero => intro x3 x4 σ; exact j_none
  | succ n ih =>
    intro x3 x4 σ
    rw [fX8_addWay_L7]
    refine j_run 6 2 rfl ?_
    refine jc_icmp_ge 8 rfl rfl (fun h1 => ?_) (fun h1 => ?_)
    · refine j_run 9 6 rfl ?_
      refine jc_icmp_eq 15 rfl rfl (fun h2 => ?_) (fun h2 => ?_)
      · exact j_vret 82 rfl rfl rfl
      · refine j_run 16 1 rfl ?_
        refine j_gr 17 3 rfl rfl hp0.1 rfl ?_
        refine j_run 18 1 rfl ?_
        refine j_ald 19 rfl hp0.2.2.2.1 rfl ?_
        refine j_run 20 2 rfl ?_
        refine jc_if_ge 22 rfl rfl (fun h3 => ?_) (fun h3 => ?_)
        · exact j_vret 23 rfl rfl rfl
        · refine j_run 24 11 rfl ?_
          refine jc_if_ne 35 rfl rfl (fun h9 => ?_) (fun h9 => ?_)
          · refine j_run 36 1 rfl ?_
            refine j_goto 37 rfl rfl ?_
            exact j_weak (leP_s (leP_s (leP_n (leP_n (leP_s (leP_s (leP_s (leP_s (leP_n (leP_z)))))))))) (JX8_addWay_J59 hA hp0 x1 x4 (rd σ 77 x3) (bshr (rd σ 77 x3) 1) (bshr x3 1) _ ih 1 _)
          · refine j_run 38 1 rfl ?_
            exact j_weak (leP_s (leP_s (leP_n (leP_n (leP_s (leP_s (leP_s (leP_s (leP_n (leP_z)))))))))) (JX8_addWay_J59 hA hp0 x1 x4 (rd σ 77 x3) (bshr (rd σ 77 x3) 1) (bshr x3 1) _ ih 0 _)
    · exact j_vret 82 rfl rfl rfl
theorem eX8_addWay {X : Cx} {ads : List Nat} {sk : List Sk} (hA : ads.length = sk.length ∧ sk.length ≤ 1000) (hp0 : ocY sk) (x1 : Int) (x2 : Int) (σ : Sg) : CF X mX8_addWay ads sk [.inr (some 74), .inl x1, .inl x2] σ wV (fX8_addWay x1 x2 σ) := by
  refine CF.of ⟨pX8_addWay_ok, tbX8_ok, hA.1, hA.2⟩ (plainFor_of_name plX8) (Nat.le_of_ble_eq_true rfl) ?_
  show jX8_addWay X ads sk (0, [some (.inr (some 74)), some (.inl x1), some (.inl x2), none, none, none, none, none, none], [], σ) (fX8_addWay x1 x2 σ)
  unfold fX8_addWay
  refine j_run 0 6 rfl ?_
  exact j_weak (leP_s (leP_s (leP_n (leP_s (leP_s (leP_n (leP_n (leP_n (leP_n (leP_z)))))))))) (JX8_addWay_L7 hA hp0 x1 FU (bw (2 * x2)) 0 _)
abbrev jX8_fewestToCut (X : Cx) (ads : List Nat) (sk : List Sk) (ps : PS) (res : Option (Int × Sg)) : Prop := J X mX8_fewestToCut pX8_fewestToCut tbX8 (rmD 2 0 0) 0 0 E0 (fun a => FM X mX8_fewestToCut ads sk (wE a)) ads sk ps res
theorem JX8_fewestToCut_L21 {X : Cx} {ads : List Nat} {sk : List Sk} (hA : ads.length = sk.length ∧ sk.length ≤ 1000) (hp0 : ocY sk) {c1 : Nat} (hp1 : ocW sk c1) (x2 : Int) (x3 : Int) (x4 : Int) (k3 : Int → Sg → Option (Int × Sg)) (hk3 : ∀ (x4 : Int) (σ : Sg), jX8_fewestToCut X ads sk (3, [some (.inr (some 74)), some (.inr (some c1)), some (.inl x2), some (.inl x3), some (.inl x4), none], [], σ) (k3 x4 σ)) : ∀ (n : Nat) (x5 : Int) (σ : Sg), jX8_fewestToCut X ads sk (21, [some (.inr (some 74)), some (.inr (some c1)), some (.inl x2), some (.inl x3), some (.inl x4), some (.inl x5)], [], σ) (fX8_fewestToCut_L21 c1 k3 x2 x3 x4 n x5 σ) := by
  intro n
  induction n with
  | zero => intro x5 σ; exact j_none
  | succ n ih =>
    intro x5 σ
    rw [fX8_fewestToCut_L21]
    refine j_run 12 2 rfl ?_
    refine jc_icmp_ge 14 rfl rfl (fun h2 => ?_) (fun h2 => ?_)
    · refine j_run 15 1 rfl ?_
      refine j_gr 16 5 rfl rfl hp0.1 rfl ?_
      refine j_run 17 6 rfl ?_
      refine j_zast 23 rfl hp0.2.2.2.2.2 rfl ?_
      refine j_run 24 1 rfl ?_
      refine j_goto 25 rfl rfl ?_
      exact j_weak (leP_s (leP_s (leP_s (leP_s (leP_s (leP_s (leP_z))))))) (ih (bw (x5 + 1)) _)
    · refine j_run 26 1 rfl ?_
      refine j_goto 27 rfl rfl ?_
      exact j_weak (leP_s (leP_s (leP_s (leP_s (leP_s (leP_n (leP_z))))))) (hk3 (bw (x4 + 1)) _)
theorem JX8_fewestToCut_L3 {X : Cx} {ads : List Nat} {sk : List Sk} (hA : ads.length = sk.length ∧ sk.length ≤ 1000) (hp0 : ocY sk) {c1 : Nat} (hp1 : ocW sk c1) (x2 : Int) (x3 : Int) (k52 : Sg → Option (Int × Sg)) (hk52 : ∀  (σ : Sg), jX8_fewestToCut X ads sk (52, [some (.inr (some 74)), some (.inr (some c1)), some (.inl x2), some (.inl x3), none, none], [], σ) (k52 σ)) : ∀ (n : Nat) (x4 : Int) (σ : Sg), jX8_fewestToCut X ads sk (3, [some (.inr (some 74)), some (.inr (some c1)), some (.inl x2), some (.inl x3), some (.inl x4), none], [], σ) (fX8_fewestToCut_L3 c1 k52 x2 x3 n x4 σ) := by
  intro n
  induction n with
  | zero => intro x4 σ; exact j_none
  | succ n ih =>
    intro x4 σ
    rw [fX8_fewestToCut_L3]
    refine j_run 2 2 rfl ?_
    refine jc_icmp_ge 4 rfl rfl (fun h1 => ?_) (fun h1 => ?_)
    · refine j_run 5 1 rfl ?_
      refine j_gr 6 4 rfl rfl hp0.1 rfl ?_
      refine j_run 7 2 rfl ?_
      refine j_zast 9 rfl hp0.2.2.2.2.1 rfl ?_
      refine j_run 10 2 rfl ?_
      exact j_weak (leP_s (leP_s (leP_s (leP_s (leP_s (leP_s (leP_z))))))) (JX8_fewestToCut_L21 hA hp0 hp1 x2 x3 x4 _ ih FU 0 _)
    · exact j_weak (leP_s (leP_s (leP_s (leP_s (leP_n (leP_n (leP_z))))))) (hk52 _)
theorem JX8_fewestToCut_L55 {X : Cx} {ads : List Nat} {sk : List Sk} (hA : ads.length = sk.length ∧ sk.length ≤ 1000) (hp0 : ocY sk) {c1 : Nat} (hp1 : ocW sk c1) (x2 : Int) (x3 : Int) : ∀ (n : Nat) (x4 : Int) (σ : Sg), jX8_fewestToCut X ads sk (55, [some (.inr (some 74)), some (.inr (some c1)), some (.inl x2), some (.inl x3), some (.inl x4), none], [], σ) (fX8_fewestToCut_L55 c1 x2 x3 n x4 σ) := by
  intro n
  induction n with
  | zero => intro x4 σ; exact j_none
  | succ n ih =>
    intro x4 σ
    rw [fX8_fewestToCut_L55]
    refine j_run 30 2 rfl ?_
    refine jc_icmp_ge 32 rfl rfl (fun h4 => ?_) (fun h4 => ?_)
    · refine j_run 33 4 rfl ?_
      refine j_cv 37 4 3 rfl rfl mwX8_search hp0.1 rfl rfl (eX8_search hA hp0 hp1 x2 x3 _) rfl rfl (rok rfl rfl) (Nat.le_of_ble_eq_true rfl) (fun q5 _ h5 => ?_)
      refine jc_if_ne 38 rfl rfl (fun h6 => ?_) (fun h6 => ?_)
      · refine j_run 39 1 rfl ?_
        exact j_iret 40 rfl rfl rfl
      · refine j_run 41 3 rfl ?_
        refine j_cv 44 5 2 rfl rfl mwX8_addWay hp0.1 rfl rfl (eX8_addWay hA hp0 x2 x3 _) rfl rfl (rok rfl rfl) (Nat.le_of_ble_eq_true rfl) (fun s7 _ h7 => ?_)
        refine j_run 45 1 rfl ?_
        refine j_goto 46 rfl rfl ?_
        exact j_weak (leP_s (leP_s (leP_s (leP_s (leP_s (leP_n (leP_z))))))) (ih (bw (x4 + 1)) _)
    · refine j_run 47 1 rfl ?_
      exact j_iret 48 rfl rfl rfl
theorem eX8_fewestToCut {X : Cx} {ads : List Nat} {sk : List Sk} (hA : ads.length = sk.length ∧ sk.length ≤ 1000) (hp0 : ocY sk) {c1 : Nat} (hp1 : ocW sk c1) (x2 : Int) (x3 : Int) (σ : Sg) : CF X mX8_fewestToCut ads sk [.inr (some 74), .inr (some c1), .inl x2, .inl x3] σ wE (fX8_fewestToCut c1 x2 x3 σ) := by
  refine CF.of ⟨pX8_fewestToCut_ok, tbX8_ok, hA.1, hA.2⟩ (plainFor_of_name plX8) (Nat.le_of_ble_eq_true rfl) ?_
  show jX8_fewestToCut X ads sk (0, [some (.inr (some 74)), some (.inr (some c1)), some (.inl x2), some (.inl x3), none, none], [], σ) (fX8_fewestToCut c1 x2 x3 σ)
  unfold fX8_fewestToCut
  refine j_run 0 2 rfl ?_
  refine j_weak (leP_s (leP_s (leP_s (leP_s (leP_s (leP_n (leP_z))))))) (JX8_fewestToCut_L3 hA hp0 hp1 x2 x3 _ (fun s3 => ?_) FU 0 _)
  refine j_run 28 2 rfl ?_
  exact j_weak (leP_s (leP_s (leP_s (leP_s (leP_s (leP_n (leP_z))))))) (JX8_fewestToCut_L55 hA hp0 hp1 x2 x3 FU 0 _)
abbrev jX9_begin (X : Cx) (ads : List Nat) (sk : List Sk) (ps : PS) (res : Option (Sg)) : Prop := J X mX9_begin pX9_begin tbX9 (rmD 1 0 0) 0 0 E0 (fun a => FM X mX9_begin ads sk (wV a)) ads sk ps res
theorem JX9_begin_L38 {X : Cx} {ads : List Nat} {sk : List Sk} (hA : ads.length = sk.length ∧ sk.length ≤ 1000) {c0 : Nat} (hp0 : ocW sk c0) (k58 : Sg → Option (Sg)) (hk58 : ∀  (σ : Sg), jX9_begin X ads sk (58, [some (.inr (some c0)), none, none, none], [], σ) (k58 σ)) : ∀ (n : Nat) (x3 : Int) (σ : Sg), jX9_begin X ads sk (38, [some (.inr (some c0)), none, none, some (.inl x3)], [], σ) (fX9_begin_L38 c0 k58 n x3 σ) := by
  intro n
  induction n with
  | zero => intro x3 σ; exact j_none
  | succ n ih =>
    intro x3 σ
    rw [fX9_begin_L38]
    refine j_run 23 2 rfl ?_
    refine jc_icmp_ge 25 rfl rfl (fun h1 => ?_) (fun h1 => ?_)
    · refine j_run 26 1 rfl ?_
      refine j_gr 27 10 rfl rfl hp0.1 rfl ?_
      refine j_run 28 2 rfl ?_
      refine j_ast 30 rfl hp0.2.1 rfl ?_
      refine j_run 31 1 rfl ?_
      refine j_goto 32 rfl rfl ?_
      exact j_weak (leP_s (leP_n (leP_n (leP_s (leP_z))))) (ih (bw (x3 + 1)) _)
    · exact j_weak (leP_s (leP_n (leP_n (leP_n (leP_z))))) (hk58 _)
theorem eX9_begin {X : Cx} {ads : List Nat} {sk : List Sk} (hA : ads.length = sk.length ∧ sk.length ≤ 1000) {c0 : Nat} (hp0 : ocW sk c0) (x1 : Int) (x2 : Int) (σ : Sg) : CF X mX9_begin ads sk [.inr (some c0), .inl x1, .inl x2] σ wV (fX9_begin c0 x1 x2 σ) := by
  refine CF.of ⟨pX9_begin_ok, tbX9_ok, hA.1, hA.2⟩ (plainFor_of_name plX9) (Nat.le_of_ble_eq_true rfl) ?_
  show jX9_begin X ads sk (0, [some (.inr (some c0)), some (.inl x1), some (.inl x2), none], [], σ) (fX9_begin c0 x1 x2 σ)
  unfold fX9_begin
  refine j_run 0 2 rfl ?_
  refine j_pf 2 5 rfl rfl hp0.1 rfl rfl (Or.inl rfl) ?_
  refine j_run 3 2 rfl ?_
  refine j_pf 5 6 rfl rfl hp0.1 rfl rfl (Or.inl rfl) ?_
  refine j_run 6 2 rfl ?_
  refine j_pf 8 12 rfl rfl hp0.1 rfl rfl (Or.inl rfl) ?_
  refine j_run 9 2 rfl ?_
  refine j_pf 11 11 rfl rfl hp0.1 rfl rfl (Or.inl rfl) ?_
  refine j_run 12 2 rfl ?_
  refine j_pf 14 13 rfl rfl hp0.1 rfl rfl (Or.inl rfl) ?_
  refine j_run 15 2 rfl ?_
  refine j_pf 17 14 rfl rfl hp0.1 rfl rfl (Or.inl rfl) ?_
  refine j_run 18 2 rfl ?_
  refine j_pf 20 3 rfl rfl hp0.1 rfl rfl (Or.inl rfl) ?_
  refine j_run 21 2 rfl ?_
  refine j_weak (leP_s (leP_n (leP_n (leP_s (leP_z))))) (JX9_begin_L38 hA hp0 _ (fun s2 => ?_) FU 0 _)
  refine j_run 33 1 rfl ?_
  refine j_gr 34 1 rfl rfl hp0.1 rfl ?_
  refine j_run 35 1 rfl ?_
  refine j_pf 36 15 rfl rfl hp0.2.2.2.1.1 rfl rfl (Or.inl rfl) ?_
  refine j_run 37 1 rfl ?_
  refine j_gr 38 0 rfl rfl hp0.1 rfl ?_
  refine j_cv 39 7 0 rfl rfl mwX2_clear hp0.2.2.2.2.1.1 rfl rfl (eX2_clear hA hp0.2.2.2.2.1 _) rfl rfl (rok rfl rfl) (Nat.le_of_ble_eq_true rfl) (fun s3 _ h3 => ?_)
  refine j_run 40 1 rfl ?_
  refine j_gr 41 7 rfl rfl hp0.1 rfl ?_
  refine j_run 42 1 rfl ?_
  refine j_pf 43 16 rfl rfl hp0.2.2.2.2.2.1.1 rfl rfl (Or.inl rfl) ?_
  refine j_run 44 1 rfl ?_
  refine j_gr 45 8 rfl rfl hp0.1 rfl ?_
  refine j_run 46 1 rfl ?_
  refine j_pf 47 16 rfl rfl hp0.2.2.2.2.2.2.1.1 rfl rfl (Or.inl rfl) ?_
  refine j_run 48 1 rfl ?_
  refine j_gr 49 9 rfl rfl hp0.1 rfl ?_
  refine j_run 50 1 rfl ?_
  refine j_pf 51 16 rfl rfl hp0.2.2.2.2.2.2.2.1.1 rfl rfl (Or.inl rfl) ?_
  refine j_run 52 1 rfl ?_
  refine j_gr 53 17 rfl rfl hp0.1 rfl ?_
  refine j_run 54 1 rfl ?_
  refine j_pf 55 16 rfl rfl hp0.2.2.2.2.2.2.2.2.1.1 rfl rfl (Or.inl rfl) ?_
  refine j_run 56 1 rfl ?_
  refine j_gr 57 18 rfl rfl hp0.1 rfl ?_
  refine j_run 58 1 rfl ?_
  refine j_pf 59 16 rfl rfl hp0.2.2.2.2.2.2.2.2.2.1 rfl rfl (Or.inl rfl) ?_
  exact j_vret 60 rfl rfl rfl
abbrev jX9_copy (X : Cx) (ads : List Nat) (sk : List Sk) (ps : PS) (res : Option (Sg)) : Prop := J X mX9_copy pX9_copy tbX9 (rmD 2 0 0) 0 0 E0 (fun a => FM X mX9_copy ads sk (wV a)) ads sk ps res
theorem eX9_copy {X : Cx} {ads : List Nat} {sk : List Sk} (hA : ads.length = sk.length ∧ sk.length ≤ 1000) {c0 : Nat} (hp0 : ocW sk c0) {c1 : Nat} (hp1 : ocW sk c1) (σ : Sg) : CF X mX9_copy ads sk [.inr (some c0), .inr (some c1)] σ wV (fX9_copy c0 c1 σ) := by
  refine CF.of ⟨pX9_copy_ok, tbX9_ok, hA.1, hA.2⟩ (plainFor_of_name plX9) (Nat.le_of_ble_eq_true rfl) ?_
  show jX9_copy X ads sk (0, [some (.inr (some c0)), some (.inr (some c1))], [], σ) (fX9_copy c0 c1 σ)
  unfold fX9_copy
  refine j_run 0 2 rfl ?_
  refine j_gf 2 5 rfl rfl hp1.1 rfl ?_
  refine j_pf 3 5 rfl rfl hp0.1 rfl rfl (Or.inl rfl) ?_
  refine j_run 4 2 rfl ?_
  refine j_gf 6 6 rfl rfl hp1.1 rfl ?_
  refine j_pf 7 6 rfl rfl hp0.1 rfl rfl (Or.inl rfl) ?_
  refine j_run 8 2 rfl ?_
  refine j_gf 10 12 rfl rfl hp1.1 rfl ?_
  refine j_pf 11 12 rfl rfl hp0.1 rfl rfl (Or.inl rfl) ?_
  refine j_run 12 2 rfl ?_
  refine j_gf 14 11 rfl rfl hp1.1 rfl ?_
  refine j_pf 15 11 rfl rfl hp0.1 rfl rfl (Or.inl rfl) ?_
  refine j_run 16 2 rfl ?_
  refine j_gf 18 13 rfl rfl hp1.1 rfl ?_
  refine j_pf 19 13 rfl rfl hp0.1 rfl rfl (Or.inl rfl) ?_
  refine j_run 20 2 rfl ?_
  refine j_gf 22 14 rfl rfl hp1.1 rfl ?_
  refine j_pf 23 14 rfl rfl hp0.1 rfl rfl (Or.inl rfl) ?_
  refine j_run 24 2 rfl ?_
  refine j_gf 26 3 rfl rfl hp1.1 rfl ?_
  refine j_pf 27 3 rfl rfl hp0.1 rfl rfl (Or.inl rfl) ?_
  refine j_run 28 2 rfl ?_
  refine j_gf 30 19 rfl rfl hp1.1 rfl ?_
  refine j_pf 31 19 rfl rfl hp0.1 rfl rfl (Or.inl rfl) ?_
  refine j_run 32 1 rfl ?_
  refine j_gr 33 10 rfl rfl hp1.1 rfl ?_
  refine j_run 34 2 rfl ?_
  refine j_gr 36 10 rfl rfl hp0.1 rfl ?_
  refine j_run 37 2 rfl ?_
  refine j_copyE (d := 2) 39 8 rfl rfl hp1.2.1 hp0.2.1 rfl rfl rfl ?_
  refine j_run 40 1 rfl ?_
  refine j_gr 41 1 rfl rfl hp0.1 rfl ?_
  refine j_run 42 1 rfl ?_
  refine j_gr 43 1 rfl rfl hp1.1 rfl ?_
  refine j_cv 44 9 1 rfl rfl mwX1_copy hp0.2.2.2.1.1 rfl rfl (eX1_copy hA hp0.2.2.2.1 hp1.2.2.2.1 _) rfl rfl (rok rfl rfl) (Nat.le_of_ble_eq_true rfl) (fun s1 _ h1 => ?_)
  refine j_run 45 1 rfl ?_
  refine j_gr 46 0 rfl rfl hp0.1 rfl ?_
  refine j_run 47 1 rfl ?_
  refine j_gr 48 0 rfl rfl hp1.1 rfl ?_
  refine j_cv 49 10 1 rfl rfl mwX2_copy hp0.2.2.2.2.1.1 rfl rfl (eX2_copy hA hp0.2.2.2.2.1 hp1.2.2.2.2.1 _) rfl rfl (rok rfl rfl) (Nat.le_of_ble_eq_true rfl) (fun s2 _ h2 => ?_)
  refine j_run 50 1 rfl ?_
  refine j_gr 51 7 rfl rfl hp0.1 rfl ?_
  refine j_run 52 1 rfl ?_
  refine j_gr 53 7 rfl rfl hp1.1 rfl ?_
  refine j_cv 54 11 1 rfl rfl mwX6_copy hp0.2.2.2.2.2.1.1 rfl rfl (eX6_copy hA hp0.2.2.2.2.2.1 hp1.2.2.2.2.2.1 _) rfl rfl (rok rfl rfl) (Nat.le_of_ble_eq_true rfl) (fun s3 _ h3 => ?_)
  refine j_run 55 1 rfl ?_
  refine j_gr 56 8 rfl rfl hp0.1 rfl ?_
  refine j_run 57 1 rfl ?_
  refine j_gr 58 8 rfl rfl hp1.1 rfl ?_
  refine j_cv 59 11 1 rfl rfl mwX6_copy hp0.2.2.2.2.2.2.1.1 rfl rfl (eX6_copy hA hp0.2.2.2.2.2.2.1 hp1.2.2.2.2.2.2.1 _) rfl rfl (rok rfl rfl) (Nat.le_of_ble_eq_true rfl) (fun s4 _ h4 => ?_)
  refine j_run 60 1 rfl ?_
  refine j_gr 61 9 rfl rfl hp0.1 rfl ?_
  refine j_run 62 1 rfl ?_
  refine j_gr 63 9 rfl rfl hp1.1 rfl ?_
  refine j_cv 64 11 1 rfl rfl mwX6_copy hp0.2.2.2.2.2.2.2.1.1 rfl rfl (eX6_copy hA hp0.2.2.2.2.2.2.2.1 hp1.2.2.2.2.2.2.2.1 _) rfl rfl (rok rfl rfl) (Nat.le_of_ble_eq_true rfl) (fun s5 _ h5 => ?_)
  refine j_run 65 1 rfl ?_
  refine j_gr 66 17 rfl rfl hp0.1 rfl ?_
  refine j_run 67 1 rfl ?_
  refine j_gr 68 17 rfl rfl hp1.1 rfl ?_
  refine j_cv 69 11 1 rfl rfl mwX6_copy hp0.2.2.2.2.2.2.2.2.1.1 rfl rfl (eX6_copy hA hp0.2.2.2.2.2.2.2.2.1 hp1.2.2.2.2.2.2.2.2.1 _) rfl rfl (rok rfl rfl) (Nat.le_of_ble_eq_true rfl) (fun s6 _ h6 => ?_)
  refine j_run 70 1 rfl ?_
  refine j_gr 71 18 rfl rfl hp0.1 rfl ?_
  refine j_run 72 1 rfl ?_
  refine j_gr 73 18 rfl rfl hp1.1 rfl ?_
  refine j_cv 74 11 1 rfl rfl mwX6_copy hp0.2.2.2.2.2.2.2.2.2.1 rfl rfl (eX6_copy hA hp0.2.2.2.2.2.2.2.2.2 hp1.2.2.2.2.2.2.2.2.2 _) rfl rfl (rok rfl rfl) (Nat.le_of_ble_eq_true rfl) (fun s7 _ h7 => ?_)
  exact j_vret 75 rfl rfl rfl
abbrev jX9_take (X : Cx) (ads : List Nat) (sk : List Sk) (ps : PS) (res : Option (Int × Sg)) : Prop := J X mX9_take pX9_take tbX9 (rmD 2 0 0) 0 0 E0 (fun a => FM X mX9_take ads sk (wE a)) ads sk ps res
theorem eX9_take {X : Cx} {ads : List Nat} {sk : List Sk} (hA : ads.length = sk.length ∧ sk.length ≤ 1000) {c0 : Nat} (hp0 : ocW sk c0) {c2 : Nat} (hp2 : ocW sk c2) (x1 : Int) (σ : Sg) : CF X mX9_take ads sk [.inr (some c0), .inl x1, .inr (some c2)] σ wE (fX9_take c0 c2 x1 σ) := by
  refine CF.of ⟨pX9_take_ok, tbX9_ok, hA.1, hA.2⟩ (plainFor_of_name plX9) (Nat.le_of_ble_eq_true rfl) ?_
  show jX9_take X ads sk (0, [some (.inr (some c0)), some (.inl x1), some (.inr (some c2)), none], [], σ) (fX9_take c0 c2 x1 σ)
  unfold fX9_take
  refine j_run 0 1 rfl ?_
  refine jc_if_ne 1 rfl rfl (fun h1 => ?_) (fun h1 => ?_)
  · refine j_run 2 1 rfl ?_
    refine j_gr 3 0 rfl rfl hp0.1 rfl ?_
    refine j_run 4 1 rfl ?_
    refine j_gr 5 0 rfl rfl hp2.1 rfl ?_
    refine j_cv 6 10 1 rfl rfl mwX2_copy hp0.2.2.2.2.1.1 rfl rfl (eX2_copy hA hp0.2.2.2.2.1 hp2.2.2.2.2.1 _) rfl rfl (rok rfl rfl) (Nat.le_of_ble_eq_true rfl) (fun s2 _ h2 => ?_)
    refine j_run 7 1 rfl ?_
    refine j_gr 8 0 rfl rfl hp0.1 rfl ?_
    refine j_gf 9 20 rfl rfl hp0.2.2.2.2.1.1 rfl ?_
    exact j_iret 10 rfl rfl rfl
  · refine j_run 11 2 rfl ?_
    refine j_cvT 13 12 1 rfl rfl mwX9_rowsOf hp0.1 rfl rfl (eX9_rowsOf hA hp0 x1 _) rfl rfl (rok rfl rfl) (Nat.le_of_ble_eq_true rfl) (fun h3 => ?_)
    refine j_run 14 4 rfl ?_
    refine j_cvT 18 12 1 rfl rfl mwX9_rowsOf hp2.1 rfl rfl (eX9_rowsOf hA hp2 x1 _) rfl rfl (rok rfl rfl) (Nat.le_of_ble_eq_true rfl) (fun h4 => ?_)
    refine j_cv 19 11 1 rfl rfl mwX6_copy (rowsOf_ok hp0 x1).1 rfl rfl (eX6_copy hA (rowsOf_ok hp0 x1) (rowsOf_ok hp2 x1) _) rfl rfl (rok rfl rfl) (Nat.le_of_ble_eq_true rfl) (fun s5 _ h5 => ?_)
    refine j_run 20 1 rfl ?_
    refine j_gf 21 16 rfl rfl (rowsOf_ok hp0 x1).1 rfl ?_
    exact j_iret 22 rfl rfl rfl
abbrev jX9_bareFields (X : Cx) (ads : List Nat) (sk : List Sk) (σ : Sg) (ps : PS) (res : Option (Int)) : Prop := J X mX9_bareFields pX9_bareFields tbX9 (rmD 1 0 0) 0 0 E0 (fun a => FM X mX9_bareFields ads sk ((wP σ) a)) ads sk ps res
theorem JX9_bareFields_L4 {X : Cx} {ads : List Nat} {sk : List Sk} (hA : ads.length = sk.length ∧ sk.length ≤ 1000) {c0 : Nat} (hp0 : ocW sk c0) (σ : Sg) : ∀ (n : Nat) (x1 : Int) (x2 : Int), jX9_bareFields X ads sk σ (4, [some (.inr (some c0)), some (.inl x1), some (.inl x2)], [], σ) (fX9_bareFields_L4 c0 σ n x1 x2) := by
  intro n
  induction n with
  | zero => intro x1 x2; exact j_none
  | succ n ih =>
    intro x1 x2
    rw [fX9_bareFields_L4]
    refine j_run 4 2 rfl ?_
    refine jc_icmp_ge 6 rfl rfl (fun h1 => ?_) (fun h1 => ?_)
    · refine j_run 7 2 rfl ?_
      refine j_cvT 9 13 1 rfl rfl mwX9_hasField hp0.1 rfl rfl (eX9_hasField hA hp0 x2 _) rfl rfl (rok rfl rfl) (Nat.le_of_ble_eq_true rfl) (fun h2 => ?_)
      refine jc_if_eq 10 rfl rfl (fun h3 => ?_) (fun h3 => ?_)
      · refine j_run 17 1 rfl ?_
        refine j_goto 18 rfl rfl ?_
        exact j_weak (leP_s (leP_s (leP_s (leP_z)))) (ih x1 (bw (x2 + 1)))
      · refine j_run 11 1 rfl ?_
        refine j_gr 12 10 rfl rfl hp0.1 rfl ?_
        refine j_run 13 1 rfl ?_
        refine j_ald 14 rfl hp0.2.1 rfl ?_
        refine jc_if_ne 15 rfl rfl (fun h4 => ?_) (fun h4 => ?_)
        · refine j_run 16 1 rfl ?_
          refine j_run 17 1 rfl ?_
          refine j_goto 18 rfl rfl ?_
          exact j_weak (leP_s (leP_s (leP_s (leP_z)))) (ih (bw (x1 + 1)) (bw (x2 + 1)))
        · refine j_run 17 1 rfl ?_
          refine j_goto 18 rfl rfl ?_
          exact j_weak (leP_s (leP_s (leP_s (leP_z)))) (ih x1 (bw (x2 + 1)))
    · refine j_run 19 1 rfl ?_
      exact j_iret 20 rfl rfl rfl
theorem eX9_bareFields {X : Cx} {ads : List Nat} {sk : List Sk} (hA : ads.length = sk.length ∧ sk.length ≤ 1000) {c0 : Nat} (hp0 : ocW sk c0) (σ : Sg) : CF X mX9_bareFields ads sk [.inr (some c0)] σ (wP σ) (fX9_bareFields c0 σ) := by
  refine CF.of ⟨pX9_bareFields_ok, tbX9_ok, hA.1, hA.2⟩ (plainFor_of_name plX9) (Nat.le_of_ble_eq_true rfl) ?_
  show jX9_bareFields X ads sk σ (0, [some (.inr (some c0)), none, none], [], σ) (fX9_bareFields c0 σ)
  unfold fX9_bareFields
  refine j_run 0 4 rfl ?_
  exact j_weak (leP_s (leP_s (leP_s (leP_z)))) (JX9_bareFields_L4 hA hp0 σ FU 0 0)
abbrev jX9_meltOf (X : Cx) (ads : List Nat) (sk : List Sk) (ps : PS) (res : Option (Int × Sg)) : Prop := J X mX9_meltOf pX9_meltOf tbX9 (rmD 3 0 0) 0 0 E0 (fun a => FM X mX9_meltOf ads sk (wE a)) ads sk ps res
theorem eX9_meltOf {X : Cx} {ads : List Nat} {sk : List Sk} (hA : ads.length = sk.length ∧ sk.length ≤ 1000) {c0 : Nat} (hp0 : ocW sk c0) (x1 : Int) (σ : Sg) : CF X mX9_meltOf ads sk [.inr (some c0), .inl x1] σ wE (fX9_meltOf c0 x1 σ) := by
  refine CF.of ⟨pX9_meltOf_ok, tbX9_ok, hA.1, hA.2⟩ (plainFor_of_name plX9) (Nat.le_of_ble_eq_true rfl) ?_
  show jX9_meltOf X ads sk (0, [some (.inr (some c0)), some (.inl x1)], [], σ) (fX9_meltOf c0 x1 σ)
  unfold fX9_meltOf
  refine j_run 0 1 rfl ?_
  refine j_gr 1 0 rfl rfl hp0.1 rfl ?_
  refine j_cv 2 1 0 rfl rfl mwX2_forgetNames hp0.2.2.2.2.1.1 rfl rfl (eX2_forgetNames hA hp0.2.2.2.2.1 _) rfl rfl (rok rfl rfl) (Nat.le_of_ble_eq_true rfl) (fun s1 _ h1 => ?_)
  refine j_run 3 1 rfl ?_
  refine j_gr 4 0 rfl rfl hp0.1 rfl ?_
  refine j_run 5 2 rfl ?_
  refine j_cv 7 2 2 rfl rfl mwX2_name hp0.2.2.2.2.1.1 rfl rfl (eX2_name hA hp0.2.2.2.2.1 17 x1 _) rfl rfl (rok rfl rfl) (Nat.le_of_ble_eq_true rfl) (fun s2 _ h2 => ?_)
  refine j_run 8 1 rfl ?_
  refine j_gr 9 0 rfl rfl hp0.1 rfl ?_
  refine j_run 10 2 rfl ?_
  refine j_gf 12 3 rfl rfl hp0.1 rfl ?_
  refine j_cv 13 2 2 rfl rfl mwX2_name hp0.2.2.2.2.1.1 rfl rfl (eX2_name hA hp0.2.2.2.2.1 19 (rd s2 c0 6) _) rfl rfl (rok rfl rfl) (Nat.le_of_ble_eq_true rfl) (fun s3 _ h3 => ?_)
  refine j_run 14 1 rfl ?_
  refine j_gr 15 0 rfl rfl hp0.1 rfl ?_
  refine j_run 16 2 rfl ?_
  refine j_cv 18 4 2 rfl rfl mwX2_tell hp0.2.2.2.2.1.1 rfl rfl (eX2_tell hA hp0.2.2.2.2.1 5 0 _) rfl rfl (rok rfl rfl) (Nat.le_of_ble_eq_true rfl) (fun q4 _ h4 => ?_)
  refine j_run 19 1 rfl ?_
  refine j_csNT 20 0 2 rfl rfl mwX10_held (eX10_held hA q4.1 99 _) rfl rfl (rok rfl rfl) (Nat.le_of_ble_eq_true rfl) (fun h5 => ?_)
  exact j_iret 21 rfl rfl rfl
abbrev jX9_weatherOf (X : Cx) (ads : List Nat) (sk : List Sk) (σ : Sg) (ps : PS) (res : Option (Int)) : Prop := J X mX9_weatherOf pX9_weatherOf tbX9 (rmD 1 0 0) 0 0 E0 (fun a => FM X mX9_weatherOf ads sk ((wP σ) a)) ads sk ps res
theorem JX9_weatherOf_L4 {X : Cx} {ads : List Nat} {sk : List Sk} (hA : ads.length = sk.length ∧ sk.length ≤ 1000) {c0 : Nat} (hp0 : ocW sk c0) (σ : Sg) (x1 : Int) (k33 : Int → Option (Int)) (hk33 : ∀ (x2 : Int), jX9_weatherOf X ads sk σ (33, [some (.inr (some c0)), some (.inl x1), some (.inl x2), none, none], [], σ) (k33 x2)) : ∀ (n : Nat) (x2 : Int) (x3 : Int), jX9_weatherOf X ads sk σ (4, [some (.inr (some c0)), some (.inl x1), some (.inl x2), some (.inl x3), none], [], σ) (fX9_weatherOf_L4 c0 σ k33 x1 n x2 x3) := by
  intro n
  induction n with
  | zero => intro x2 x3; exact j_none
  | succ n ih =>
    intro x2 x3
    rw [fX9_weatherOf_L4]
    refine j_run 4 2 rfl ?_
    refine j_gr 6 8 rfl rfl hp0.1 rfl ?_
    refine j_gf 7 16 rfl rfl hp0.2.2.2.2.2.2.1.1 rfl ?_
    refine jc_icmp_ge 8 rfl rfl (fun h1 => ?_) (fun h1 => ?_)
    · refine j_run 9 2 rfl ?_
      refine j_gr 11 8 rfl rfl hp0.1 rfl ?_
      refine j_run 12 2 rfl ?_
      refine j_cv 14 14 2 rfl rfl mwX6_cell hp0.2.2.2.2.2.2.1.1 rfl rfl (eX6_cell hA hp0.2.2.2.2.2.2.1 x3 0 _) rfl rfl (rok rfl rfl) (Nat.le_of_ble_eq_true rfl) (fun r2 _ h2 => ?_)
      refine j_run 15 3 rfl ?_
      refine j_goto 18 rfl rfl ?_
      exact j_weak (leP_s (leP_s (leP_s (leP_s (leP_n (leP_z)))))) (ih (bw (x2 + r2)) (bw (x3 + 1)))
    · exact j_weak (leP_s (leP_s (leP_s (leP_n (leP_n (leP_z)))))) (hk33 x2)
theorem JX9_weatherOf_L46 {X : Cx} {ads : List Nat} {sk : List Sk} (hA : ads.length = sk.length ∧ sk.length ≤ 1000) {c0 : Nat} (hp0 : ocW sk c0) (σ : Sg) (k75 : Int → Option (Int)) (hk75 : ∀ (x4 : Int), jX9_weatherOf X ads sk σ (75, [some (.inr (some c0)), none, none, none, some (.inl x4)], [], σ) (k75 x4)) : ∀ (n : Nat) (x3 : Int) (x4 : Int), jX9_weatherOf X ads sk σ (46, [some (.inr (some c0)), none, none, some (.inl x3), some (.inl x4)], [], σ) (fX9_weatherOf_L46 c0 σ k75 n x3 x4) := by
  intro n
  induction n with
  | zero => intro x3 x4; exact j_none
  | succ n ih =>
    intro x3 x4
    rw [fX9_weatherOf_L46]
    refine j_run 29 2 rfl ?_
    refine j_gr 31 8 rfl rfl hp0.1 rfl ?_
    refine j_gf 32 16 rfl rfl hp0.2.2.2.2.2.2.1.1 rfl ?_
    refine jc_icmp_ge 33 rfl rfl (fun h5 => ?_) (fun h5 => ?_)
    · refine j_run 34 2 rfl ?_
      refine j_gr 36 8 rfl rfl hp0.1 rfl ?_
      refine j_run 37 2 rfl ?_
      refine j_cv 39 14 2 rfl rfl mwX6_cell hp0.2.2.2.2.2.2.1.1 rfl rfl (eX6_cell hA hp0.2.2.2.2.2.2.1 x4 0 _) rfl rfl (rok rfl rfl) (Nat.le_of_ble_eq_true rfl) (fun r6 _ h6 => ?_)
      refine j_run 40 3 rfl ?_
      refine jc_if_ge 43 rfl rfl (fun h7 => ?_) (fun h7 => ?_)
      · exact j_weak (leP_s (leP_n (leP_n (leP_n (leP_s (leP_z)))))) (hk75 x4)
      · refine j_run 50 1 rfl ?_
        refine j_goto 51 rfl rfl ?_
        exact j_weak (leP_s (leP_n (leP_n (leP_s (leP_s (leP_z)))))) (ih (bw (x3 - r6)) (bw (x4 + 1)))
    · refine j_run 52 1 rfl ?_
      exact j_iret 53 rfl rfl rfl
theorem eX9_weatherOf {X : Cx} {ads : List Nat} {sk : List Sk} (hA : ads.length = sk.length ∧ sk.length ≤ 1000) {c0 : Nat} (hp0 : ocW sk c0) (x1 : Int) (σ : Sg) : CF X mX9_weatherOf ads sk [.inr (some c0), .inl x1] σ (wP σ) (fX9_weatherOf c0 x1 σ) := by
  refine CF.of ⟨pX9_weatherOf_ok, tbX9_ok, hA.1, hA.2⟩ (plainFor_of_name plX9) (Nat.le_of_ble_eq_true rfl) ?_
  show jX9_weatherOf X ads sk σ (0, [some (.inr (some c0)), some (.inl x1), none, none, none], [], σ) (fX9_weatherOf c0 x1 σ)
  unfold fX9_weatherOf
  refine j_run 0 4 rfl ?_
  refine j_weak (leP_s (leP_s (leP_s (leP_s (leP_n (leP_z)))))) (JX9_weatherOf_L4 hA hp0 σ x1 _ (fun v3_2 => ?_) FU 0 0)
  refine j_run 19 1 rfl ?_
  refine jc_if_gt 20 rfl rfl (fun h4 => ?_) (fun h4 => ?_)
  · refine j_run 23 2 rfl ?_
    refine j_rem 25 rfl ?_
    refine j_run 26 3 rfl ?_
    refine j_weak (leP_s (leP_n (leP_n (leP_s (leP_s (leP_z)))))) (JX9_weatherOf_L46 hA hp0 σ _ (fun v8_4 => ?_) FU (trm x1 v3_2) 0)
    refine j_run 44 1 rfl ?_
    refine j_gr 45 8 rfl rfl hp0.1 rfl ?_
    refine j_run 46 2 rfl ?_
    refine j_cv 48 14 2 rfl rfl mwX6_cell hp0.2.2.2.2.2.2.1.1 rfl rfl (eX6_cell hA hp0.2.2.2.2.2.2.1 v8_4 1 _) rfl rfl (rok rfl rfl) (Nat.le_of_ble_eq_true rfl) (fun r9 _ h9 => ?_)
    exact j_iret 49 rfl rfl rfl
  · refine j_run 21 1 rfl ?_
    exact j_iret 22 rfl rfl rfl
abbrev jX9_note (X : Cx) (ads : List Nat) (sk : List Sk) (ps : PS) (res : Option (Sg)) : Prop := J X mX9_note pX9_note tbX9 (rmD 1 0 0) 0 0 E0 (fun a => FM X mX9_note ads sk (wV a)) ads sk ps res
theorem eX9_note {X : Cx} {ads : List Nat} {sk : List Sk} (hA : ads.length = sk.length ∧ sk.length ≤ 1000) {c0 : Nat} (hp0 : ocW sk c0) (x1 : Int) (x2 : Int) (x3 : Int) (σ : Sg) : CF X mX9_note ads sk [.inr (some c0), .inl x1, .inl x2, .inl x3] σ wV (fX9_note c0 x1 x2 x3 σ) := by
  refine CF.of ⟨pX9_note_ok, tbX9_ok, hA.1, hA.2⟩ (plainFor_of_name plX9) (Nat.le_of_ble_eq_true rfl) ?_
  show jX9_note X ads sk (0, [some (.inr (some c0)), some (.inl x1), some (.inl x2), some (.inl x3)], [], σ) (fX9_note c0 x1 x2 x3 σ)
  unfold fX9_note
  refine j_run 0 1 rfl ?_
  refine j_gr 1 18 rfl rfl hp0.1 rfl ?_
  refine j_run 2 1 rfl ?_
  refine j_gf 3 3 rfl rfl hp0.1 rfl ?_
  refine j_run 4 3 rfl ?_
  refine j_cv 7 15 4 rfl rfl mwX6_add hp0.2.2.2.2.2.2.2.2.2.1 rfl rfl (eX6_add hA hp0.2.2.2.2.2.2.2.2.2 (rd σ c0 6) x1 x2 x3 _) rfl rfl (rok rfl rfl) (Nat.le_of_ble_eq_true rfl) (fun q1 _ h1 => ?_)
  refine j_run 8 1 rfl ?_
  exact j_vret 9 rfl rfl rfl
abbrev jX9_rise (X : Cx) (ads : List Nat) (sk : List Sk) (ps : PS) (res : Option (Int × Sg)) : Prop := J X mX9_rise pX9_rise tbX9 (rmD 1 0 0) 0 0 E0 (fun a => FM X mX9_rise ads sk (wE a)) ads sk ps res
theorem JX9_rise_L4 {X : Cx} {ads : List Nat} {sk : List Sk} (hA : ads.length = sk.length ∧ sk.length ≤ 1000) {c0 : Nat} (hp0 : ocW sk c0) : ∀ (n : Nat) (x1 : Int) (x2 : Int) (σ : Sg), jX9_rise X ads sk (4, [some (.inr (some c0)), some (.inl x1), some (.inl x2), none], [], σ) (fX9_rise_L4 c0 n x1 x2 σ) := by
  intro n
  induction n with
  | zero => intro x1 x2 σ; exact j_none
  | succ n ih =>
    intro x1 x2 σ
    rw [fX9_rise_L4]
    refine j_run 4 2 rfl ?_
    refine jc_icmp_ge 6 rfl rfl (fun h1 => ?_) (fun h1 => ?_)
    · refine j_run 7 1 rfl ?_
      refine j_gr 8 21 rfl rfl hp0.1 rfl ?_
      refine j_run 9 1 rfl ?_
      refine j_ald 10 rfl hp0.2.2.1 rfl ?_
      refine j_run 11 1 rfl ?_
      refine j_gr 12 10 rfl rfl hp0.1 rfl ?_
      refine j_run 13 1 rfl ?_
      refine j_ald 14 rfl hp0.2.1 rfl ?_
      refine j_csT 15 6 2 rfl rfl mwJ9_min_7cf53 (eJ9_min_7cf53 hA (rd σ (c0 + 2) x2) (rd σ (c0 + 1) x2) _) rfl rfl (rok rfl rfl) (Nat.le_of_ble_eq_true rfl) (fun h2 => ?_)
      refine j_run 16 2 rfl ?_
      refine j_gr 18 10 rfl rfl hp0.1 rfl ?_
      refine j_run 19 2 rfl ?_
      refine j_ald 21 rfl hp0.2.1 rfl ?_
      refine j_run 22 2 rfl ?_
      refine j_ast 24 rfl hp0.2.1 rfl ?_
      refine j_run 25 5 rfl ?_
      refine j_goto 30 rfl rfl ?_
      exact j_weak (leP_s (leP_s (leP_s (leP_n (leP_z))))) (ih (bw (x1 + (fJ9_min_7cf53 (rd σ (c0 + 2) x2) (rd σ (c0 + 1) x2)))) (bw (x2 + 1)) _)
    · refine j_run 31 2 rfl ?_
      refine j_gf 33 14 rfl rfl hp0.1 rfl ?_
      refine j_run 34 2 rfl ?_
      refine j_pf 36 14 rfl rfl hp0.1 rfl rfl (Or.inl rfl) ?_
      refine j_run 37 1 rfl ?_
      exact j_iret 38 rfl rfl rfl
theorem eX9_rise {X : Cx} {ads : List Nat} {sk : List Sk} (hA : ads.length = sk.length ∧ sk.length ≤ 1000) {c0 : Nat} (hp0 : ocW sk c0) (σ : Sg) : CF X mX9_rise ads sk [.inr (some c0)] σ wE (fX9_rise c0 σ) := by
  refine CF.of ⟨pX9_rise_ok, tbX9_ok, hA.1, hA.2⟩ (plainFor_of_name plX9) (Nat.le_of_ble_eq_true rfl) ?_
  show jX9_rise X ads sk (0, [some (.inr (some c0)), none, none, none], [], σ) (fX9_rise c0 σ)
  unfold fX9_rise
  refine j_run 0 4 rfl ?_
  exact j_weak (leP_s (leP_s (leP_s (leP_n (leP_z))))) (JX9_rise_L4 hA hp0 FU 0 0 _)
abbrev jX9_drift (X : Cx) (ads : List Nat) (sk : List Sk) (ps : PS) (res : Option (Int × Sg)) : Prop := J X mX9_drift pX9_drift tbX9 (rmD 1 0 0) 0 0 E0 (fun a => FM X mX9_drift ads sk (wE a)) ads sk ps res
theorem JX9_drift_L2 {X : Cx} {ads : List Nat} {sk : List Sk} (hA : ads.length = sk.length ∧ sk.length ≤ 1000) {c0 : Nat} (hp0 : ocW sk c0) (k37 : Sg → Option (Int × Sg)) (hk37 : ∀  (σ : Sg), jX9_drift X ads sk (37, [some (.inr (some c0)), none, none, none], [], σ) (k37 σ)) : ∀ (n : Nat) (x1 : Int) (σ : Sg), jX9_drift X ads sk (2, [some (.inr (some c0)), some (.inl x1), none, none], [], σ) (fX9_drift_L2 c0 k37 n x1 σ) := by
  intro n
  induction n with
  | zero => intro x1 σ; exact j_none
  | succ n ih =>
    intro x1 σ
    rw [fX9_drift_L2]
    refine j_run 2 2 rfl ?_
    refine jc_icmp_ge 4 rfl rfl (fun h1 => ?_) (fun h1 => ?_)
    · refine j_run 5 1 rfl ?_
      refine j_gr 6 21 rfl rfl hp0.1 rfl ?_
      refine j_run 7 2 rfl ?_
      refine j_gr 9 21 rfl rfl hp0.1 rfl ?_
      refine j_run 10 1 rfl ?_
      refine j_ald 11 rfl hp0.2.2.1 rfl ?_
      refine j_run 12 1 rfl ?_
      refine j_div0 13 rfl (by decide) ?_
      refine j_run 14 1 rfl ?_
      refine j_gr 15 10 rfl rfl hp0.1 rfl ?_
      refine j_run 16 1 rfl ?_
      refine j_ald 17 rfl hp0.2.1 rfl ?_
      refine j_csT 18 6 2 rfl rfl mwJ9_min_7cf53 (eJ9_min_7cf53 hA (tdv (rd σ (c0 + 2) x1) 2) (rd σ (c0 + 1) x1) _) rfl rfl (rok rfl rfl) (Nat.le_of_ble_eq_true rfl) (fun h2 => ?_)
      refine j_ast 19 rfl hp0.2.2.1 rfl ?_
      refine j_run 20 1 rfl ?_
      refine j_goto 21 rfl rfl ?_
      exact j_weak (leP_s (leP_s (leP_n (leP_n (leP_z))))) (ih (bw (x1 + 1)) _)
    · exact j_weak (leP_s (leP_n (leP_n (leP_n (leP_z))))) (hk37 _)
theorem JX9_drift_L41 {X : Cx} {ads : List Nat} {sk : List Sk} (hA : ads.length = sk.length ∧ sk.length ≤ 1000) {c0 : Nat} (hp0 : ocW sk c0) (k137 : Int → Sg → Option (Int × Sg)) (hk137 : ∀ (x1 : Int) (σ : Sg), jX9_drift X ads sk (137, [some (.inr (some c0)), some (.inl x1), none, none], [], σ) (k137 x1 σ)) : ∀ (n : Nat) (x1 : Int) (x2 : Int) (σ : Sg), jX9_drift X ads sk (41, [some (.inr (some c0)), some (.inl x1), some (.inl x2), none], [], σ) (fX9_drift_L41 c0 k137 n x1 x2 σ) := by
  intro n
  induction n with
  | zero => intro x1 x2 σ; exact j_none
  | succ n ih =>
    intro x1 x2 σ
    rw [fX9_drift_L41]
    refine j_run 26 2 rfl ?_
    refine jc_icmp_ge 28 rfl rfl (fun h4 => ?_) (fun h4 => ?_)
    · refine j_run 29 1 rfl ?_
      refine j_gr 30 21 rfl rfl hp0.1 rfl ?_
      refine j_run 31 1 rfl ?_
      refine j_ald 32 rfl hp0.2.2.1 rfl ?_
      refine jc_if_ne 33 rfl rfl (fun h5 => ?_) (fun h5 => ?_)
      · refine j_goto 34 rfl rfl ?_
        refine j_run 83 1 rfl ?_
        refine j_goto 84 rfl rfl ?_
        exact j_weak (leP_s (leP_s (leP_s (leP_n (leP_z))))) (ih x1 (bw (x2 + 1)) _)
      · refine j_run 35 2 rfl ?_
        refine j_gr 37 21 rfl rfl hp0.1 rfl ?_
        refine j_run 38 1 rfl ?_
        refine j_ald 39 rfl hp0.2.2.1 rfl ?_
        refine j_run 40 3 rfl ?_
        refine j_gr 43 10 rfl rfl hp0.1 rfl ?_
        refine j_run 44 2 rfl ?_
        refine j_ald 46 rfl hp0.2.1 rfl ?_
        refine j_run 47 1 rfl ?_
        refine j_gr 48 21 rfl rfl hp0.1 rfl ?_
        refine j_run 49 1 rfl ?_
        refine j_ald 50 rfl hp0.2.2.1 rfl ?_
        refine j_run 51 1 rfl ?_
        refine j_ast 52 rfl hp0.2.1 rfl ?_
        refine j_run 53 3 rfl ?_
        refine j_gf 56 12 rfl rfl hp0.1 rfl ?_
        refine j_cvT 57 16 2 rfl rfl mwX9_beside hp0.1 rfl rfl (eX9_beside hA hp0 x2 (rd (wr σ (c0 + 1) x2 (bw ((rd σ (c0 + 1) x2) - (rd σ (c0 + 2) x2)))) c0 2) _) rfl rfl (rok rfl rfl) (Nat.le_of_ble_eq_true rfl) (fun h6 => ?_)
        refine j_run 58 3 rfl ?_
        refine jc_icmp_ne 61 rfl rfl (fun h7 => ?_) (fun h7 => ?_)
        · refine j_run 62 2 rfl ?_
          refine j_gf 64 14 rfl rfl hp0.1 rfl ?_
          refine j_run 65 1 rfl ?_
          refine j_gr 66 21 rfl rfl hp0.1 rfl ?_
          refine j_run 67 1 rfl ?_
          refine j_ald 68 rfl hp0.2.2.1 rfl ?_
          refine j_run 69 1 rfl ?_
          refine j_pf 70 14 rfl rfl hp0.1 rfl rfl (Or.inl rfl) ?_
          refine j_goto 71 rfl rfl ?_
          refine j_run 83 1 rfl ?_
          refine j_goto 84 rfl rfl ?_
          exact j_weak (leP_s (leP_s (leP_s (leP_n (leP_z))))) (ih (bw (x1 + (rd σ (c0 + 2) x2))) (bw (x2 + 1)) _)
        · refine j_run 72 1 rfl ?_
          refine j_gr 73 10 rfl rfl hp0.1 rfl ?_
          refine j_run 74 2 rfl ?_
          refine j_ald 76 rfl hp0.2.1 rfl ?_
          refine j_run 77 1 rfl ?_
          refine j_gr 78 21 rfl rfl hp0.1 rfl ?_
          refine j_run 79 1 rfl ?_
          refine j_ald 80 rfl hp0.2.2.1 rfl ?_
          refine j_run 81 1 rfl ?_
          refine j_ast 82 rfl hp0.2.1 rfl ?_
          refine j_run 83 1 rfl ?_
          refine j_goto 84 rfl rfl ?_
          exact j_weak (leP_s (leP_s (leP_s (leP_n (leP_z))))) (ih (bw (x1 + (rd σ (c0 + 2) x2))) (bw (x2 + 1)) _)
    · exact j_weak (leP_s (leP_s (leP_n (leP_n (leP_z))))) (hk137 x1 _)
theorem JX9_drift_L139 {X : Cx} {ads : List Nat} {sk : List Sk} (hA : ads.length = sk.length ∧ sk.length ≤ 1000) {c0 : Nat} (hp0 : ocW sk c0) (x1 : Int) : ∀ (n : Nat) (x2 : Int) (σ : Sg), jX9_drift X ads sk (139, [some (.inr (some c0)), some (.inl x1), some (.inl x2), none], [], σ) (fX9_drift_L139 c0 x1 n x2 σ) := by
  intro n
  induction n with
  | zero => intro x2 σ; exact j_none
  | succ n ih =>
    intro x2 σ
    rw [fX9_drift_L139]
    refine j_run 87 2 rfl ?_
    refine jc_icmp_ge 89 rfl rfl (fun h9 => ?_) (fun h9 => ?_)
    · refine j_run 90 1 rfl ?_
      refine j_gr 91 10 rfl rfl hp0.1 rfl ?_
      refine j_run 92 2 rfl ?_
      refine j_gr 94 10 rfl rfl hp0.1 rfl ?_
      refine j_run 95 1 rfl ?_
      refine j_ald 96 rfl hp0.2.1 rfl ?_
      refine j_run 97 1 rfl ?_
      refine j_csT 98 6 2 rfl rfl mwJ9_min_7cf53 (eJ9_min_7cf53 hA (rd σ (c0 + 1) x2) 99 _) rfl rfl (rok rfl rfl) (Nat.le_of_ble_eq_true rfl) (fun h10 => ?_)
      refine j_ast 99 rfl hp0.2.1 rfl ?_
      refine j_run 100 1 rfl ?_
      refine j_goto 101 rfl rfl ?_
      exact j_weak (leP_s (leP_s (leP_s (leP_n (leP_z))))) (ih (bw (x2 + 1)) _)
    · refine j_run 102 1 rfl ?_
      exact j_iret 103 rfl rfl rfl
theorem eX9_drift {X : Cx} {ads : List Nat} {sk : List Sk} (hA : ads.length = sk.length ∧ sk.length ≤ 1000) {c0 : Nat} (hp0 : ocW sk c0) (σ : Sg) : CF X mX9_drift ads sk [.inr (some c0)] σ wE (fX9_drift c0 σ) := by
  refine CF.of ⟨pX9_drift_ok, tbX9_ok, hA.1, hA.2⟩ (plainFor_of_name plX9) (Nat.le_of_ble_eq_true rfl) ?_
  show jX9_drift X ads sk (0, [some (.inr (some c0)), none, none, none], [], σ) (fX9_drift c0 σ)
  unfold fX9_drift
  refine j_run 0 2 rfl ?_
  refine j_weak (leP_s (leP_s (leP_n (leP_n (leP_z))))) (JX9_drift_L2 hA hp0 _ (fun s3 => ?_) FU 0 _)
  refine j_run 22 4 rfl ?_
  refine j_weak (leP_s (leP_s (leP_s (leP_n (leP_z))))) (JX9_drift_L41 hA hp0 _ (fun v8_1 s8 => ?_) FU 0 0 _)
  refine j_run 85 2 rfl ?_
  exact j_weak (leP_s (leP_s (leP_s (leP_n (leP_z))))) (JX9_drift_L139 hA hp0 v8_1 FU 0 _)
abbrev jX9_makeVow (X : Cx) (ads : List Nat) (sk : List Sk) (ps : PS) (res : Option (Int × Sg)) : Prop := J X mX9_makeVow pX9_makeVow tbX9 (rmD 5 0 0) 0 0 E0 (fun a => FM X mX9_makeVow ads sk (wE a)) ads sk ps res
theorem JX9_makeVow_J111 {X : Cx} {ads : List Nat} {sk : List Sk} (hA : ads.length = sk.length ∧ sk.length ≤ 1000) {c0 : Nat} (hp0 : ocW sk c0) (x1 : Int) (x2 : Int) (x4 : Int) (x5 : Int) (x6 : Int) (σ : Sg) : jX9_makeVow X ads sk (111, [some (.inr (some c0)), some (.inl x1), some (.inl x2), none, some (.inl x4), some (.inl x5), some (.inl x6), none], [], σ) (fX9_makeVow_J111 c0 x1 x2 x4 x5 x6 σ) := by
  unfold fX9_makeVow_J111
  refine j_run 57 1 rfl ?_
  refine j_gr 58 1 rfl rfl hp0.1 rfl ?_
  refine j_gr 59 22 rfl rfl hp0.2.2.2.1.1 rfl ?_
  refine j_run 60 2 rfl ?_
  refine j_ast 62 rfl hp0.2.2.2.1.2.2.2.2.2.1 rfl ?_
  refine j_run 63 1 rfl ?_
  refine j_gr 64 1 rfl rfl hp0.1 rfl ?_
  refine j_gr 65 22 rfl rfl hp0.2.2.2.1.1 rfl ?_
  refine j_run 66 2 rfl ?_
  refine j_ast 68 rfl hp0.2.2.2.1.2.2.2.2.2.1 rfl ?_
  refine j_run 69 4 rfl ?_
  refine j_cv 73 18 3 rfl rfl mwX9_note hp0.1 rfl rfl (eX9_note hA hp0 x5 x1 x6 _) rfl rfl (rok rfl rfl) (Nat.le_of_ble_eq_true rfl) (fun s2 _ h2 => ?_)
  refine j_run 74 1 rfl ?_
  exact j_iret 75 rfl rfl rfl
theorem JX9_makeVow_L23 {X : Cx} {ads : List Nat} {sk : List Sk} (hA : ads.length = sk.length ∧ sk.length ≤ 1000) {c0 : Nat} (hp0 : ocW sk c0) (x1 : Int) (x2 : Int) (x3 : Int) (x4 : Int) (k77 : Sg → Option (Int × Sg)) (hk77 : ∀  (σ : Sg), jX9_makeVow X ads sk (77, [some (.inr (some c0)), some (.inl x1), some (.inl x2), none, some (.inl x4), none, none, none], [], σ) (k77 σ)) : ∀ (n : Nat) (x7 : Int) (σ : Sg), jX9_makeVow X ads sk (23, [some (.inr (some c0)), some (.inl x1), some (.inl x2), some (.inl x3), some (.inl x4), none, none, some (.inl x7)], [], σ) (fX9_makeVow_L23 c0 k77 x1 x2 x3 x4 n x7 σ) := by
  intro n
  induction n with
  | zero => intro x7 σ; exact j_none
  | succ n ih =>
    intro x7 σ
    rw [fX9_makeVow_L23]
    refine j_run 14 2 rfl ?_
    refine jc_icmp_ge 16 rfl rfl (fun h4 => ?_) (fun h4 => ?_)
    · refine j_run 17 1 rfl ?_
      refine j_gr 18 21 rfl rfl hp0.1 rfl ?_
      refine j_run 19 3 rfl ?_
      refine j_cvT 22 13 1 rfl rfl mwX9_hasField hp0.1 rfl rfl (eX9_hasField hA hp0 x7 _) rfl rfl (rok rfl rfl) (Nat.le_of_ble_eq_true rfl) (fun h5 => ?_)
      refine jc_if_eq 23 rfl rfl (fun h6 => ?_) (fun h6 => ?_)
      · refine j_run 37 1 rfl ?_
        refine j_ast 38 rfl hp0.2.2.1 rfl ?_
        refine j_run 39 1 rfl ?_
        refine j_goto 40 rfl rfl ?_
        exact j_weak (leP_s (leP_s (leP_s (leP_s (leP_s (leP_n (leP_n (leP_s (leP_z))))))))) (ih (bw (x7 + 1)) _)
      · refine j_run 24 6 rfl ?_
        refine j_csNT 30 1 2 rfl rfl mwX10_steps (eX10_steps hA x3 x7 _) rfl rfl (rok rfl rfl) (Nat.le_of_ble_eq_true rfl) (fun h7 => ?_)
        refine j_run 31 1 rfl ?_
        refine j_gr 32 10 rfl rfl hp0.1 rfl ?_
        refine j_run 33 1 rfl ?_
        refine j_ald 34 rfl hp0.2.1 rfl ?_
        refine j_cv 35 19 5 rfl rfl mwX9_liftOf hp0.1 rfl rfl (eX9_liftOf hA hp0 x1 x2 x4 (fX10_steps x3 x7) (rd σ (c0 + 1) x7) _) rfl rfl (rok rfl rfl) (Nat.le_of_ble_eq_true rfl) (fun q8 _ h8 => ?_)
        refine j_goto 36 rfl rfl ?_
        refine j_ast 38 rfl hp0.2.2.1 rfl ?_
        refine j_run 39 1 rfl ?_
        refine j_goto 40 rfl rfl ?_
        exact j_weak (leP_s (leP_s (leP_s (leP_s (leP_s (leP_n (leP_n (leP_s (leP_z))))))))) (ih (bw (x7 + 1)) _)
    · exact j_weak (leP_s (leP_s (leP_s (leP_n (leP_s (leP_n (leP_n (leP_n (leP_z))))))))) (hk77 _)
theorem JX9_makeVow_J89 {X : Cx} {ads : List Nat} {sk : List Sk} (hA : ads.length = sk.length ∧ sk.length ≤ 1000) {c0 : Nat} (hp0 : ocW sk c0) (x1 : Int) (x2 : Int) (x4 : Int) (k111 : Int → Int → Sg → Option (Int × Sg)) (hk111 : ∀ (x5 : Int) (x6 : Int) (σ : Sg), jX9_makeVow X ads sk (111, [some (.inr (some c0)), some (.inl x1), some (.inl x2), none, some (.inl x4), some (.inl x5), some (.inl x6), none], [], σ) (k111 x5 x6 σ)) (y0 : Int) (σ : Sg) : jX9_makeVow X ads sk (89, [some (.inr (some c0)), some (.inl x1), some (.inl x2), none, some (.inl x4), none, none, none], [.inl y0], σ) (fX9_makeVow_J89 c0 k111 x1 x2 x4 y0 σ) := by
  unfold fX9_makeVow_J89
  refine j_run 47 3 rfl ?_
  refine jc_icmp_lt 50 rfl rfl (fun h10 => ?_) (fun h10 => ?_)
  · refine j_run 54 1 rfl ?_
    refine j_cv 55 20 0 rfl rfl mwX9_drift hp0.1 rfl rfl (eX9_drift hA hp0 _) rfl rfl (rok rfl rfl) (Nat.le_of_ble_eq_true rfl) (fun q11 _ h11 => ?_)
    refine j_run 56 1 rfl ?_
    exact j_weak (leP_s (leP_s (leP_s (leP_n (leP_s (leP_s (leP_s (leP_n (leP_z))))))))) (hk111 y0 q11.1 _)
  · refine j_run 51 1 rfl ?_
    refine j_cv 52 21 0 rfl rfl mwX9_rise hp0.1 rfl rfl (eX9_rise hA hp0 _) rfl rfl (rok rfl rfl) (Nat.le_of_ble_eq_true rfl) (fun q12 _ h12 => ?_)
    refine j_goto 53 rfl rfl ?_
    refine j_run 56 1 rfl ?_
    exact j_weak (leP_s (leP_s (leP_s (leP_n (leP_s (leP_s (leP_s (leP_n (leP_z))))))))) (hk111 y0 q12.1 _)
theorem eX9_makeVow {X : Cx} {ads : List Nat} {sk : List Sk} (hA : ads.length = sk.length ∧ sk.length ≤ 1000) {c0 : Nat} (hp0 : ocW sk c0) (x1 : Int) (x2 : Int) (x3 : Int) (σ : Sg) : CF X mX9_makeVow ads sk [.inr (some c0), .inl x1, .inl x2, .inl x3] σ wE (fX9_makeVow c0 x1 x2 x3 σ) := by
  refine CF.of ⟨pX9_makeVow_ok, tbX9_ok, hA.1, hA.2⟩ (plainFor_of_name plX9) (Nat.le_of_ble_eq_true rfl) ?_
  show jX9_makeVow X ads sk (0, [some (.inr (some c0)), some (.inl x1), some (.inl x2), some (.inl x3), none, none, none, none], [], σ) (fX9_makeVow c0 x1 x2 x3 σ)
  unfold fX9_makeVow
  refine j_run 0 3 rfl ?_
  refine j_cv 3 17 2 rfl rfl mwX9_foundOf hp0.1 rfl rfl (eX9_foundOf hA hp0 x1 x2 _) rfl rfl (rok rfl rfl) (Nat.le_of_ble_eq_true rfl) (fun q1 _ h1 => ?_)
  refine j_run 4 7 rfl ?_
  refine jc_icmp_lt 11 rfl rfl (fun h3 => ?_) (fun h3 => ?_)
  · exact j_weak (leP_s (leP_s (leP_s (leP_n (leP_s (leP_s (leP_s (leP_n (leP_z))))))))) (JX9_makeVow_J111 hA hp0 x1 x2 q1.1 2 0 _)
  · refine j_run 12 2 rfl ?_
    refine j_weak (leP_s (leP_s (leP_s (leP_s (leP_s (leP_n (leP_n (leP_s (leP_z))))))))) (JX9_makeVow_L23 hA hp0 x1 x2 x3 q1.1 _ (fun s9 => ?_) FU 0 _)
    refine j_run 41 2 rfl ?_
    refine jc_icmp_lt 43 rfl rfl (fun h13 => ?_) (fun h13 => ?_)
    · refine j_run 46 1 rfl ?_
      exact j_weak (leP_s (leP_s (leP_s (leP_n (leP_s (leP_n (leP_n (leP_n (leP_z))))))))) (JX9_makeVow_J89 hA hp0 x1 x2 q1.1 _ (JX9_makeVow_J111 hA hp0 x1 x2 q1.1) 1 _)
    · refine j_run 44 1 rfl ?_
      refine j_goto 45 rfl rfl ?_
      exact j_weak (leP_s (leP_s (leP_s (leP_n (leP_s (leP_n (leP_n (leP_n (leP_z))))))))) (JX9_makeVow_J89 hA hp0 x1 x2 q1.1 _ (JX9_makeVow_J111 hA hp0 x1 x2 q1.1) 0 _)
abbrev jX9_draw (X : Cx) (ads : List Nat) (sk : List Sk) (ps : PS) (res : Option (Int × Sg)) : Prop := J X mX9_draw pX9_draw tbX9 (rmD 0 0 0) 0 0 E0 (fun a => FM X mX9_draw ads sk (wE a)) ads sk ps res
theorem eX9_draw {X : Cx} {ads : List Nat} {sk : List Sk} (hA : ads.length = sk.length ∧ sk.length ≤ 1000) {c0 : Nat} (hp0 : ocW sk c0) (x1 : Int) (σ : Sg) : CF X mX9_draw ads sk [.inr (some c0), .inl x1] σ wE (fX9_draw c0 x1 σ) := by
  refine CF.of ⟨pX9_draw_ok, tbX9_ok, hA.1, hA.2⟩ (plainFor_of_name plX9) (Nat.le_of_ble_eq_true rfl) ?_
  show jX9_draw X ads sk (0, [some (.inr (some c0)), some (.inl x1)], [], σ) (fX9_draw c0 x1 σ)
  unfold fX9_draw
  refine j_run 0 3 rfl ?_
  refine j_gf 3 19 rfl rfl hp0.1 rfl ?_
  refine j_run 4 3 rfl ?_
  refine j_pf 7 19 rfl rfl hp0.1 rfl rfl (Or.inl rfl) ?_
  refine j_run 8 1 rfl ?_
  refine jc_if_gt 9 rfl rfl (fun h1 => ?_) (fun h1 => ?_)
  · refine j_run 12 1 rfl ?_
    refine j_gf 13 19 rfl rfl hp0.1 rfl ?_
    refine j_run 14 3 rfl ?_
    refine j_rem 17 rfl ?_
    exact j_iret 18 rfl rfl rfl
  · refine j_run 10 1 rfl ?_
    refine j_goto 11 rfl rfl ?_
    exact j_iret 18 rfl rfl rfl
abbrev jX9_slide (X : Cx) (ads : List Nat) (sk : List Sk) (ps : PS) (res : Option (Sg)) : Prop := J X mX9_slide pX9_slide tbX9 (rmD 2 0 0) 0 0 E0 (fun a => FM X mX9_slide ads sk (wV a)) ads sk ps res
theorem JX9_slide_J96 {X : Cx} {ads : List Nat} {sk : List Sk} (hA : ads.length = sk.length ∧ sk.length ≤ 1000) {c0 : Nat} (hp0 : ocW sk c0) (x1 : Int) (x2 : Int) (k2 : Int → Sg → Option (Sg)) (hk2 : ∀ (x1 : Int) (σ : Sg), jX9_slide X ads sk (2, [some (.inr (some c0)), some (.inl x1), none, none], [], σ) (k2 x1 σ)) (σ : Sg) : jX9_slide X ads sk (96, [some (.inr (some c0)), some (.inl x1), some (.inl x2), none], [], σ) (fX9_slide_J96 c0 k2 x1 x2 σ) := by
  unfold fX9_slide_J96
  refine j_run 58 4 rfl ?_
  refine j_cv 62 18 3 rfl rfl mwX9_note hp0.1 rfl rfl (eX9_note hA hp0 4 x1 x2 _) rfl rfl (rok rfl rfl) (Nat.le_of_ble_eq_true rfl) (fun s8 _ h8 => ?_)
  refine j_run 63 1 rfl ?_
  refine j_goto 64 rfl rfl ?_
  exact j_weak (leP_s (leP_s (leP_n (leP_n (leP_z))))) (hk2 (bw (x1 + 1)) _)
theorem JX9_slide_L2 {X : Cx} {ads : List Nat} {sk : List Sk} (hA : ads.length = sk.length ∧ sk.length ≤ 1000) {c0 : Nat} (hp0 : ocW sk c0) : ∀ (n : Nat) (x1 : Int) (σ : Sg), jX9_slide X ads sk (2, [some (.inr (some c0)), some (.inl x1), none, none], [], σ) (fX9_slide_L2 c0 n x1 σ) := by
  intro n
  induction n with
  | zero => intro x1 σ; exact j_none
  | succ n ih =>
    intro x1 σ
    rw [fX9_slide_L2]
    refine j_run 2 2 rfl ?_
    refine jc_icmp_ge 4 rfl rfl (fun h1 => ?_) (fun h1 => ?_)
    · refine j_run 5 2 rfl ?_
      refine j_cvT 7 13 1 rfl rfl mwX9_hasField hp0.1 rfl rfl (eX9_hasField hA hp0 x1 _) rfl rfl (rok rfl rfl) (Nat.le_of_ble_eq_true rfl) (fun h2 => ?_)
      refine jc_if_eq 8 rfl rfl (fun h3 => ?_) (fun h3 => ?_)
      · refine j_run 63 1 rfl ?_
        refine j_goto 64 rfl rfl ?_
        exact j_weak (leP_s (leP_s (leP_n (leP_n (leP_z))))) (ih (bw (x1 + 1)) _)
      · refine j_run 9 1 rfl ?_
        refine j_gr 10 10 rfl rfl hp0.1 rfl ?_
        refine j_run 11 1 rfl ?_
        refine j_ald 12 rfl hp0.2.1 rfl ?_
        refine j_run 13 1 rfl ?_
        refine j_gf 14 11 rfl rfl hp0.1 rfl ?_
        refine jc_icmp_lt 15 rfl rfl (fun h4 => ?_) (fun h4 => ?_)
        · refine j_run 63 1 rfl ?_
          refine j_goto 64 rfl rfl ?_
          exact j_weak (leP_s (leP_s (leP_n (leP_n (leP_z))))) (ih (bw (x1 + 1)) _)
        · refine j_run 16 2 rfl ?_
          refine j_cv 18 22 1 rfl rfl mwX9_draw hp0.1 rfl rfl (eX9_draw hA hp0 1000 _) rfl rfl (rok rfl rfl) (Nat.le_of_ble_eq_true rfl) (fun q5 _ h5 => ?_)
          refine j_run 19 1 rfl ?_
          refine j_gf 20 13 rfl rfl hp0.1 rfl ?_
          refine jc_icmp_lt 21 rfl rfl (fun h6 => ?_) (fun h6 => ?_)
          · refine j_run 23 1 rfl ?_
            refine j_gr 24 10 rfl rfl hp0.1 rfl ?_
            refine j_run 25 1 rfl ?_
            refine j_ald 26 rfl hp0.2.1 rfl ?_
            refine j_run 27 1 rfl ?_
            refine j_div0 28 rfl (by decide) ?_
            refine j_run 29 2 rfl ?_
            refine j_gr 31 10 rfl rfl hp0.1 rfl ?_
            refine j_run 32 2 rfl ?_
            refine j_ald 34 rfl hp0.2.1 rfl ?_
            refine j_run 35 2 rfl ?_
            refine j_ast 37 rfl hp0.2.1 rfl ?_
            refine j_run 38 3 rfl ?_
            refine j_cvT 41 16 2 rfl rfl mwX9_beside hp0.1 rfl rfl (eX9_beside hA hp0 x1 2 _) rfl rfl (rok rfl rfl) (Nat.le_of_ble_eq_true rfl) (fun h7 => ?_)
            refine j_run 42 3 rfl ?_
            refine jc_icmp_eq 45 rfl rfl (fun h9 => ?_) (fun h9 => ?_)
            · exact j_weak (leP_s (leP_s (leP_s (leP_n (leP_z))))) (JX9_slide_J96 hA hp0 x1 (tdv (rd q5.2 (c0 + 1) x1) 2) _ ih _)
            · refine j_run 46 1 rfl ?_
              refine j_gr 47 10 rfl rfl hp0.1 rfl ?_
              refine j_run 48 2 rfl ?_
              refine j_gr 50 10 rfl rfl hp0.1 rfl ?_
              refine j_run 51 1 rfl ?_
              refine j_ald 52 rfl hp0.2.1 rfl ?_
              refine j_run 53 3 rfl ?_
              refine j_csT 56 6 2 rfl rfl mwJ9_min_7cf53 (eJ9_min_7cf53 hA (bw ((rd (wr q5.2 (c0 + 1) x1 (bw ((rd q5.2 (c0 + 1) x1) - (tdv (rd q5.2 (c0 + 1) x1) 2)))) (c0 + 1) (fX9_beside c0 x1 2 (wr q5.2 (c0 + 1) x1 (bw ((rd q5.2 (c0 + 1) x1) - (tdv (rd q5.2 (c0 + 1) x1) 2)))))) + (tdv (rd q5.2 (c0 + 1) x1) 2))) 99 _) rfl rfl (rok rfl rfl) (Nat.le_of_ble_eq_true rfl) (fun h10 => ?_)
              refine j_ast 57 rfl hp0.2.1 rfl ?_
              exact j_weak (leP_s (leP_s (leP_s (leP_n (leP_z))))) (JX9_slide_J96 hA hp0 x1 (tdv (rd q5.2 (c0 + 1) x1) 2) _ ih _)
          · refine j_goto 22 rfl rfl ?_
            refine j_run 63 1 rfl ?_
            refine j_goto 64 rfl rfl ?_
            exact j_weak (leP_s (leP_s (leP_n (leP_n (leP_z))))) (ih (bw (x1 + 1)) _)
    · exact j_vret 65 rfl rfl rfl
theorem eX9_slide {X : Cx} {ads : List Nat} {sk : List Sk} (hA : ads.length = sk.length ∧ sk.length ≤ 1000) {c0 : Nat} (hp0 : ocW sk c0) (σ : Sg) : CF X mX9_slide ads sk [.inr (some c0)] σ wV (fX9_slide c0 σ) := by
  refine CF.of ⟨pX9_slide_ok, tbX9_ok, hA.1, hA.2⟩ (plainFor_of_name plX9) (Nat.le_of_ble_eq_true rfl) ?_
  show jX9_slide X ads sk (0, [some (.inr (some c0)), none, none, none], [], σ) (fX9_slide c0 σ)
  unfold fX9_slide
  refine j_run 0 2 rfl ?_
  exact j_weak (leP_s (leP_s (leP_n (leP_n (leP_z))))) (JX9_slide_L2 hA hp0 FU 0 _)
abbrev jX9_meltAll (X : Cx) (ads : List Nat) (sk : List Sk) (ps : PS) (res : Option (Sg)) : Prop := J X mX9_meltAll pX9_meltAll tbX9 (rmD 4 0 0) 0 0 E0 (fun a => FM X mX9_meltAll ads sk (wV a)) ads sk ps res
theorem JX9_meltAll_J46 {X : Cx} {ads : List Nat} {sk : List Sk} (hA : ads.length = sk.length ∧ sk.length ≤ 1000) {c0 : Nat} (hp0 : ocW sk c0) (x3 : Int) (k6 : Int → Int → Int → Sg → Option (Sg)) (hk6 : ∀ (x1 : Int) (x2 : Int) (x3 : Int) (σ : Sg), jX9_meltAll X ads sk (6, [some (.inr (some c0)), some (.inl x1), some (.inl x2), some (.inl x3)], [], σ) (k6 x1 x2 x3 σ)) (x1 : Int) (x2 : Int) (σ : Sg) : jX9_meltAll X ads sk (46, [some (.inr (some c0)), some (.inl x1), some (.inl x2), some (.inl x3)], [], σ) (fX9_meltAll_J46 c0 k6 x3 x1 x2 σ) := by
  unfold fX9_meltAll_J46
  refine j_run 29 1 rfl ?_
  refine j_gr 30 10 rfl rfl hp0.1 rfl ?_
  refine j_run 31 3 rfl ?_
  refine j_gr 34 10 rfl rfl hp0.1 rfl ?_
  refine j_run 35 1 rfl ?_
  refine j_ald 36 rfl hp0.2.1 rfl ?_
  refine j_run 37 2 rfl ?_
  refine j_csT 39 23 2 rfl rfl mwJ9_max_7cf53 (eJ9_max_7cf53 hA 0 (bw ((rd σ (c0 + 1) x3) - x2)) _) rfl rfl (rok rfl rfl) (Nat.le_of_ble_eq_true rfl) (fun h4 => ?_)
  refine j_ast 40 rfl hp0.2.1 rfl ?_
  refine j_run 41 1 rfl ?_
  refine j_goto 42 rfl rfl ?_
  exact j_weak (leP_s (leP_s (leP_s (leP_s (leP_z))))) (hk6 x1 x2 (bw (x3 + 1)) _)
theorem JX9_meltAll_L6 {X : Cx} {ads : List Nat} {sk : List Sk} (hA : ads.length = sk.length ∧ sk.length ≤ 1000) {c0 : Nat} (hp0 : ocW sk c0) : ∀ (n : Nat) (x1 : Int) (x2 : Int) (x3 : Int) (σ : Sg), jX9_meltAll X ads sk (6, [some (.inr (some c0)), some (.inl x1), some (.inl x2), some (.inl x3)], [], σ) (fX9_meltAll_L6 c0 n x1 x2 x3 σ) := by
  intro n
  induction n with
  | zero => intro x1 x2 x3 σ; exact j_none
  | succ n ih =>
    intro x1 x2 x3 σ
    rw [fX9_meltAll_L6]
    refine j_run 6 2 rfl ?_
    refine jc_icmp_ge 8 rfl rfl (fun h1 => ?_) (fun h1 => ?_)
    · refine j_run 9 2 rfl ?_
      refine j_cvT 11 13 1 rfl rfl mwX9_hasField hp0.1 rfl rfl (eX9_hasField hA hp0 x3 _) rfl rfl (rok rfl rfl) (Nat.le_of_ble_eq_true rfl) (fun h2 => ?_)
      refine jc_if_ne 12 rfl rfl (fun h3 => ?_) (fun h3 => ?_)
      · refine j_goto 13 rfl rfl ?_
        refine j_run 41 1 rfl ?_
        refine j_goto 42 rfl rfl ?_
        exact j_weak (leP_s (leP_s (leP_s (leP_s (leP_z))))) (ih x1 x2 (bw (x3 + 1)) _)
      · refine j_run 14 1 rfl ?_
        refine j_gr 15 10 rfl rfl hp0.1 rfl ?_
        refine j_run 16 1 rfl ?_
        refine j_ald 17 rfl hp0.2.1 rfl ?_
        refine j_run 18 1 rfl ?_
        refine jc_icmp_eq 19 rfl rfl (fun h5 => ?_) (fun h5 => ?_)
        · exact j_weak (leP_s (leP_s (leP_s (leP_s (leP_z))))) (JX9_meltAll_J46 hA hp0 x3 _ ih x1 x2 _)
        · refine j_run 20 1 rfl ?_
          refine j_gr 21 10 rfl rfl hp0.1 rfl ?_
          refine j_run 22 1 rfl ?_
          refine j_ald 23 rfl hp0.2.1 rfl ?_
          refine j_run 24 3 rfl ?_
          refine j_cv 27 24 1 rfl rfl mwX9_meltOf hp0.1 rfl rfl (eX9_meltOf hA hp0 (rd σ (c0 + 1) x3) _) rfl rfl (rok rfl rfl) (Nat.le_of_ble_eq_true rfl) (fun q6 _ h6 => ?_)
          refine j_run 28 1 rfl ?_
          exact j_weak (leP_s (leP_s (leP_s (leP_s (leP_z))))) (JX9_meltAll_J46 hA hp0 x3 _ ih (rd σ (c0 + 1) x3) q6.1 _)
    · exact j_vret 43 rfl rfl rfl
theorem eX9_meltAll {X : Cx} {ads : List Nat} {sk : List Sk} (hA : ads.length = sk.length ∧ sk.length ≤ 1000) {c0 : Nat} (hp0 : ocW sk c0) (σ : Sg) : CF X mX9_meltAll ads sk [.inr (some c0)] σ wV (fX9_meltAll c0 σ) := by
  refine CF.of ⟨pX9_meltAll_ok, tbX9_ok, hA.1, hA.2⟩ (plainFor_of_name plX9) (Nat.le_of_ble_eq_true rfl) ?_
  show jX9_meltAll X ads sk (0, [some (.inr (some c0)), none, none, none], [], σ) (fX9_meltAll c0 σ)
  unfold fX9_meltAll
  refine j_run 0 6 rfl ?_
  exact j_weak (leP_s (leP_s (leP_s (leP_s (leP_z))))) (JX9_meltAll_L6 hA hp0 FU (-1) 0 0 _)
abbrev jX9_passDay (X : Cx) (ads : List Nat) (sk : List Sk) (ps : PS) (res : Option (Int × Sg)) : Prop := J X mX9_passDay pX9_passDay tbX9 (rmD 6 0 0) 0 0 E0 (fun a => FM X mX9_passDay ads sk (wE a)) ads sk ps res
theorem JX9_passDay_L11 {X : Cx} {ads : List Nat} {sk : List Sk} (hA : ads.length = sk.length ∧ sk.length ≤ 1000) {c0 : Nat} (hp0 : ocW sk c0) (x1 : Int) (k46 : Sg → Option (Int × Sg)) (hk46 : ∀  (σ : Sg), jX9_passDay X ads sk (46, [some (.inr (some c0)), none, none, none], [], σ) (k46 σ)) : ∀ (n : Nat) (x2 : Int) (σ : Sg), jX9_passDay X ads sk (11, [some (.inr (some c0)), some (.inl x1), some (.inl x2), none], [], σ) (fX9_passDay_L11 c0 k46 x1 n x2 σ) := by
  intro n
  induction n with
  | zero => intro x2 σ; exact j_none
  | succ n ih =>
    intro x2 σ
    rw [fX9_passDay_L11]
    refine j_run 7 2 rfl ?_
    refine jc_icmp_ge 9 rfl rfl (fun h2 => ?_) (fun h2 => ?_)
    · refine j_run 10 1 rfl ?_
      refine jc_if_le 11 rfl rfl (fun h3 => ?_) (fun h3 => ?_)
      · refine j_run 12 1 rfl ?_
        refine j_gr 13 10 rfl rfl hp0.1 rfl ?_
        refine j_run 14 2 rfl ?_
        refine j_gr 16 10 rfl rfl hp0.1 rfl ?_
        refine j_run 17 1 rfl ?_
        refine j_ald 18 rfl hp0.2.1 rfl ?_
        refine j_run 19 3 rfl ?_
        refine j_csT 22 6 2 rfl rfl mwJ9_min_7cf53 (eJ9_min_7cf53 hA (bw ((rd σ (c0 + 1) x2) + x1)) 99 _) rfl rfl (rok rfl rfl) (Nat.le_of_ble_eq_true rfl) (fun h4 => ?_)
        refine j_ast 23 rfl hp0.2.1 rfl ?_
        refine j_run 24 1 rfl ?_
        refine j_goto 25 rfl rfl ?_
        exact j_weak (leP_s (leP_s (leP_s (leP_n (leP_z))))) (ih (bw (x2 + 1)) _)
      · exact j_weak (leP_s (leP_n (leP_n (leP_n (leP_z))))) (hk46 _)
    · exact j_weak (leP_s (leP_n (leP_n (leP_n (leP_z))))) (hk46 _)
theorem JX9_passDay_L50 {X : Cx} {ads : List Nat} {sk : List Sk} (hA : ads.length = sk.length ∧ sk.length ≤ 1000) {c0 : Nat} (hp0 : ocW sk c0) (k159 : Int → Sg → Option (Int × Sg)) (hk159 : ∀ (x2 : Int) (σ : Sg), jX9_passDay X ads sk (159, [some (.inr (some c0)), none, some (.inl x2), none], [], σ) (k159 x2 σ)) : ∀ (n : Nat) (x2 : Int) (x3 : Int) (σ : Sg), jX9_passDay X ads sk (50, [some (.inr (some c0)), none, some (.inl x2), some (.inl x3)], [], σ) (fX9_passDay_L50 c0 k159 n x2 x3 σ) := by
  intro n
  induction n with
  | zero => intro x2 x3 σ; exact j_none
  | succ n ih =>
    intro x2 x3 σ
    rw [fX9_passDay_L50]
    refine j_run 30 2 rfl ?_
    refine j_gr 32 7 rfl rfl hp0.1 rfl ?_
    refine j_gf 33 16 rfl rfl hp0.2.2.2.2.2.1.1 rfl ?_
    refine jc_icmp_ge 34 rfl rfl (fun h6 => ?_) (fun h6 => ?_)
    · refine j_run 35 1 rfl ?_
      refine j_gr 36 7 rfl rfl hp0.1 rfl ?_
      refine j_run 37 2 rfl ?_
      refine j_cv 39 14 2 rfl rfl mwX6_cell hp0.2.2.2.2.2.1.1 rfl rfl (eX6_cell hA hp0.2.2.2.2.2.1 x3 0 _) rfl rfl (rok rfl rfl) (Nat.le_of_ble_eq_true rfl) (fun r7 _ h7 => ?_)
      refine j_run 40 1 rfl ?_
      refine j_gf 41 3 rfl rfl hp0.1 rfl ?_
      refine jc_icmp_eq 42 rfl rfl (fun h8 => ?_) (fun h8 => ?_)
      · refine j_run 44 1 rfl ?_
        refine j_gr 45 1 rfl rfl hp0.1 rfl ?_
        refine j_run 46 1 rfl ?_
        refine j_gr 47 7 rfl rfl hp0.1 rfl ?_
        refine j_run 48 2 rfl ?_
        refine j_cv 50 14 2 rfl rfl mwX6_cell hp0.2.2.2.2.2.1.1 rfl rfl (eX6_cell hA hp0.2.2.2.2.2.1 x3 1 _) rfl rfl (rok rfl rfl) (Nat.le_of_ble_eq_true rfl) (fun r9 _ h9 => ?_)
        refine j_run 51 1 rfl ?_
        refine j_gr 52 7 rfl rfl hp0.1 rfl ?_
        refine j_run 53 2 rfl ?_
        refine j_cv 55 14 2 rfl rfl mwX6_cell hp0.2.2.2.2.2.1.1 rfl rfl (eX6_cell hA hp0.2.2.2.2.2.1 x3 2 _) rfl rfl (rok rfl rfl) (Nat.le_of_ble_eq_true rfl) (fun r10 _ h10 => ?_)
        refine j_cv 56 26 2 rfl rfl mwX1_canWed hp0.2.2.2.1.1 rfl rfl (eX1_canWed hA hp0.2.2.2.1 r9 r10 _) rfl rfl (rok rfl rfl) (Nat.le_of_ble_eq_true rfl) (fun r11 _ h11 => ?_)
        refine jc_if_eq 57 rfl rfl (fun h12 => ?_) (fun h12 => ?_)
        · refine j_run 78 4 rfl ?_
          refine j_cv 82 18 3 rfl rfl mwX9_note hp0.1 rfl rfl (eX9_note hA hp0 3 x3 0 _) rfl rfl (rok rfl rfl) (Nat.le_of_ble_eq_true rfl) (fun s13 _ h13 => ?_)
          refine j_run 83 1 rfl ?_
          refine j_goto 84 rfl rfl ?_
          exact j_weak (leP_s (leP_n (leP_s (leP_s (leP_z))))) (ih x2 (bw (x3 + 1)) _)
        · refine j_run 58 2 rfl ?_
          refine j_gr 60 7 rfl rfl hp0.1 rfl ?_
          refine j_run 61 2 rfl ?_
          refine j_cv 63 14 2 rfl rfl mwX6_cell hp0.2.2.2.2.2.1.1 rfl rfl (eX6_cell hA hp0.2.2.2.2.2.1 x3 1 _) rfl rfl (rok rfl rfl) (Nat.le_of_ble_eq_true rfl) (fun r14 _ h14 => ?_)
          refine j_run 64 1 rfl ?_
          refine j_gr 65 7 rfl rfl hp0.1 rfl ?_
          refine j_run 66 2 rfl ?_
          refine j_cv 68 14 2 rfl rfl mwX6_cell hp0.2.2.2.2.2.1.1 rfl rfl (eX6_cell hA hp0.2.2.2.2.2.1 x3 2 _) rfl rfl (rok rfl rfl) (Nat.le_of_ble_eq_true rfl) (fun r15 _ h15 => ?_)
          refine j_run 69 1 rfl ?_
          refine j_gr 70 7 rfl rfl hp0.1 rfl ?_
          refine j_run 71 2 rfl ?_
          refine j_cv 73 14 2 rfl rfl mwX6_cell hp0.2.2.2.2.2.1.1 rfl rfl (eX6_cell hA hp0.2.2.2.2.2.1 x3 3 _) rfl rfl (rok rfl rfl) (Nat.le_of_ble_eq_true rfl) (fun r16 _ h16 => ?_)
          refine j_cv 74 27 3 rfl rfl mwX9_makeVow hp0.1 rfl rfl (eX9_makeVow hA hp0 r14 r15 r16 _) rfl rfl (rok rfl rfl) (Nat.le_of_ble_eq_true rfl) (fun q17 _ h17 => ?_)
          refine j_run 75 2 rfl ?_
          refine j_goto 77 rfl rfl ?_
          refine j_run 83 1 rfl ?_
          refine j_goto 84 rfl rfl ?_
          exact j_weak (leP_s (leP_n (leP_s (leP_s (leP_z))))) (ih (bw (x2 + 1)) (bw (x3 + 1)) _)
      · refine j_goto 43 rfl rfl ?_
        refine j_run 83 1 rfl ?_
        refine j_goto 84 rfl rfl ?_
        exact j_weak (leP_s (leP_n (leP_s (leP_s (leP_z))))) (ih x2 (bw (x3 + 1)) _)
    · exact j_weak (leP_s (leP_n (leP_s (leP_n (leP_z))))) (hk159 x2 _)
theorem JX9_passDay_J170 {X : Cx} {ads : List Nat} {sk : List Sk} (hA : ads.length = sk.length ∧ sk.length ≤ 1000) {c0 : Nat} (hp0 : ocW sk c0) (x2 : Int) (σ : Sg) : jX9_passDay X ads sk (170, [some (.inr (some c0)), none, some (.inl x2), none], [], σ) (fX9_passDay_J170 c0 x2 σ) := by
  unfold fX9_passDay_J170
  refine j_run 90 1 rfl ?_
  refine j_cv 91 28 0 rfl rfl mwX9_meltAll hp0.1 rfl rfl (eX9_meltAll hA hp0 _) rfl rfl (rok rfl rfl) (Nat.le_of_ble_eq_true rfl) (fun s19 _ h19 => ?_)
  refine j_run 92 2 rfl ?_
  refine j_gf 94 3 rfl rfl hp0.1 rfl ?_
  refine j_run 95 2 rfl ?_
  refine j_pf 97 3 rfl rfl hp0.1 rfl rfl (Or.inl rfl) ?_
  refine j_run 98 1 rfl ?_
  exact j_iret 99 rfl rfl rfl
theorem eX9_passDay {X : Cx} {ads : List Nat} {sk : List Sk} (hA : ads.length = sk.length ∧ sk.length ≤ 1000) {c0 : Nat} (hp0 : ocW sk c0) (σ : Sg) : CF X mX9_passDay ads sk [.inr (some c0)] σ wE (fX9_passDay c0 σ) := by
  refine CF.of ⟨pX9_passDay_ok, tbX9_ok, hA.1, hA.2⟩ (plainFor_of_name plX9) (Nat.le_of_ble_eq_true rfl) ?_
  show jX9_passDay X ads sk (0, [some (.inr (some c0)), none, none, none], [], σ) (fX9_passDay c0 σ)
  unfold fX9_passDay
  refine j_run 0 2 rfl ?_
  refine j_gf 2 3 rfl rfl hp0.1 rfl ?_
  refine j_cv 3 25 1 rfl rfl mwX9_weatherOf hp0.1 rfl rfl (eX9_weatherOf hA hp0 (rd σ c0 6) _) rfl rfl (rok rfl rfl) (Nat.le_of_ble_eq_true rfl) (fun r1 _ h1 => ?_)
  refine j_run 4 3 rfl ?_
  refine j_weak (leP_s (leP_s (leP_s (leP_n (leP_z))))) (JX9_passDay_L11 hA hp0 r1 _ (fun s5 => ?_) FU 0 _)
  refine j_run 26 4 rfl ?_
  refine j_weak (leP_s (leP_n (leP_s (leP_s (leP_z))))) (JX9_passDay_L50 hA hp0 _ (fun v18_2 s18 => ?_) FU 0 0 _)
  refine j_run 85 1 rfl ?_
  refine j_gf 86 13 rfl rfl hp0.1 rfl ?_
  refine jc_if_le 87 rfl rfl (fun h20 => ?_) (fun h20 => ?_)
  · refine j_run 88 1 rfl ?_
    refine j_cv 89 29 0 rfl rfl mwX9_slide hp0.1 rfl rfl (eX9_slide hA hp0 _) rfl rfl (rok rfl rfl) (Nat.le_of_ble_eq_true rfl) (fun s21 _ h21 => ?_)
    exact j_weak (leP_s (leP_n (leP_s (leP_n (leP_z))))) (JX9_passDay_J170 hA hp0 v18_2 _)
  · exact j_weak (leP_s (leP_n (leP_s (leP_n (leP_z))))) (JX9_passDay_J170 hA hp0 v18_2 _)
abbrev jX9_firstVoid (X : Cx) (ads : List Nat) (sk : List Sk) (σ : Sg) (ps : PS) (res : Option (Int)) : Prop := J X mX9_firstVoid pX9_firstVoid tbX9 (rmD 2 0 0) 0 0 E0 (fun a => FM X mX9_firstVoid ads sk ((wP σ) a)) ads sk ps res
theorem JX9_firstVoid_L30 {X : Cx} {ads : List Nat} {sk : List Sk} (hA : ads.length = sk.length ∧ sk.length ≤ 1000) {c0 : Nat} (hp0 : ocW sk c0) (σ : Sg) (x2 : Int) (x3 : Int) (k22 : Int → Int → Option (Int)) (hk22 : ∀ (x1 : Int) (x3 : Int), jX9_firstVoid X ads sk σ (22, [some (.inr (some c0)), some (.inl x1), some (.inl x2), some (.inl x3), none, none], [], σ) (k22 x1 x3)) : ∀ (n : Nat) (x1 : Int) (x4 : Int), jX9_firstVoid X ads sk σ (30, [some (.inr (some c0)), some (.inl x1), some (.inl x2), some (.inl x3), some (.inl x4), none], [], σ) (fX9_firstVoid_L30 c0 σ k22 x2 x3 n x1 x4) := by
  intro n
  induction n with
  | zero => intro x1 x4; exact j_none
  | succ n ih =>
    intro x1 x4
    rw [fX9_firstVoid_L30]
    refine j_run 17 2 rfl ?_
    refine j_gr 19 7 rfl rfl hp0.1 rfl ?_
    refine j_gf 20 16 rfl rfl hp0.2.2.2.2.2.1.1 rfl ?_
    refine jc_icmp_ge 21 rfl rfl (fun h4 => ?_) (fun h4 => ?_)
    · refine j_run 22 1 rfl ?_
      refine j_gr 23 7 rfl rfl hp0.1 rfl ?_
      refine j_run 24 2 rfl ?_
      refine j_cv 26 14 2 rfl rfl mwX6_cell hp0.2.2.2.2.2.1.1 rfl rfl (eX6_cell hA hp0.2.2.2.2.2.1 x4 0 _) rfl rfl (rok rfl rfl) (Nat.le_of_ble_eq_true rfl) (fun r5 _ h5 => ?_)
      refine j_run 27 1 rfl ?_
      refine jc_icmp_eq 28 rfl rfl (fun h6 => ?_) (fun h6 => ?_)
      · refine j_run 30 2 rfl ?_
        refine j_gr 32 7 rfl rfl hp0.1 rfl ?_
        refine j_run 33 2 rfl ?_
        refine j_cv 35 14 2 rfl rfl mwX6_cell hp0.2.2.2.2.2.1.1 rfl rfl (eX6_cell hA hp0.2.2.2.2.2.1 x4 1 _) rfl rfl (rok rfl rfl) (Nat.le_of_ble_eq_true rfl) (fun r7 _ h7 => ?_)
        refine j_run 36 3 rfl ?_
        refine j_gr 39 7 rfl rfl hp0.1 rfl ?_
        refine j_run 40 2 rfl ?_
        refine j_cv 42 14 2 rfl rfl mwX6_cell hp0.2.2.2.2.2.1.1 rfl rfl (eX6_cell hA hp0.2.2.2.2.2.1 x4 2 _) rfl rfl (rok rfl rfl) (Nat.le_of_ble_eq_true rfl) (fun r8 _ h8 => ?_)
        refine j_run 43 6 rfl ?_
        refine jc_if_eq 49 rfl rfl (fun h9 => ?_) (fun h9 => ?_)
        · refine j_run 52 4 rfl ?_
          refine j_run 56 1 rfl ?_
          refine j_goto 57 rfl rfl ?_
          exact j_weak (leP_s (leP_s (leP_s (leP_s (leP_s (leP_n (leP_z))))))) (ih (bor x1 (bor (bshl 1 r7) (bshl 1 r8))) (bw (x4 + 1)))
        · refine j_run 50 1 rfl ?_
          exact j_iret 51 rfl rfl rfl
      · refine j_goto 29 rfl rfl ?_
        refine j_run 56 1 rfl ?_
        refine j_goto 57 rfl rfl ?_
        exact j_weak (leP_s (leP_s (leP_s (leP_s (leP_s (leP_n (leP_z))))))) (ih x1 (bw (x4 + 1)))
    · refine j_run 58 1 rfl ?_
      refine j_goto 59 rfl rfl ?_
      exact j_weak (leP_s (leP_s (leP_s (leP_s (leP_n (leP_n (leP_z))))))) (hk22 x1 (bw (x3 + 1)))
theorem JX9_firstVoid_L22 {X : Cx} {ads : List Nat} {sk : List Sk} (hA : ads.length = sk.length ∧ sk.length ≤ 1000) {c0 : Nat} (hp0 : ocW sk c0) (σ : Sg) (x2 : Int) : ∀ (n : Nat) (x1 : Int) (x3 : Int), jX9_firstVoid X ads sk σ (22, [some (.inr (some c0)), some (.inl x1), some (.inl x2), some (.inl x3), none, none], [], σ) (fX9_firstVoid_L22 c0 σ x2 n x1 x3) := by
  intro n
  induction n with
  | zero => intro x1 x3; exact j_none
  | succ n ih =>
    intro x1 x3
    rw [fX9_firstVoid_L22]
    refine j_run 12 2 rfl ?_
    refine jc_icmp_gt 14 rfl rfl (fun h3 => ?_) (fun h3 => ?_)
    · refine j_run 60 1 rfl ?_
      exact j_iret 61 rfl rfl rfl
    · refine j_run 15 2 rfl ?_
      exact j_weak (leP_s (leP_s (leP_s (leP_s (leP_s (leP_n (leP_z))))))) (JX9_firstVoid_L30 hA hp0 σ x2 x3 _ ih FU x1 0)
theorem eX9_firstVoid {X : Cx} {ads : List Nat} {sk : List Sk} (hA : ads.length = sk.length ∧ sk.length ≤ 1000) {c0 : Nat} (hp0 : ocW sk c0) (σ : Sg) : CF X mX9_firstVoid ads sk [.inr (some c0)] σ (wP σ) (fX9_firstVoid c0 σ) := by
  refine CF.of ⟨pX9_firstVoid_ok, tbX9_ok, hA.1, hA.2⟩ (plainFor_of_name plX9) (Nat.le_of_ble_eq_true rfl) ?_
  show jX9_firstVoid X ads sk σ (0, [some (.inr (some c0)), none, none, none, none, none], [], σ) (fX9_firstVoid c0 σ)
  unfold fX9_firstVoid
  refine j_run 0 1 rfl ?_
  refine j_gr 1 1 rfl rfl hp0.1 rfl ?_
  refine j_cv 2 30 0 rfl rfl mwX1_wedSet hp0.2.2.2.1.1 rfl rfl (eX1_wedSet hA hp0.2.2.2.1 _) rfl rfl (rok rfl rfl) (Nat.le_of_ble_eq_true rfl) (fun r1 _ h1 => ?_)
  refine j_run 3 2 rfl ?_
  refine j_gr 5 7 rfl rfl hp0.1 rfl ?_
  refine j_run 6 1 rfl ?_
  refine j_cv 7 31 1 rfl rfl mwX6_greatest hp0.2.2.2.2.2.1.1 rfl rfl (eX6_greatest hA hp0.2.2.2.2.2.1 0 _) rfl rfl (rok rfl rfl) (Nat.le_of_ble_eq_true rfl) (fun r2 _ h2 => ?_)
  refine j_run 8 2 rfl ?_
  refine j_gf 10 3 rfl rfl hp0.1 rfl ?_
  refine j_run 11 1 rfl ?_
  exact j_weak (leP_s (leP_s (leP_s (leP_s (leP_n (leP_n (leP_z))))))) (JX9_firstVoid_L22 hA hp0 σ r2 FU r1 (rd σ c0 6))
