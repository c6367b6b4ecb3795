/-! each method does what its function says -/
abbrev jX9_isBare (X : Cx) (ads : List Nat) (sk : List Sk) (σ : Sg) (ps : PS) (res : Option (Int)) : Prop := J X mX9_isBare pX9_isBare tbX9 (rmD 1 0 0) 0 0 E0 (fun a => FM X mX9_isBare ads sk ((wP σ) a)) ads sk ps res
theorem eX9_isBare {X : Cx} {ads : List Nat} {sk : List Sk} (hA : ads.length = sk.length ∧ sk.length ≤ 1000) {c0 : Nat} (hp0 : ocW sk c0) (x1 : Int) (σ : Sg) : CF X mX9_isBare ads sk [.inr (some c0), .inl x1] σ (wP σ) (fX9_isBare c0 x1 σ) := by
  refine CF.of ⟨pX9_isBare_ok, tbX9_ok, hA.1, hA.2⟩ (plainFor_of_name plX9) (Nat.le_of_ble_eq_true rfl) ?_
  show jX9_isBare X ads sk σ (0, [some (.inr (some c0)), some (.inl x1)], [], σ) (fX9_isBare c0 x1 σ)
  unfold fX9_isBare
  refine j_run 0 2 rfl ?_
  refine j_cvT 2 13 1 rfl rfl mwX9_hasField hp0.1 rfl rfl (eX9_hasField hA hp0 x1 _) rfl rfl (rok rfl rfl) (Nat.le_of_ble_eq_true rfl) (fun h1 => ?_)
  refine jc_if_eq 3 rfl rfl (fun h2 => ?_) (fun h2 => ?_)
  · refine j_run 11 1 rfl ?_
    exact j_zret 12 rfl rfl (by decide) rfl
  · refine j_run 4 1 rfl ?_
    refine j_gr 5 10 rfl rfl hp0.1 rfl ?_
    refine j_run 6 1 rfl ?_
    refine j_ald 7 rfl hp0.2.1 rfl ?_
    refine jc_if_ne 8 rfl rfl (fun h3 => ?_) (fun h3 => ?_)
    · refine j_run 9 1 rfl ?_
      refine j_goto 10 rfl rfl ?_
      exact j_zret 12 rfl rfl (by decide) rfl
    · refine j_run 11 1 rfl ?_
      exact j_zret 12 rfl rfl (by decide) rfl
abbrev jX9_unmetWant (X : Cx) (ads : List Nat) (sk : List Sk) (σ : Sg) (ps : PS) (res : Option (Int)) : Prop := J X mX9_unmetWant pX9_unmetWant tbX9 (rmD 2 0 0) 0 0 E0 (fun a => FM X mX9_unmetWant ads sk ((wP σ) a)) ads sk ps res
theorem JX9_unmetWant_L2 {X : Cx} {ads : List Nat} {sk : List Sk} (hA : ads.length = sk.length ∧ sk.length ≤ 1000) {c0 : Nat} (hp0 : ocW sk c0) (σ : Sg) (x1 : Int) : ∀ (n : Nat) (x2 : Int), jX9_unmetWant X ads sk σ (2, [some (.inr (some c0)), some (.inl x1), some (.inl x2)], [], σ) (fX9_unmetWant_L2 c0 σ x1 n x2) := by
  intro n
  induction n with
  | zero => intro x2; exact j_none
  | succ n ih =>
    intro x2
    rw [fX9_unmetWant_L2]
    refine j_run 2 2 rfl ?_
    refine j_gr 4 9 rfl rfl hp0.1 rfl ?_
    refine j_gf 5 16 rfl rfl hp0.2.2.2.2.2.2.2.1.1 rfl ?_
    refine jc_icmp_ge 6 rfl rfl (fun h1 => ?_) (fun h1 => ?_)
    · refine j_run 7 1 rfl ?_
      refine j_gr 8 9 rfl rfl hp0.1 rfl ?_
      refine j_run 9 2 rfl ?_
      refine j_cv 11 14 2 rfl rfl mwX6_cell hp0.2.2.2.2.2.2.2.1.1 rfl rfl (eX6_cell hA hp0.2.2.2.2.2.2.2.1 x2 1 _) rfl rfl (rok rfl rfl) (Nat.le_of_ble_eq_true rfl) (fun r2 _ h2 => ?_)
      refine j_run 12 1 rfl ?_
      refine jc_icmp_ne 13 rfl rfl (fun h3 => ?_) (fun h3 => ?_)
      · refine j_run 14 2 rfl ?_
        refine j_gr 16 9 rfl rfl hp0.1 rfl ?_
        refine j_run 17 2 rfl ?_
        refine j_cv 19 14 2 rfl rfl mwX6_cell hp0.2.2.2.2.2.2.2.1.1 rfl rfl (eX6_cell hA hp0.2.2.2.2.2.2.2.1 x2 0 _) rfl rfl (rok rfl rfl) (Nat.le_of_ble_eq_true rfl) (fun r4 _ h4 => ?_)
        refine j_cv 20 32 1 rfl rfl mwX9_isBare hp0.1 rfl rfl (eX9_isBare hA hp0 r4 _) rfl rfl (rok rfl rfl) (Nat.le_of_ble_eq_true rfl) (fun r5 _ h5 => ?_)
        refine jc_if_ne 21 rfl rfl (fun h6 => ?_) (fun h6 => ?_)
        · refine j_run 22 1 rfl ?_
          exact j_iret 23 rfl rfl rfl
        · refine j_run 24 1 rfl ?_
          refine j_goto 25 rfl rfl ?_
          exact j_weak (leP_s (leP_s (leP_s (leP_z)))) (ih (bw (x2 + 1)))
      · refine j_run 24 1 rfl ?_
        refine j_goto 25 rfl rfl ?_
        exact j_weak (leP_s (leP_s (leP_s (leP_z)))) (ih (bw (x2 + 1)))
    · refine j_run 26 1 rfl ?_
      exact j_iret 27 rfl rfl rfl
theorem eX9_unmetWant {X : Cx} {ads : List Nat} {sk : List Sk} (hA : ads.length = sk.length ∧ sk.length ≤ 1000) {c0 : Nat} (hp0 : ocW sk c0) (x1 : Int) (σ : Sg) : CF X mX9_unmetWant ads sk [.inr (some c0), .inl x1] σ (wP σ) (fX9_unmetWant c0 x1 σ) := by
  refine CF.of ⟨pX9_unmetWant_ok, tbX9_ok, hA.1, hA.2⟩ (plainFor_of_name plX9) (Nat.le_of_ble_eq_true rfl) ?_
  show jX9_unmetWant X ads sk σ (0, [some (.inr (some c0)), some (.inl x1), none], [], σ) (fX9_unmetWant c0 x1 σ)
  unfold fX9_unmetWant
  refine j_run 0 2 rfl ?_
  exact j_weak (leP_s (leP_s (leP_s (leP_z)))) (JX9_unmetWant_L2 hA hp0 σ x1 FU 0)
abbrev jX9_worthMet (X : Cx) (ads : List Nat) (sk : List Sk) (σ : Sg) (ps : PS) (res : Option (Int)) : Prop := J X mX9_worthMet pX9_worthMet tbX9 (rmD 2 0 0) 0 0 E0 (fun a => FM X mX9_worthMet ads sk ((wP σ) a)) ads sk ps res
theorem JX9_worthMet_L4 {X : Cx} {ads : List Nat} {sk : List Sk} (hA : ads.length = sk.length ∧ sk.length ≤ 1000) {c0 : Nat} (hp0 : ocW sk c0) (σ : Sg) (x1 : Int) : ∀ (n : Nat) (x2 : Int) (x3 : Int), jX9_worthMet X ads sk σ (4, [some (.inr (some c0)), some (.inl x1), some (.inl x2), some (.inl x3)], [], σ) (fX9_worthMet_L4 c0 σ x1 n x2 x3) := by
  intro n
  induction n with
  | zero => intro x2 x3; exact j_none
  | succ n ih =>
    intro x2 x3
    rw [fX9_worthMet_L4]
    refine j_run 4 2 rfl ?_
    refine j_gr 6 9 rfl rfl hp0.1 rfl ?_
    refine j_gf 7 16 rfl rfl hp0.2.2.2.2.2.2.2.1.1 rfl ?_
    refine jc_icmp_ge 8 rfl rfl (fun h1 => ?_) (fun h1 => ?_)
    · refine j_run 9 1 rfl ?_
      refine j_gr 10 9 rfl rfl hp0.1 rfl ?_
      refine j_run 11 2 rfl ?_
      refine j_cv 13 14 2 rfl rfl mwX6_cell hp0.2.2.2.2.2.2.2.1.1 rfl rfl (eX6_cell hA hp0.2.2.2.2.2.2.2.1 x3 1 _) rfl rfl (rok rfl rfl) (Nat.le_of_ble_eq_true rfl) (fun r2 _ h2 => ?_)
      refine j_run 14 1 rfl ?_
      refine jc_icmp_ne 15 rfl rfl (fun h3 => ?_) (fun h3 => ?_)
      · refine j_run 16 2 rfl ?_
        refine j_gr 18 9 rfl rfl hp0.1 rfl ?_
        refine j_run 19 2 rfl ?_
        refine j_cv 21 14 2 rfl rfl mwX6_cell hp0.2.2.2.2.2.2.2.1.1 rfl rfl (eX6_cell hA hp0.2.2.2.2.2.2.2.1 x3 0 _) rfl rfl (rok rfl rfl) (Nat.le_of_ble_eq_true rfl) (fun r4 _ h4 => ?_)
        refine j_cv 22 32 1 rfl rfl mwX9_isBare hp0.1 rfl rfl (eX9_isBare hA hp0 r4 _) rfl rfl (rok rfl rfl) (Nat.le_of_ble_eq_true rfl) (fun r5 _ h5 => ?_)
        refine jc_if_eq 23 rfl rfl (fun h6 => ?_) (fun h6 => ?_)
        · refine j_run 32 1 rfl ?_
          refine j_goto 33 rfl rfl ?_
          exact j_weak (leP_s (leP_s (leP_s (leP_s (leP_z))))) (ih x2 (bw (x3 + 1)))
        · refine j_run 24 2 rfl ?_
          refine j_gr 26 9 rfl rfl hp0.1 rfl ?_
          refine j_run 27 2 rfl ?_
          refine j_cv 29 14 2 rfl rfl mwX6_cell hp0.2.2.2.2.2.2.2.1.1 rfl rfl (eX6_cell hA hp0.2.2.2.2.2.2.2.1 x3 2 _) rfl rfl (rok rfl rfl) (Nat.le_of_ble_eq_true rfl) (fun r7 _ h7 => ?_)
          refine j_run 30 2 rfl ?_
          refine j_run 32 1 rfl ?_
          refine j_goto 33 rfl rfl ?_
          exact j_weak (leP_s (leP_s (leP_s (leP_s (leP_z))))) (ih (bw (x2 + r7)) (bw (x3 + 1)))
      · refine j_run 32 1 rfl ?_
        refine j_goto 33 rfl rfl ?_
        exact j_weak (leP_s (leP_s (leP_s (leP_s (leP_z))))) (ih x2 (bw (x3 + 1)))
    · refine j_run 34 1 rfl ?_
      exact j_iret 35 rfl rfl rfl
theorem eX9_worthMet {X : Cx} {ads : List Nat} {sk : List Sk} (hA : ads.length = sk.length ∧ sk.length ≤ 1000) {c0 : Nat} (hp0 : ocW sk c0) (x1 : Int) (σ : Sg) : CF X mX9_worthMet ads sk [.inr (some c0), .inl x1] σ (wP σ) (fX9_worthMet c0 x1 σ) := by
  refine CF.of ⟨pX9_worthMet_ok, tbX9_ok, hA.1, hA.2⟩ (plainFor_of_name plX9) (Nat.le_of_ble_eq_true rfl) ?_
  show jX9_worthMet X ads sk σ (0, [some (.inr (some c0)), some (.inl x1), none, none], [], σ) (fX9_worthMet c0 x1 σ)
  unfold fX9_worthMet
  refine j_run 0 4 rfl ?_
  exact j_weak (leP_s (leP_s (leP_s (leP_s (leP_z))))) (JX9_worthMet_L4 hA hp0 σ x1 FU 0 0)
abbrev jX9_worthBare (X : Cx) (ads : List Nat) (sk : List Sk) (σ : Sg) (ps : PS) (res : Option (Int)) : Prop := J X mX9_worthBare pX9_worthBare tbX9 (rmD 2 0 0) 0 0 E0 (fun a => FM X mX9_worthBare ads sk ((wP σ) a)) ads sk ps res
theorem JX9_worthBare_L4 {X : Cx} {ads : List Nat} {sk : List Sk} (hA : ads.length = sk.length ∧ sk.length ≤ 1000) {c0 : Nat} (hp0 : ocW sk c0) (σ : Sg) : ∀ (n : Nat) (x1 : Int) (x2 : Int), jX9_worthBare X ads sk σ (4, [some (.inr (some c0)), some (.inl x1), some (.inl x2)], [], σ) (fX9_worthBare_L4 c0 σ n x1 x2) := by
  intro n
  induction n with
  | zero => intro x1 x2; exact j_none
  | succ n ih =>
    intro x1 x2
    rw [fX9_worthBare_L4]
    refine j_run 4 2 rfl ?_
    refine j_gr 6 9 rfl rfl hp0.1 rfl ?_
    refine j_gf 7 16 rfl rfl hp0.2.2.2.2.2.2.2.1.1 rfl ?_
    refine jc_icmp_ge 8 rfl rfl (fun h1 => ?_) (fun h1 => ?_)
    · refine j_run 9 2 rfl ?_
      refine j_gr 11 9 rfl rfl hp0.1 rfl ?_
      refine j_run 12 2 rfl ?_
      refine j_cv 14 14 2 rfl rfl mwX6_cell hp0.2.2.2.2.2.2.2.1.1 rfl rfl (eX6_cell hA hp0.2.2.2.2.2.2.2.1 x2 0 _) rfl rfl (rok rfl rfl) (Nat.le_of_ble_eq_true rfl) (fun r2 _ h2 => ?_)
      refine j_cv 15 32 1 rfl rfl mwX9_isBare hp0.1 rfl rfl (eX9_isBare hA hp0 r2 _) rfl rfl (rok rfl rfl) (Nat.le_of_ble_eq_true rfl) (fun r3 _ h3 => ?_)
      refine jc_if_eq 16 rfl rfl (fun h4 => ?_) (fun h4 => ?_)
      · refine j_run 25 1 rfl ?_
        refine j_goto 26 rfl rfl ?_
        exact j_weak (leP_s (leP_s (leP_s (leP_z)))) (ih x1 (bw (x2 + 1)))
      · refine j_run 17 2 rfl ?_
        refine j_gr 19 9 rfl rfl hp0.1 rfl ?_
        refine j_run 20 2 rfl ?_
        refine j_cv 22 14 2 rfl rfl mwX6_cell hp0.2.2.2.2.2.2.2.1.1 rfl rfl (eX6_cell hA hp0.2.2.2.2.2.2.2.1 x2 2 _) rfl rfl (rok rfl rfl) (Nat.le_of_ble_eq_true rfl) (fun r5 _ h5 => ?_)
        refine j_run 23 2 rfl ?_
        refine j_run 25 1 rfl ?_
        refine j_goto 26 rfl rfl ?_
        exact j_weak (leP_s (leP_s (leP_s (leP_z)))) (ih (bw (x1 + r5)) (bw (x2 + 1)))
    · refine j_run 27 1 rfl ?_
      exact j_iret 28 rfl rfl rfl
theorem eX9_worthBare {X : Cx} {ads : List Nat} {sk : List Sk} (hA : ads.length = sk.length ∧ sk.length ≤ 1000) {c0 : Nat} (hp0 : ocW sk c0) (σ : Sg) : CF X mX9_worthBare ads sk [.inr (some c0)] σ (wP σ) (fX9_worthBare c0 σ) := by
  refine CF.of ⟨pX9_worthBare_ok, tbX9_ok, hA.1, hA.2⟩ (plainFor_of_name plX9) (Nat.le_of_ble_eq_true rfl) ?_
  show jX9_worthBare X ads sk σ (0, [some (.inr (some c0)), none, none], [], σ) (fX9_worthBare c0 σ)
  unfold fX9_worthBare
  refine j_run 0 4 rfl ?_
  exact j_weak (leP_s (leP_s (leP_s (leP_z)))) (JX9_worthBare_L4 hA hp0 σ FU 0 0)
abbrev jX9_allStirsFit (X : Cx) (ads : List Nat) (sk : List Sk) (σ : Sg) (ps : PS) (res : Option (Int)) : Prop := J X mX9_allStirsFit pX9_allStirsFit tbX9 (rmD 1 0 0) 0 0 E0 (fun a => FM X mX9_allStirsFit ads sk ((wP σ) a)) ads sk ps res
theorem JX9_allStirsFit_L2 {X : Cx} {ads : List Nat} {sk : List Sk} (hA : ads.length = sk.length ∧ sk.length ≤ 1000) {c0 : Nat} (hp0 : ocW sk c0) (σ : Sg) (x1 : Int) (x2 : Int) : ∀ (n : Nat) (x3 : Int), jX9_allStirsFit X ads sk σ (2, [some (.inr (some c0)), some (.inl x1), some (.inl x2), some (.inl x3), none], [], σ) (fX9_allStirsFit_L2 c0 σ x1 x2 n x3) := by
  intro n
  induction n with
  | zero => intro x3; exact j_none
  | succ n ih =>
    intro x3
    rw [fX9_allStirsFit_L2]
    refine j_run 2 2 rfl ?_
    refine j_gr 4 17 rfl rfl hp0.1 rfl ?_
    refine j_gf 5 16 rfl rfl hp0.2.2.2.2.2.2.2.2.1.1 rfl ?_
    refine jc_icmp_ge 6 rfl rfl (fun h1 => ?_) (fun h1 => ?_)
    · refine j_run 7 1 rfl ?_
      refine j_gr 8 17 rfl rfl hp0.1 rfl ?_
      refine j_run 9 2 rfl ?_
      refine j_cv 11 14 2 rfl rfl mwX6_cell hp0.2.2.2.2.2.2.2.2.1.1 rfl rfl (eX6_cell hA hp0.2.2.2.2.2.2.2.2.1 x3 0 _) rfl rfl (rok rfl rfl) (Nat.le_of_ble_eq_true rfl) (fun r2 _ h2 => ?_)
      refine j_run 12 1 rfl ?_
      refine jc_icmp_eq 13 rfl rfl (fun h3 => ?_) (fun h3 => ?_)
      · refine j_run 15 1 rfl ?_
        refine j_gr 16 17 rfl rfl hp0.1 rfl ?_
        refine j_run 17 2 rfl ?_
        refine j_cv 19 14 2 rfl rfl mwX6_cell hp0.2.2.2.2.2.2.2.2.1.1 rfl rfl (eX6_cell hA hp0.2.2.2.2.2.2.2.2.1 x3 1 _) rfl rfl (rok rfl rfl) (Nat.le_of_ble_eq_true rfl) (fun r4 _ h4 => ?_)
        refine j_run 20 2 rfl ?_
        refine j_gr 22 17 rfl rfl hp0.1 rfl ?_
        refine j_run 23 2 rfl ?_
        refine j_cv 25 14 2 rfl rfl mwX6_cell hp0.2.2.2.2.2.2.2.2.1.1 rfl rfl (eX6_cell hA hp0.2.2.2.2.2.2.2.2.1 x3 2 _) rfl rfl (rok rfl rfl) (Nat.le_of_ble_eq_true rfl) (fun r5 _ h5 => ?_)
        refine j_run 26 1 rfl ?_
        refine jc_icmp_ne 27 rfl rfl (fun h6 => ?_) (fun h6 => ?_)
        · refine j_run 28 2 rfl ?_
          refine jc_icmp_ge 30 rfl rfl (fun h7 => ?_) (fun h7 => ?_)
          · refine j_goto 31 rfl rfl ?_
            refine j_run 35 1 rfl ?_
            exact j_zret 36 rfl rfl (by decide) rfl
          · refine j_run 37 1 rfl ?_
            refine j_goto 38 rfl rfl ?_
            exact j_weak (leP_s (leP_s (leP_s (leP_s (leP_n (leP_z)))))) (ih (bw (x3 + 1)))
        · refine j_run 32 2 rfl ?_
          refine jc_icmp_eq 34 rfl rfl (fun h8 => ?_) (fun h8 => ?_)
          · refine j_run 37 1 rfl ?_
            refine j_goto 38 rfl rfl ?_
            exact j_weak (leP_s (leP_s (leP_s (leP_s (leP_n (leP_z)))))) (ih (bw (x3 + 1)))
          · refine j_run 35 1 rfl ?_
            exact j_zret 36 rfl rfl (by decide) rfl
      · refine j_goto 14 rfl rfl ?_
        refine j_run 37 1 rfl ?_
        refine j_goto 38 rfl rfl ?_
        exact j_weak (leP_s (leP_s (leP_s (leP_s (leP_n (leP_z)))))) (ih (bw (x3 + 1)))
    · refine j_run 39 1 rfl ?_
      exact j_zret 40 rfl rfl (by decide) rfl
theorem eX9_allStirsFit {X : Cx} {ads : List Nat} {sk : List Sk} (hA : ads.length = sk.length ∧ sk.length ≤ 1000) {c0 : Nat} (hp0 : ocW sk c0) (x1 : Int) (x2 : Int) (σ : Sg) : CF X mX9_allStirsFit ads sk [.inr (some c0), .inl x1, .inl x2] σ (wP σ) (fX9_allStirsFit c0 x1 x2 σ) := by
  refine CF.of ⟨pX9_allStirsFit_ok, tbX9_ok, hA.1, hA.2⟩ (plainFor_of_name plX9) (Nat.le_of_ble_eq_true rfl) ?_
  show jX9_allStirsFit X ads sk σ (0, [some (.inr (some c0)), some (.inl x1), some (.inl x2), none, none], [], σ) (fX9_allStirsFit c0 x1 x2 σ)
  unfold fX9_allStirsFit
  refine j_run 0 2 rfl ?_
  exact j_weak (leP_s (leP_s (leP_s (leP_s (leP_n (leP_z)))))) (JX9_allStirsFit_L2 hA hp0 σ x1 x2 FU 0)
abbrev jX9_whoCanBe (X : Cx) (ads : List Nat) (sk : List Sk) (ps : PS) (res : Option (Int × Sg)) : Prop := J X mX9_whoCanBe pX9_whoCanBe tbX9 (rmD 5 0 0) 0 0 E0 (fun a => FM X mX9_whoCanBe ads sk (wE a)) ads sk ps res
theorem JX9_whoCanBe_L4 {X : Cx} {ads : List Nat} {sk : List Sk} (hA : ads.length = sk.length ∧ sk.length ≤ 1000) {c0 : Nat} (hp0 : ocW sk c0) (x1 : Int) : ∀ (n : Nat) (x2 : Int) (x3 : Int) (σ : Sg), jX9_whoCanBe X ads sk (4, [some (.inr (some c0)), some (.inl x1), some (.inl x2), some (.inl x3)], [], σ) (fX9_whoCanBe_L4 c0 x1 n x2 x3 σ) := by
  intro n
  induction n with
  | zero => intro x2 x3 σ; exact j_none
  | succ n ih =>
    intro x2 x3 σ
    rw [fX9_whoCanBe_L4]
    refine j_run 4 2 rfl ?_
    refine j_gr 6 1 rfl rfl hp0.1 rfl ?_
    refine j_gf 7 15 rfl rfl hp0.2.2.2.1.1 rfl ?_
    refine jc_icmp_ge 8 rfl rfl (fun h1 => ?_) (fun h1 => ?_)
    · refine j_run 9 1 rfl ?_
      refine j_gr 10 1 rfl rfl hp0.1 rfl ?_
      refine j_gr 11 23 rfl rfl hp0.2.2.2.1.1 rfl ?_
      refine j_run 12 1 rfl ?_
      refine j_ald 13 rfl hp0.2.2.2.1.2.1 rfl ?_
      refine j_run 14 1 rfl ?_
      refine j_gr 15 1 rfl rfl hp0.1 rfl ?_
      refine j_gr 16 23 rfl rfl hp0.2.2.2.1.1 rfl ?_
      refine j_run 17 1 rfl ?_
      refine j_ald 18 rfl hp0.2.2.2.1.2.1 rfl ?_
      refine jc_icmp_eq 19 rfl rfl (fun h2 => ?_) (fun h2 => ?_)
      · refine j_run 34 1 rfl ?_
        refine j_goto 35 rfl rfl ?_
        exact j_weak (leP_s (leP_s (leP_s (leP_s (leP_z))))) (ih x2 (bw (x3 + 1)) _)
      · refine j_run 20 5 rfl ?_
        refine j_cv 25 17 2 rfl rfl mwX9_foundOf hp0.1 rfl rfl (eX9_foundOf hA hp0 x1 x3 _) rfl rfl (rok rfl rfl) (Nat.le_of_ble_eq_true rfl) (fun q3 _ h3 => ?_)
        refine j_cv 26 33 2 rfl rfl mwX9_allStirsFit hp0.1 rfl rfl (eX9_allStirsFit hA hp0 x1 q3.1 _) rfl rfl (rok rfl rfl) (Nat.le_of_ble_eq_true rfl) (fun r4 _ h4 => ?_)
        refine jc_if_eq 27 rfl rfl (fun h5 => ?_) (fun h5 => ?_)
        · refine j_run 34 1 rfl ?_
          refine j_goto 35 rfl rfl ?_
          exact j_weak (leP_s (leP_s (leP_s (leP_s (leP_z))))) (ih x2 (bw (x3 + 1)) _)
        · refine j_run 28 6 rfl ?_
          refine j_run 34 1 rfl ?_
          refine j_goto 35 rfl rfl ?_
          exact j_weak (leP_s (leP_s (leP_s (leP_s (leP_z))))) (ih (bor x2 (bshl 1 x3)) (bw (x3 + 1)) _)
    · refine j_run 36 1 rfl ?_
      exact j_iret 37 rfl rfl rfl
theorem eX9_whoCanBe {X : Cx} {ads : List Nat} {sk : List Sk} (hA : ads.length = sk.length ∧ sk.length ≤ 1000) {c0 : Nat} (hp0 : ocW sk c0) (x1 : Int) (σ : Sg) : CF X mX9_whoCanBe ads sk [.inr (some c0), .inl x1] σ wE (fX9_whoCanBe c0 x1 σ) := by
  refine CF.of ⟨pX9_whoCanBe_ok, tbX9_ok, hA.1, hA.2⟩ (plainFor_of_name plX9) (Nat.le_of_ble_eq_true rfl) ?_
  show jX9_whoCanBe X ads sk (0, [some (.inr (some c0)), some (.inl x1), none, none], [], σ) (fX9_whoCanBe c0 x1 σ)
  unfold fX9_whoCanBe
  refine j_run 0 4 rfl ?_
  exact j_weak (leP_s (leP_s (leP_s (leP_s (leP_z))))) (JX9_whoCanBe_L4 hA hp0 x1 FU 0 0 _)
abbrev jX10_state (X : Cx) (ads : List Nat) (sk : List Sk) (ps : PS) (res : Option (Int × Sg)) : Prop := J X mX10_state pX10_state tbX10 (rmD 0 0 0) 0 0 E0 (fun a => FM X mX10_state ads sk (wE a)) ads sk ps res
theorem eX10_state {X : Cx} {ads : List Nat} {sk : List Sk} (hA : ads.length = sk.length ∧ sk.length ≤ 1000) {kp : Option Nat} (hp0 : ocS sk kp) (x1 : Int) (σ : Sg) : CF X mX10_state ads sk [.inr (some 0), .inl x1] σ wE (fX10_state x1 σ) := by
  refine CF.of ⟨pX10_state_ok, tbX10_ok, hA.1, hA.2⟩ (plainFor_of_name plX10) (Nat.le_of_ble_eq_true rfl) ?_
  show jX10_state X ads sk (0, [some (.inr (some 0)), some (.inl x1), none], [], σ) (fX10_state x1 σ)
  unfold fX10_state
  refine j_run 0 1 rfl ?_
  refine j_gr 1 0 rfl rfl hp0.1 rfl ?_
  refine j_gf 2 1 rfl rfl hp0.2.1.1 rfl ?_
  refine j_run 3 2 rfl ?_
  refine j_gr 5 0 rfl rfl hp0.1 rfl ?_
  refine j_run 6 1 rfl ?_
  refine j_pf 7 1 rfl rfl hp0.2.1.1 rfl rfl (Or.inl rfl) ?_
  refine j_run 8 1 rfl ?_
  refine j_gr 9 2 rfl rfl hp0.1 rfl ?_
  refine j_run 10 1 rfl ?_
  refine j_pf 11 3 rfl rfl hp0.2.2.2.1.1 rfl rfl (Or.inl rfl) ?_
  refine j_run 12 1 rfl ?_
  exact j_iret 13 rfl rfl rfl
abbrev jX10_valley (X : Cx) (ads : List Nat) (sk : List Sk) (ps : PS) (res : Option (Int × Sg)) : Prop := J X mX10_valley pX10_valley tbX10 (rmD 2 0 0) 0 0 E0 (fun a => FM X mX10_valley ads sk (wE a)) ads sk ps res
theorem eX10_valley {X : Cx} {ads : List Nat} {sk : List Sk} (hA : ads.length = sk.length ∧ sk.length ≤ 1000) {kp : Option Nat} (hp0 : ocS sk kp) (x1 : Int) (x2 : Int) (σ : Sg) : CF X mX10_valley ads sk [.inr (some 0), .inl x1, .inl x2] σ wE (fX10_valley x1 x2 σ) := by
  refine CF.of ⟨pX10_valley_ok, tbX10_ok, hA.1, hA.2⟩ (plainFor_of_name plX10) (Nat.le_of_ble_eq_true rfl) ?_
  show jX10_valley X ads sk (0, [some (.inr (some 0)), some (.inl x1), some (.inl x2)], [], σ) (fX10_valley x1 x2 σ)
  unfold fX10_valley
  refine j_run 0 2 rfl ?_
  refine jc_icmp_lt 2 rfl rfl (fun h1 => ?_) (fun h1 => ?_)
  · refine j_run 12 1 rfl ?_
    exact j_zret 13 rfl rfl (by decide) rfl
  · refine j_run 3 2 rfl ?_
    refine jc_icmp_gt 5 rfl rfl (fun h2 => ?_) (fun h2 => ?_)
    · refine j_run 12 1 rfl ?_
      exact j_zret 13 rfl rfl (by decide) rfl
    · refine j_run 6 2 rfl ?_
      refine jc_icmp_lt 8 rfl rfl (fun h3 => ?_) (fun h3 => ?_)
      · refine j_run 12 1 rfl ?_
        exact j_zret 13 rfl rfl (by decide) rfl
      · refine j_run 9 2 rfl ?_
        refine jc_icmp_le 11 rfl rfl (fun h4 => ?_) (fun h4 => ?_)
        · refine j_run 12 1 rfl ?_
          exact j_zret 13 rfl rfl (by decide) rfl
        · refine j_run 14 1 rfl ?_
          refine j_gr 15 0 rfl rfl hp0.1 rfl ?_
          refine j_run 16 2 rfl ?_
          refine j_cvN 18 0 2 rfl rfl mwX9_begin hp0.2.1.1 rfl rfl (eX9_begin hA hp0.2.1 x1 x2 _) rfl rfl (rok rfl rfl) (Nat.le_of_ble_eq_true rfl) (fun s5 _ h5 => ?_)
          refine j_run 19 1 rfl ?_
          refine j_gr 20 2 rfl rfl hp0.1 rfl ?_
          refine j_run 21 1 rfl ?_
          refine j_pf 22 3 rfl rfl hp0.2.2.2.1.1 rfl rfl (Or.inl rfl) ?_
          refine j_run 23 1 rfl ?_
          exact j_zret 24 rfl rfl (by decide) rfl
abbrev jX10_within (X : Cx) (ads : List Nat) (sk : List Sk) (σ : Sg) (ps : PS) (res : Option (Int)) : Prop := J X mX10_within pX10_within tbX10 (rmD 0 0 0) 0 0 E0 (fun a => FM X mX10_within ads sk ((wP σ) a)) ads sk ps res
theorem eX10_within {X : Cx} {ads : List Nat} {sk : List Sk} (hA : ads.length = sk.length ∧ sk.length ≤ 1000) (x0 : Int) (x1 : Int) (σ : Sg) : CF X mX10_within ads sk [.inl x0, .inl x1] σ (wP σ) (some (fX10_within x0 x1)) := by
  refine CF.of ⟨pX10_within_ok, tbX10_ok, hA.1, hA.2⟩ (plainFor_of_name plX10) (Nat.le_of_ble_eq_true rfl) ?_
  show jX10_within X ads sk σ (0, [some (.inl x0), some (.inl x1)], [], σ) (some (fX10_within x0 x1))
  unfold fX10_within
  refine j_run 0 1 rfl ?_
  refine jt_if_lt 1 rfl rfl (fun h1 => ?_) (fun h1 => ?_)
  · refine j_run 7 1 rfl ?_
    exact j_zret 8 rfl rfl (by decide) rfl
  · refine j_run 2 2 rfl ?_
    refine jt_icmp_gt 4 rfl rfl (fun h2 => ?_) (fun h2 => ?_)
    · refine j_run 7 1 rfl ?_
      exact j_zret 8 rfl rfl (by decide) rfl
    · refine j_run 5 1 rfl ?_
      refine j_goto 6 rfl rfl ?_
      exact j_zret 8 rfl rfl (by decide) rfl
abbrev jX10_person (X : Cx) (ads : List Nat) (sk : List Sk) (ps : PS) (res : Option (Int × Sg)) : Prop := J X mX10_person pX10_person tbX10 (rmD 1 0 0) 0 0 E0 (fun a => FM X mX10_person ads sk (wE a)) ads sk ps res
theorem eX10_person {X : Cx} {ads : List Nat} {sk : List Sk} (hA : ads.length = sk.length ∧ sk.length ≤ 1000) {kp : Option Nat} (hp0 : ocS sk kp) (x1 : Int) (x2 : Int) (x3 : Int) (x4 : Int) (σ : Sg) : CF X mX10_person ads sk [.inr (some 0), .inl x1, .inl x2, .inl x3, .inl x4] σ wE (fX10_person x1 x2 x3 x4 σ) := by
  refine CF.of ⟨pX10_person_ok, tbX10_ok, hA.1, hA.2⟩ (plainFor_of_name plX10) (Nat.le_of_ble_eq_true rfl) ?_
  show jX10_person X ads sk (0, [some (.inr (some 0)), some (.inl x1), some (.inl x2), some (.inl x3), some (.inl x4), none], [], σ) (fX10_person x1 x2 x3 x4 σ)
  unfold fX10_person
  refine j_run 0 2 rfl ?_
  refine j_csT 2 3 2 rfl rfl mwX10_within (eX10_within hA x1 1 _) rfl rfl (rok rfl rfl) (Nat.le_of_ble_eq_true rfl) (fun h1 => ?_)
  refine jc_if_eq 3 rfl rfl (fun h2 => ?_) (fun h2 => ?_)
  · refine j_run 17 1 rfl ?_
    exact j_iret 18 rfl rfl rfl
  · refine j_run 4 2 rfl ?_
    refine j_csT 6 3 2 rfl rfl mwX10_within (eX10_within hA x2 9 _) rfl rfl (rok rfl rfl) (Nat.le_of_ble_eq_true rfl) (fun h3 => ?_)
    refine jc_if_eq 7 rfl rfl (fun h4 => ?_) (fun h4 => ?_)
    · refine j_run 17 1 rfl ?_
      exact j_iret 18 rfl rfl rfl
    · refine j_run 8 2 rfl ?_
      refine j_csT 10 3 2 rfl rfl mwX10_within (eX10_within hA x3 9 _) rfl rfl (rok rfl rfl) (Nat.le_of_ble_eq_true rfl) (fun h5 => ?_)
      refine jc_if_eq 11 rfl rfl (fun h6 => ?_) (fun h6 => ?_)
      · refine j_run 17 1 rfl ?_
        exact j_iret 18 rfl rfl rfl
      · refine j_run 12 1 rfl ?_
        refine j_gr 13 0 rfl rfl hp0.1 rfl ?_
        refine j_run 14 1 rfl ?_
        refine j_cvT 15 4 1 rfl rfl mwX9_hasField hp0.2.1.1 rfl rfl (eX9_hasField hA hp0.2.1 x4 _) rfl rfl (rok rfl rfl) (Nat.le_of_ble_eq_true rfl) (fun h7 => ?_)
        refine jc_if_ne 16 rfl rfl (fun h8 => ?_) (fun h8 => ?_)
        · refine j_run 17 1 rfl ?_
          exact j_iret 18 rfl rfl rfl
        · refine j_run 19 1 rfl ?_
          refine j_gr 20 0 rfl rfl hp0.1 rfl ?_
          refine j_gr 21 4 rfl rfl hp0.2.1.1 rfl ?_
          refine j_run 22 4 rfl ?_
          refine j_cv 26 5 4 rfl rfl mwX1_add hp0.2.1.2.2.2.1.1 rfl rfl (eX1_add hA hp0.2.1.2.2.2.1 x1 x2 x3 x4 _) rfl rfl (rok rfl rfl) (Nat.le_of_ble_eq_true rfl) (fun q9 _ h9 => ?_)
          refine j_run 27 3 rfl ?_
          refine jc_icmp_eq 30 rfl rfl (fun h10 => ?_) (fun h10 => ?_)
          · refine j_run 35 1 rfl ?_
            exact j_iret 36 rfl rfl rfl
          · refine j_run 31 1 rfl ?_
            refine j_gr 32 2 rfl rfl hp0.1 rfl ?_
            refine j_run 33 1 rfl ?_
            refine j_pf 34 3 rfl rfl hp0.2.2.2.1.1 rfl rfl (Or.inl rfl) ?_
            refine j_run 35 1 rfl ?_
            exact j_iret 36 rfl rfl rfl
abbrev jX10_setValley (X : Cx) (ads : List Nat) (sk : List Sk) (ps : PS) (res : Option (Int × Sg)) : Prop := J X mX10_setValley pX10_setValley tbX10 (rmD 1 0 0) 0 0 E0 (fun a => FM X mX10_setValley ads sk (wE a)) ads sk ps res
theorem JX10_setValley_J48 {X : Cx} {ads : List Nat} {sk : List Sk} (hA : ads.length = sk.length ∧ sk.length ≤ 1000) {kp : Option Nat} (hp0 : ocS sk kp) (x1 : Int) (x2 : Int) (σ : Sg) : jX10_setValley X ads sk (48, [some (.inr (some 0)), some (.inl x1), some (.inl x2)], [], σ) (fX10_setValley_J48 x1 x2 σ) := by
  unfold fX10_setValley_J48
  refine j_run 27 2 rfl ?_
  refine jc_icmp_ne 29 rfl rfl (fun h1 => ?_) (fun h1 => ?_)
  · refine j_run 30 2 rfl ?_
    refine j_csT 32 3 2 rfl rfl mwX10_within (eX10_within hA x2 1000 _) rfl rfl (rok rfl rfl) (Nat.le_of_ble_eq_true rfl) (fun h2 => ?_)
    refine jc_if_eq 33 rfl rfl (fun h3 => ?_) (fun h3 => ?_)
    · refine j_run 40 1 rfl ?_
      exact j_zret 41 rfl rfl (by decide) rfl
    · refine j_run 34 1 rfl ?_
      refine j_gr 35 0 rfl rfl hp0.1 rfl ?_
      refine j_run 36 1 rfl ?_
      refine j_pf 37 5 rfl rfl hp0.2.1.1 rfl rfl (Or.inl rfl) ?_
      refine j_run 38 1 rfl ?_
      exact j_zret 39 rfl rfl (by decide) rfl
  · refine j_run 40 1 rfl ?_
    exact j_zret 41 rfl rfl (by decide) rfl
theorem JX10_setValley_J22 {X : Cx} {ads : List Nat} {sk : List Sk} (hA : ads.length = sk.length ∧ sk.length ≤ 1000) {kp : Option Nat} (hp0 : ocS sk kp) (x1 : Int) (x2 : Int) (σ : Sg) : jX10_setValley X ads sk (22, [some (.inr (some 0)), some (.inl x1), some (.inl x2)], [], σ) (fX10_setValley_J22 x1 x2 σ) := by
  unfold fX10_setValley_J22
  refine j_run 12 2 rfl ?_
  refine jc_icmp_ne 14 rfl rfl (fun h4 => ?_) (fun h4 => ?_)
  · refine j_run 15 2 rfl ?_
    refine jc_icmp_lt 17 rfl rfl (fun h5 => ?_) (fun h5 => ?_)
    · exact j_weak (leP_s (leP_s (leP_s (leP_z)))) (JX10_setValley_J48 hA hp0 x1 x2 _)
    · refine j_run 18 2 rfl ?_
      refine jc_icmp_gt 20 rfl rfl (fun h6 => ?_) (fun h6 => ?_)
      · exact j_weak (leP_s (leP_s (leP_s (leP_z)))) (JX10_setValley_J48 hA hp0 x1 x2 _)
      · refine j_run 21 1 rfl ?_
        refine j_gr 22 0 rfl rfl hp0.1 rfl ?_
        refine j_run 23 1 rfl ?_
        refine j_pf 24 6 rfl rfl hp0.2.1.1 rfl rfl (Or.inl rfl) ?_
        refine j_run 25 1 rfl ?_
        exact j_zret 26 rfl rfl (by decide) rfl
  · exact j_weak (leP_s (leP_s (leP_s (leP_z)))) (JX10_setValley_J48 hA hp0 x1 x2 _)
theorem eX10_setValley {X : Cx} {ads : List Nat} {sk : List Sk} (hA : ads.length = sk.length ∧ sk.length ≤ 1000) {kp : Option Nat} (hp0 : ocS sk kp) (x1 : Int) (x2 : Int) (σ : Sg) : CF X mX10_setValley ads sk [.inr (some 0), .inl x1, .inl x2] σ wE (fX10_setValley x1 x2 σ) := by
  refine CF.of ⟨pX10_setValley_ok, tbX10_ok, hA.1, hA.2⟩ (plainFor_of_name plX10) (Nat.le_of_ble_eq_true rfl) ?_
  show jX10_setValley X ads sk (0, [some (.inr (some 0)), some (.inl x1), some (.inl x2)], [], σ) (fX10_setValley x1 x2 σ)
  unfold fX10_setValley
  refine j_run 0 1 rfl ?_
  refine jc_if_ne 1 rfl rfl (fun h7 => ?_) (fun h7 => ?_)
  · refine j_run 2 2 rfl ?_
    refine j_csT 4 3 2 rfl rfl mwX10_within (eX10_within hA x2 3 _) rfl rfl (rok rfl rfl) (Nat.le_of_ble_eq_true rfl) (fun h8 => ?_)
    refine jc_if_eq 5 rfl rfl (fun h9 => ?_) (fun h9 => ?_)
    · exact j_weak (leP_s (leP_s (leP_s (leP_z)))) (JX10_setValley_J22 hA hp0 x1 x2 _)
    · refine j_run 6 1 rfl ?_
      refine j_gr 7 0 rfl rfl hp0.1 rfl ?_
      refine j_run 8 1 rfl ?_
      refine j_pf 9 7 rfl rfl hp0.2.1.1 rfl rfl (Or.inl rfl) ?_
      refine j_run 10 1 rfl ?_
      exact j_zret 11 rfl rfl (by decide) rfl
  · exact j_weak (leP_s (leP_s (leP_s (leP_z)))) (JX10_setValley_J22 hA hp0 x1 x2 _)
abbrev jX10_setOne (X : Cx) (ads : List Nat) (sk : List Sk) (ps : PS) (res : Option (Int × Sg)) : Prop := J X mX10_setOne pX10_setOne tbX10 (rmD 1 0 0) 0 0 E0 (fun a => FM X mX10_setOne ads sk (wE a)) ads sk ps res
theorem JX10_setOne_J37 {X : Cx} {ads : List Nat} {sk : List Sk} (hA : ads.length = sk.length ∧ sk.length ≤ 1000) {kp : Option Nat} (hp0 : ocS sk kp) (x1 : Int) (x2 : Int) (x3 : Int) (σ : Sg) : jX10_setOne X ads sk (37, [some (.inr (some 0)), some (.inl x1), some (.inl x2), some (.inl x3)], [], σ) (fX10_setOne_J37 x1 x2 x3 σ) := by
  unfold fX10_setOne_J37
  refine j_run 20 1 rfl ?_
  refine j_gr 21 0 rfl rfl hp0.1 rfl ?_
  refine j_gr 22 4 rfl rfl hp0.2.1.1 rfl ?_
  refine j_run 23 1 rfl ?_
  refine j_cvT 24 6 1 rfl rfl mwX1_has hp0.2.1.2.2.2.1.1 rfl rfl (eX1_has hA hp0.2.1.2.2.2.1 x2 _) rfl rfl (rok rfl rfl) (Nat.le_of_ble_eq_true rfl) (fun h1 => ?_)
  refine jc_if_eq 25 rfl rfl (fun h2 => ?_) (fun h2 => ?_)
  · refine j_run 30 1 rfl ?_
    exact j_zret 31 rfl rfl (by decide) rfl
  · refine j_run 26 2 rfl ?_
    refine j_csT 28 3 2 rfl rfl mwX10_within (eX10_within hA x3 9 _) rfl rfl (rok rfl rfl) (Nat.le_of_ble_eq_true rfl) (fun h3 => ?_)
    refine jc_if_ne 29 rfl rfl (fun h4 => ?_) (fun h4 => ?_)
    · refine j_run 30 1 rfl ?_
      exact j_zret 31 rfl rfl (by decide) rfl
    · refine j_run 32 2 rfl ?_
      refine jc_icmp_ne 34 rfl rfl (fun h5 => ?_) (fun h5 => ?_)
      · refine j_run 35 1 rfl ?_
        refine j_gr 36 0 rfl rfl hp0.1 rfl ?_
        refine j_gr 37 4 rfl rfl hp0.2.1.1 rfl ?_
        refine j_gr 38 8 rfl rfl hp0.2.1.2.2.2.1.1 rfl ?_
        refine j_run 39 2 rfl ?_
        refine j_ast 41 rfl hp0.2.1.2.2.2.1.2.2.1 rfl ?_
        refine j_run 42 1 rfl ?_
        exact j_zret 43 rfl rfl (by decide) rfl
      · refine j_run 44 2 rfl ?_
        refine jc_icmp_ne 46 rfl rfl (fun h6 => ?_) (fun h6 => ?_)
        · refine j_run 47 1 rfl ?_
          refine j_gr 48 0 rfl rfl hp0.1 rfl ?_
          refine j_gr 49 4 rfl rfl hp0.2.1.1 rfl ?_
          refine j_gr 50 9 rfl rfl hp0.2.1.2.2.2.1.1 rfl ?_
          refine j_run 51 2 rfl ?_
          refine j_ast 53 rfl hp0.2.1.2.2.2.1.2.2.2.1 rfl ?_
          refine j_run 54 1 rfl ?_
          exact j_zret 55 rfl rfl (by decide) rfl
        · refine j_run 56 1 rfl ?_
          exact j_zret 57 rfl rfl (by decide) rfl
theorem eX10_setOne {X : Cx} {ads : List Nat} {sk : List Sk} (hA : ads.length = sk.length ∧ sk.length ≤ 1000) {kp : Option Nat} (hp0 : ocS sk kp) (x1 : Int) (x2 : Int) (x3 : Int) (σ : Sg) : CF X mX10_setOne ads sk [.inr (some 0), .inl x1, .inl x2, .inl x3] σ wE (fX10_setOne x1 x2 x3 σ) := by
  refine CF.of ⟨pX10_setOne_ok, tbX10_ok, hA.1, hA.2⟩ (plainFor_of_name plX10) (Nat.le_of_ble_eq_true rfl) ?_
  show jX10_setOne X ads sk (0, [some (.inr (some 0)), some (.inl x1), some (.inl x2), some (.inl x3)], [], σ) (fX10_setOne x1 x2 x3 σ)
  unfold fX10_setOne
  refine j_run 0 2 rfl ?_
  refine jc_icmp_ne 2 rfl rfl (fun h7 => ?_) (fun h7 => ?_)
  · refine j_run 3 1 rfl ?_
    refine j_gr 4 0 rfl rfl hp0.1 rfl ?_
    refine j_run 5 1 rfl ?_
    refine j_cvT 6 4 1 rfl rfl mwX9_hasField hp0.2.1.1 rfl rfl (eX9_hasField hA hp0.2.1 x2 _) rfl rfl (rok rfl rfl) (Nat.le_of_ble_eq_true rfl) (fun h8 => ?_)
    refine jc_if_eq 7 rfl rfl (fun h9 => ?_) (fun h9 => ?_)
    · exact j_weak (leP_s (leP_s (leP_s (leP_s (leP_z))))) (JX10_setOne_J37 hA hp0 x1 x2 x3 _)
    · refine j_run 8 2 rfl ?_
      refine j_csT 10 3 2 rfl rfl mwX10_within (eX10_within hA x3 99 _) rfl rfl (rok rfl rfl) (Nat.le_of_ble_eq_true rfl) (fun h10 => ?_)
      refine jc_if_eq 11 rfl rfl (fun h11 => ?_) (fun h11 => ?_)
      · exact j_weak (leP_s (leP_s (leP_s (leP_s (leP_z))))) (JX10_setOne_J37 hA hp0 x1 x2 x3 _)
      · refine j_run 12 1 rfl ?_
        refine j_gr 13 0 rfl rfl hp0.1 rfl ?_
        refine j_gr 14 10 rfl rfl hp0.2.1.1 rfl ?_
        refine j_run 15 2 rfl ?_
        refine j_ast 17 rfl hp0.2.1.2.1 rfl ?_
        refine j_run 18 1 rfl ?_
        exact j_zret 19 rfl rfl (by decide) rfl
  · exact j_weak (leP_s (leP_s (leP_s (leP_s (leP_z))))) (JX10_setOne_J37 hA hp0 x1 x2 x3 _)
abbrev jX10_set (X : Cx) (ads : List Nat) (sk : List Sk) (ps : PS) (res : Option (Int × Sg)) : Prop := J X mX10_set pX10_set tbX10 (rmD 2 0 0) 0 0 E0 (fun a => FM X mX10_set ads sk (wE a)) ads sk ps res
theorem JX10_set_J21 {X : Cx} {ads : List Nat} {sk : List Sk} (hA : ads.length = sk.length ∧ sk.length ≤ 1000) {kp : Option Nat} (hp0 : ocS sk kp) (y0 : Int) (σ : Sg) : jX10_set X ads sk (21, [some (.inr (some 0)), none, none, none, none], [.inl y0], σ) (fX10_set_J21 y0 σ) := by
  unfold fX10_set_J21
  refine j_run 13 2 rfl ?_
  refine jc_if_eq 15 rfl rfl (fun h1 => ?_) (fun h1 => ?_)
  · refine j_run 20 1 rfl ?_
    exact j_grd (fun hg => j_zret 21 rfl rfl hg rfl)
  · refine j_run 16 1 rfl ?_
    refine j_gr 17 2 rfl rfl hp0.1 rfl ?_
    refine j_run 18 1 rfl ?_
    refine j_pf 19 3 rfl rfl hp0.2.2.2.1.1 rfl rfl (Or.inl rfl) ?_
    refine j_run 20 1 rfl ?_
    exact j_grd (fun hg => j_zret 21 rfl rfl hg rfl)
theorem eX10_set {X : Cx} {ads : List Nat} {sk : List Sk} (hA : ads.length = sk.length ∧ sk.length ≤ 1000) {kp : Option Nat} (hp0 : ocS sk kp) (x1 : Int) (x2 : Int) (x3 : Int) (σ : Sg) : CF X mX10_set ads sk [.inr (some 0), .inl x1, .inl x2, .inl x3] σ wE (fX10_set x1 x2 x3 σ) := by
  refine CF.of ⟨pX10_set_ok, tbX10_ok, hA.1, hA.2⟩ (plainFor_of_name plX10) (Nat.le_of_ble_eq_true rfl) ?_
  show jX10_set X ads sk (0, [some (.inr (some 0)), some (.inl x1), some (.inl x2), some (.inl x3), none], [], σ) (fX10_set x1 x2 x3 σ)
  unfold fX10_set
  refine j_run 0 2 rfl ?_
  refine jc_icmp_gt 2 rfl rfl (fun h2 => ?_) (fun h2 => ?_)
  · refine j_run 8 4 rfl ?_
    refine j_cv 12 7 3 rfl rfl mwX10_setOne hp0.1 rfl rfl (eX10_setOne hA hp0 x1 x2 x3 _) rfl rfl (rok rfl rfl) (Nat.le_of_ble_eq_true rfl) (fun q3 _ h3 => ?_)
    exact j_weak (leP_s (leP_n (leP_n (leP_n (leP_n (leP_z)))))) (JX10_set_J21 hA hp0 q3.1 _)
  · refine j_run 3 3 rfl ?_
    refine j_cv 6 8 2 rfl rfl mwX10_setValley hp0.1 rfl rfl (eX10_setValley hA hp0 x1 x3 _) rfl rfl (rok rfl rfl) (Nat.le_of_ble_eq_true rfl) (fun q4 _ h4 => ?_)
    refine j_goto 7 rfl rfl ?_
    exact j_weak (leP_s (leP_n (leP_n (leP_n (leP_n (leP_z)))))) (JX10_set_J21 hA hp0 q4.1 _)
abbrev jX10_kin (X : Cx) (ads : List Nat) (sk : List Sk) (ps : PS) (res : Option (Int × Sg)) : Prop := J X mX10_kin pX10_kin tbX10 (rmD 2 0 0) 0 0 E0 (fun a => FM X mX10_kin ads sk (wE a)) ads sk ps res
theorem eX10_kin {X : Cx} {ads : List Nat} {sk : List Sk} (hA : ads.length = sk.length ∧ sk.length ≤ 1000) {kp : Option Nat} (hp0 : ocS sk kp) (x1 : Int) (x2 : Int) (x3 : Int) (σ : Sg) : CF X mX10_kin ads sk [.inr (some 0), .inl x1, .inl x2, .inl x3] σ wE (fX10_kin x1 x2 x3 σ) := by
  refine CF.of ⟨pX10_kin_ok, tbX10_ok, hA.1, hA.2⟩ (plainFor_of_name plX10) (Nat.le_of_ble_eq_true rfl) ?_
  show jX10_kin X ads sk (0, [some (.inr (some 0)), some (.inl x1), some (.inl x2), some (.inl x3)], [], σ) (fX10_kin x1 x2 x3 σ)
  unfold fX10_kin
  refine j_run 0 1 rfl ?_
  refine j_gr 1 0 rfl rfl hp0.1 rfl ?_
  refine j_gr 2 4 rfl rfl hp0.2.1.1 rfl ?_
  refine j_run 3 2 rfl ?_
  refine j_cvT 5 9 2 rfl rfl mwX1_areTwo hp0.2.1.2.2.2.1.1 rfl rfl (eX1_areTwo hA hp0.2.1.2.2.2.1 x1 x2 _) rfl rfl (rok rfl rfl) (Nat.le_of_ble_eq_true rfl) (fun h1 => ?_)
  refine jc_if_ne 6 rfl rfl (fun h2 => ?_) (fun h2 => ?_)
  · refine j_run 7 1 rfl ?_
    exact j_zret 8 rfl rfl (by decide) rfl
  · refine j_run 9 1 rfl ?_
    refine j_gr 10 0 rfl rfl hp0.1 rfl ?_
    refine j_gr 11 4 rfl rfl hp0.2.1.1 rfl ?_
    refine j_run 12 3 rfl ?_
    refine j_cv 15 10 3 rfl rfl mwX1_makeKin hp0.2.1.2.2.2.1.1 rfl rfl (eX1_makeKin hA hp0.2.1.2.2.2.1 x1 x2 x3 _) rfl rfl (rok rfl rfl) (Nat.le_of_ble_eq_true rfl) (fun s3 _ h3 => ?_)
    refine j_run 16 1 rfl ?_
    refine j_gr 17 2 rfl rfl hp0.1 rfl ?_
    refine j_run 18 1 rfl ?_
    refine j_pf 19 3 rfl rfl hp0.2.2.2.1.1 rfl rfl (Or.inl rfl) ?_
    refine j_run 20 1 rfl ?_
    exact j_zret 21 rfl rfl (by decide) rfl
abbrev jX10_vow (X : Cx) (ads : List Nat) (sk : List Sk) (ps : PS) (res : Option (Int × Sg)) : Prop := J X mX10_vow pX10_vow tbX10 (rmD 6 0 0) 0 0 E0 (fun a => FM X mX10_vow ads sk (wE a)) ads sk ps res
theorem eX10_vow {X : Cx} {ads : List Nat} {sk : List Sk} (hA : ads.length = sk.length ∧ sk.length ≤ 1000) {kp : Option Nat} (hp0 : ocS sk kp) (x1 : Int) (x2 : Int) (x3 : Int) (σ : Sg) : CF X mX10_vow ads sk [.inr (some 0), .inl x1, .inl x2, .inl x3] σ wE (fX10_vow x1 x2 x3 σ) := by
  refine CF.of ⟨pX10_vow_ok, tbX10_ok, hA.1, hA.2⟩ (plainFor_of_name plX10) (Nat.le_of_ble_eq_true rfl) ?_
  show jX10_vow X ads sk (0, [some (.inr (some 0)), some (.inl x1), some (.inl x2), some (.inl x3)], [], σ) (fX10_vow x1 x2 x3 σ)
  unfold fX10_vow
  refine j_run 0 1 rfl ?_
  refine j_gr 1 0 rfl rfl hp0.1 rfl ?_
  refine j_run 2 1 rfl ?_
  refine j_cvT 3 4 1 rfl rfl mwX9_hasField hp0.2.1.1 rfl rfl (eX9_hasField hA hp0.2.1 x3 _) rfl rfl (rok rfl rfl) (Nat.le_of_ble_eq_true rfl) (fun h1 => ?_)
  refine jc_if_eq 4 rfl rfl (fun h2 => ?_) (fun h2 => ?_)
  · refine j_run 12 1 rfl ?_
    exact j_iret 13 rfl rfl rfl
  · refine j_run 5 1 rfl ?_
    refine j_gr 6 0 rfl rfl hp0.1 rfl ?_
    refine j_gr 7 4 rfl rfl hp0.2.1.1 rfl ?_
    refine j_run 8 2 rfl ?_
    refine j_cv 10 11 2 rfl rfl mwX1_canWed hp0.2.1.2.2.2.1.1 rfl rfl (eX1_canWed hA hp0.2.1.2.2.2.1 x1 x2 _) rfl rfl (rok rfl rfl) (Nat.le_of_ble_eq_true rfl) (fun r3 _ h3 => ?_)
    refine jc_if_ne 11 rfl rfl (fun h4 => ?_) (fun h4 => ?_)
    · refine j_run 12 1 rfl ?_
      exact j_iret 13 rfl rfl rfl
    · refine j_run 14 1 rfl ?_
      refine j_gr 15 2 rfl rfl hp0.1 rfl ?_
      refine j_run 16 1 rfl ?_
      refine j_gr 17 0 rfl rfl hp0.1 rfl ?_
      refine j_cv 18 12 1 rfl rfl mwX3_keep hp0.2.2.2.1.1 rfl rfl (eX3_keep hA hp0.2.2.2.1 hp0.2.1 _) rfl rfl (rok rfl rfl) (Nat.le_of_ble_eq_true rfl) (fun s5 _ h5 => ?_)
      refine j_run 19 1 rfl ?_
      refine j_gr 20 0 rfl rfl hp0.1 rfl ?_
      refine j_run 21 3 rfl ?_
      refine j_cv 24 13 3 rfl rfl mwX9_makeVow hp0.2.1.1 rfl rfl (eX9_makeVow hA hp0.2.1 x1 x2 x3 _) rfl rfl (rok rfl rfl) (Nat.le_of_ble_eq_true rfl) (fun q6 _ h6 => ?_)
      exact j_iret 25 rfl rfl rfl
abbrev jX10_part (X : Cx) (ads : List Nat) (sk : List Sk) (ps : PS) (res : Option (Int × Sg)) : Prop := J X mX10_part pX10_part tbX10 (rmD 2 0 0) 0 0 E0 (fun a => FM X mX10_part ads sk (wE a)) ads sk ps res
theorem eX10_part {X : Cx} {ads : List Nat} {sk : List Sk} (hA : ads.length = sk.length ∧ sk.length ≤ 1000) {kp : Option Nat} (hp0 : ocS sk kp) (x1 : Int) (x2 : Int) (σ : Sg) : CF X mX10_part ads sk [.inr (some 0), .inl x1, .inl x2] σ wE (fX10_part x1 x2 σ) := by
  refine CF.of ⟨pX10_part_ok, tbX10_ok, hA.1, hA.2⟩ (plainFor_of_name plX10) (Nat.le_of_ble_eq_true rfl) ?_
  show jX10_part X ads sk (0, [some (.inr (some 0)), some (.inl x1), some (.inl x2)], [], σ) (fX10_part x1 x2 σ)
  unfold fX10_part
  refine j_run 0 1 rfl ?_
  refine j_gr 1 0 rfl rfl hp0.1 rfl ?_
  refine j_gr 2 4 rfl rfl hp0.2.1.1 rfl ?_
  refine j_run 3 2 rfl ?_
  refine j_cvT 5 9 2 rfl rfl mwX1_areTwo hp0.2.1.2.2.2.1.1 rfl rfl (eX1_areTwo hA hp0.2.1.2.2.2.1 x1 x2 _) rfl rfl (rok rfl rfl) (Nat.le_of_ble_eq_true rfl) (fun h1 => ?_)
  refine jc_if_eq 6 rfl rfl (fun h2 => ?_) (fun h2 => ?_)
  · refine j_run 15 1 rfl ?_
    exact j_zret 16 rfl rfl (by decide) rfl
  · refine j_run 7 1 rfl ?_
    refine j_gr 8 0 rfl rfl hp0.1 rfl ?_
    refine j_gr 9 4 rfl rfl hp0.2.1.1 rfl ?_
    refine j_gr 10 11 rfl rfl hp0.2.1.2.2.2.1.1 rfl ?_
    refine j_run 11 1 rfl ?_
    refine j_ald 12 rfl hp0.2.1.2.2.2.1.2.2.2.2.2.1 rfl ?_
    refine j_run 13 1 rfl ?_
    refine jc_icmp_eq 14 rfl rfl (fun h3 => ?_) (fun h3 => ?_)
    · refine j_run 17 1 rfl ?_
      refine j_gr 18 2 rfl rfl hp0.1 rfl ?_
      refine j_run 19 1 rfl ?_
      refine j_gr 20 0 rfl rfl hp0.1 rfl ?_
      refine j_cv 21 12 1 rfl rfl mwX3_keep hp0.2.2.2.1.1 rfl rfl (eX3_keep hA hp0.2.2.2.1 hp0.2.1 _) rfl rfl (rok rfl rfl) (Nat.le_of_ble_eq_true rfl) (fun s4 _ h4 => ?_)
      refine j_run 22 1 rfl ?_
      refine j_gr 23 0 rfl rfl hp0.1 rfl ?_
      refine j_gr 24 4 rfl rfl hp0.2.1.1 rfl ?_
      refine j_gr 25 11 rfl rfl hp0.2.1.2.2.2.1.1 rfl ?_
      refine j_run 26 2 rfl ?_
      refine j_ast 28 rfl hp0.2.1.2.2.2.1.2.2.2.2.2.1 rfl ?_
      refine j_run 29 1 rfl ?_
      refine j_gr 30 0 rfl rfl hp0.1 rfl ?_
      refine j_gr 31 4 rfl rfl hp0.2.1.1 rfl ?_
      refine j_gr 32 11 rfl rfl hp0.2.1.2.2.2.1.1 rfl ?_
      refine j_run 33 2 rfl ?_
      refine j_ast 35 rfl hp0.2.1.2.2.2.1.2.2.2.2.2.1 rfl ?_
      refine j_run 36 1 rfl ?_
      refine j_gr 37 0 rfl rfl hp0.1 rfl ?_
      refine j_run 38 3 rfl ?_
      refine j_csT 41 0 2 rfl rfl mwJ9_min_7cf53 (eJ9_min_7cf53 hA x1 x2 _) rfl rfl (rok rfl rfl) (Nat.le_of_ble_eq_true rfl) (fun h5 => ?_)
      refine j_run 42 1 rfl ?_
      refine j_cv 43 14 3 rfl rfl mwX9_note hp0.2.1.1 rfl rfl (eX9_note hA hp0.2.1 5 (fJ9_min_7cf53 x1 x2) 0 _) rfl rfl (rok rfl rfl) (Nat.le_of_ble_eq_true rfl) (fun s6 _ h6 => ?_)
      refine j_run 44 1 rfl ?_
      exact j_zret 45 rfl rfl (by decide) rfl
    · refine j_run 15 1 rfl ?_
      exact j_zret 16 rfl rfl (by decide) rfl
abbrev jX10_sweep (X : Cx) (ads : List Nat) (sk : List Sk) (ps : PS) (res : Option (Int × Sg)) : Prop := J X mX10_sweep pX10_sweep tbX10 (rmD 2 0 0) 0 0 E0 (fun a => FM X mX10_sweep ads sk (wE a)) ads sk ps res
theorem eX10_sweep {X : Cx} {ads : List Nat} {sk : List Sk} (hA : ads.length = sk.length ∧ sk.length ≤ 1000) {kp : Option Nat} (hp0 : ocS sk kp) (x1 : Int) (σ : Sg) : CF X mX10_sweep ads sk [.inr (some 0), .inl x1] σ wE (fX10_sweep x1 σ) := by
  refine CF.of ⟨pX10_sweep_ok, tbX10_ok, hA.1, hA.2⟩ (plainFor_of_name plX10) (Nat.le_of_ble_eq_true rfl) ?_
  show jX10_sweep X ads sk (0, [some (.inr (some 0)), some (.inl x1), none], [], σ) (fX10_sweep x1 σ)
  unfold fX10_sweep
  refine j_run 0 1 rfl ?_
  refine j_gr 1 0 rfl rfl hp0.1 rfl ?_
  refine j_run 2 1 rfl ?_
  refine j_cvT 3 4 1 rfl rfl mwX9_hasField hp0.2.1.1 rfl rfl (eX9_hasField hA hp0.2.1 x1 _) rfl rfl (rok rfl rfl) (Nat.le_of_ble_eq_true rfl) (fun h1 => ?_)
  refine jc_if_ne 4 rfl rfl (fun h2 => ?_) (fun h2 => ?_)
  · refine j_run 5 1 rfl ?_
    exact j_iret 6 rfl rfl rfl
  · refine j_run 7 1 rfl ?_
    refine j_gr 8 2 rfl rfl hp0.1 rfl ?_
    refine j_run 9 1 rfl ?_
    refine j_gr 10 0 rfl rfl hp0.1 rfl ?_
    refine j_cv 11 12 1 rfl rfl mwX3_keep hp0.2.2.2.1.1 rfl rfl (eX3_keep hA hp0.2.2.2.1 hp0.2.1 _) rfl rfl (rok rfl rfl) (Nat.le_of_ble_eq_true rfl) (fun s3 _ h3 => ?_)
    refine j_run 12 1 rfl ?_
    refine j_gr 13 0 rfl rfl hp0.1 rfl ?_
    refine j_gr 14 10 rfl rfl hp0.2.1.1 rfl ?_
    refine j_run 15 1 rfl ?_
    refine j_ald 16 rfl hp0.2.1.2.1 rfl ?_
    refine j_run 17 2 rfl ?_
    refine j_gr 19 0 rfl rfl hp0.1 rfl ?_
    refine j_gr 20 10 rfl rfl hp0.2.1.1 rfl ?_
    refine j_run 21 2 rfl ?_
    refine j_ast 23 rfl hp0.2.1.2.1 rfl ?_
    refine j_run 24 1 rfl ?_
    refine j_gr 25 0 rfl rfl hp0.1 rfl ?_
    refine j_run 26 3 rfl ?_
    refine j_cv 29 14 3 rfl rfl mwX9_note hp0.2.1.1 rfl rfl (eX9_note hA hp0.2.1 6 x1 (rd s3 2 x1) _) rfl rfl (rok rfl rfl) (Nat.le_of_ble_eq_true rfl) (fun s4 _ h4 => ?_)
    refine j_run 30 1 rfl ?_
    exact j_iret 31 rfl rfl rfl
abbrev jX10_days (X : Cx) (ads : List Nat) (sk : List Sk) (ps : PS) (res : Option (Int × Sg)) : Prop := J X mX10_days pX10_days tbX10 (rmD 7 0 0) 0 0 E0 (fun a => FM X mX10_days ads sk (wE a)) ads sk ps res
theorem JX10_days_L32 {X : Cx} {ads : List Nat} {sk : List Sk} (hA : ads.length = sk.length ∧ sk.length ≤ 1000) {kp : Option Nat} (hp0 : ocS sk kp) (x1 : Int) : ∀ (n : Nat) (x2 : Int) (x3 : Int) (σ : Sg), jX10_days X ads sk (32, [some (.inr (some 0)), some (.inl x1), some (.inl x2), some (.inl x3)], [], σ) (fX10_days_L32 x1 n x2 x3 σ) := by
  intro n
  induction n with
  | zero => intro x2 x3 σ; exact j_none
  | succ n ih =>
    intro x2 x3 σ
    rw [fX10_days_L32]
    refine j_run 19 2 rfl ?_
    refine jc_icmp_ge 21 rfl rfl (fun h4 => ?_) (fun h4 => ?_)
    · refine j_run 22 1 rfl ?_
      refine j_gr 23 2 rfl rfl hp0.1 rfl ?_
      refine j_run 24 1 rfl ?_
      refine j_gr 25 0 rfl rfl hp0.1 rfl ?_
      refine j_cv 26 12 1 rfl rfl mwX3_keep hp0.2.2.2.1.1 rfl rfl (eX3_keep hA hp0.2.2.2.1 hp0.2.1 _) rfl rfl (rok rfl rfl) (Nat.le_of_ble_eq_true rfl) (fun s5 _ h5 => ?_)
      refine j_run 27 2 rfl ?_
      refine j_gr 29 0 rfl rfl hp0.1 rfl ?_
      refine j_cv 30 15 0 rfl rfl mwX9_passDay hp0.2.1.1 rfl rfl (eX9_passDay hA hp0.2.1 _) rfl rfl (rok rfl rfl) (Nat.le_of_ble_eq_true rfl) (fun q6 _ h6 => ?_)
      refine j_run 31 3 rfl ?_
      refine j_goto 34 rfl rfl ?_
      exact j_weak (leP_s (leP_s (leP_s (leP_s (leP_z))))) (ih (bw (x2 + q6.1)) (bw (x3 + 1)) _)
    · refine j_run 35 1 rfl ?_
      exact j_iret 36 rfl rfl rfl
theorem eX10_days {X : Cx} {ads : List Nat} {sk : List Sk} (hA : ads.length = sk.length ∧ sk.length ≤ 1000) {kp : Option Nat} (hp0 : ocS sk kp) (x1 : Int) (σ : Sg) : CF X mX10_days ads sk [.inr (some 0), .inl x1] σ wE (fX10_days x1 σ) := by
  refine CF.of ⟨pX10_days_ok, tbX10_ok, hA.1, hA.2⟩ (plainFor_of_name plX10) (Nat.le_of_ble_eq_true rfl) ?_
  show jX10_days X ads sk (0, [some (.inr (some 0)), some (.inl x1), none, none], [], σ) (fX10_days x1 σ)
  unfold fX10_days
  refine j_run 0 2 rfl ?_
  refine jc_icmp_lt 2 rfl rfl (fun h1 => ?_) (fun h1 => ?_)
  · refine j_run 13 1 rfl ?_
    exact j_iret 14 rfl rfl rfl
  · refine j_run 3 2 rfl ?_
    refine jc_icmp_gt 5 rfl rfl (fun h2 => ?_) (fun h2 => ?_)
    · refine j_run 13 1 rfl ?_
      exact j_iret 14 rfl rfl rfl
    · refine j_run 6 1 rfl ?_
      refine j_gr 7 0 rfl rfl hp0.1 rfl ?_
      refine j_gf 8 12 rfl rfl hp0.2.1.1 rfl ?_
      refine j_run 9 3 rfl ?_
      refine jc_icmp_le 12 rfl rfl (fun h3 => ?_) (fun h3 => ?_)
      · refine j_run 13 1 rfl ?_
        exact j_iret 14 rfl rfl rfl
      · refine j_run 15 4 rfl ?_
        exact j_weak (leP_s (leP_s (leP_s (leP_s (leP_z))))) (JX10_days_L32 hA hp0 x1 FU 0 0 _)
abbrev jX10_feed (X : Cx) (ads : List Nat) (sk : List Sk) (ps : PS) (res : Option (Int × Sg)) : Prop := J X mX10_feed pX10_feed tbX10 (rmD 1 0 0) 0 0 E0 (fun a => FM X mX10_feed ads sk (wE a)) ads sk ps res
theorem eX10_feed {X : Cx} {ads : List Nat} {sk : List Sk} (hA : ads.length = sk.length ∧ sk.length ≤ 1000) {kp : Option Nat} (hp0 : ocS sk kp) (x1 : Int) (x2 : Int) (x3 : Int) (x4 : Int) (x5 : Int) (σ : Sg) : CF X mX10_feed ads sk [.inr (some 0), .inl x1, .inl x2, .inl x3, .inl x4, .inl x5] σ wE (fX10_feed x1 x2 x3 x4 x5 σ) := by
  refine CF.of ⟨pX10_feed_ok, tbX10_ok, hA.1, hA.2⟩ (plainFor_of_name plX10) (Nat.le_of_ble_eq_true rfl) ?_
  show jX10_feed X ads sk (0, [some (.inr (some 0)), some (.inl x1), some (.inl x2), some (.inl x3), some (.inl x4), some (.inl x5)], [], σ) (fX10_feed x1 x2 x3 x4 x5 σ)
  unfold fX10_feed
  refine j_run 0 1 rfl ?_
  refine j_gr 1 13 rfl rfl hp0.1 rfl ?_
  refine j_gf 2 14 rfl rfl hp0.2.2.2.2.1.1 rfl ?_
  refine j_run 3 3 rfl ?_
  refine jc_icmp_le 6 rfl rfl (fun h1 => ?_) (fun h1 => ?_)
  · refine j_run 7 1 rfl ?_
    exact j_iret 8 rfl rfl rfl
  · refine j_run 9 1 rfl ?_
    refine j_gr 10 13 rfl rfl hp0.1 rfl ?_
    refine j_run 11 1 rfl ?_
    refine j_cv 12 16 1 rfl rfl mwX7_put hp0.2.2.2.2.1.1 rfl rfl (eX7_put hA hp0.2.2.2.2.1 x1 _) rfl rfl (rok rfl rfl) (Nat.le_of_ble_eq_true rfl) (fun s2 _ h2 => ?_)
    refine j_run 13 1 rfl ?_
    refine j_gr 14 13 rfl rfl hp0.1 rfl ?_
    refine j_run 15 1 rfl ?_
    refine j_cv 16 16 1 rfl rfl mwX7_put hp0.2.2.2.2.1.1 rfl rfl (eX7_put hA hp0.2.2.2.2.1 x2 _) rfl rfl (rok rfl rfl) (Nat.le_of_ble_eq_true rfl) (fun s3 _ h3 => ?_)
    refine j_run 17 1 rfl ?_
    refine j_gr 18 13 rfl rfl hp0.1 rfl ?_
    refine j_run 19 1 rfl ?_
    refine j_cv 20 16 1 rfl rfl mwX7_put hp0.2.2.2.2.1.1 rfl rfl (eX7_put hA hp0.2.2.2.2.1 x3 _) rfl rfl (rok rfl rfl) (Nat.le_of_ble_eq_true rfl) (fun s4 _ h4 => ?_)
    refine j_run 21 1 rfl ?_
    refine j_gr 22 13 rfl rfl hp0.1 rfl ?_
    refine j_run 23 1 rfl ?_
    refine j_cv 24 16 1 rfl rfl mwX7_put hp0.2.2.2.2.1.1 rfl rfl (eX7_put hA hp0.2.2.2.2.1 x4 _) rfl rfl (rok rfl rfl) (Nat.le_of_ble_eq_true rfl) (fun s5 _ h5 => ?_)
    refine j_run 25 1 rfl ?_
    refine j_gr 26 13 rfl rfl hp0.1 rfl ?_
    refine j_run 27 1 rfl ?_
    refine j_cv 28 16 1 rfl rfl mwX7_put hp0.2.2.2.2.1.1 rfl rfl (eX7_put hA hp0.2.2.2.2.1 x5 _) rfl rfl (rok rfl rfl) (Nat.le_of_ble_eq_true rfl) (fun s6 _ h6 => ?_)
    refine j_run 29 1 rfl ?_
    refine j_gr 30 13 rfl rfl hp0.1 rfl ?_
    refine j_gf 31 14 rfl rfl hp0.2.2.2.2.1.1 rfl ?_
    exact j_iret 32 rfl rfl rfl
abbrev jX10_end (X : Cx) (ads : List Nat) (sk : List Sk) (ps : PS) (res : Option (Int × Sg)) : Prop := J X mX10_end pX10_end tbX10 (rmD 0 0 0) 0 0 E0 (fun a => FM X mX10_end ads sk (wE a)) ads sk ps res
theorem eX10_end {X : Cx} {ads : List Nat} {sk : List Sk} (hA : ads.length = sk.length ∧ sk.length ≤ 1000) {kp : Option Nat} (hp0 : ocS sk kp) (x1 : Int) (σ : Sg) : CF X mX10_end ads sk [.inr (some 0), .inl x1] σ wE (fX10_end x1 σ) := by
  refine CF.of ⟨pX10_end_ok, tbX10_ok, hA.1, hA.2⟩ (plainFor_of_name plX10) (Nat.le_of_ble_eq_true rfl) ?_
  show jX10_end X ads sk (0, [some (.inr (some 0)), some (.inl x1)], [], σ) (fX10_end x1 σ)
  unfold fX10_end
  refine j_run 0 1 rfl ?_
  refine jc_if_lt 1 rfl rfl (fun h1 => ?_) (fun h1 => ?_)
  · refine j_run 7 1 rfl ?_
    exact j_zret 8 rfl rfl (by decide) rfl
  · refine j_run 2 2 rfl ?_
    refine j_gr 4 13 rfl rfl hp0.1 rfl ?_
    refine j_gf 5 14 rfl rfl hp0.2.2.2.2.1.1 rfl ?_
    refine jc_icmp_le 6 rfl rfl (fun h2 => ?_) (fun h2 => ?_)
    · refine j_run 7 1 rfl ?_
      exact j_zret 8 rfl rfl (by decide) rfl
    · refine j_run 9 1 rfl ?_
      refine j_gr 10 13 rfl rfl hp0.1 rfl ?_
      refine j_run 11 1 rfl ?_
      refine j_pf 12 14 rfl rfl hp0.2.2.2.2.1.1 rfl rfl (Or.inl rfl) ?_
      refine j_run 13 1 rfl ?_
      exact j_zret 14 rfl rfl (by decide) rfl
abbrev jX10_text (X : Cx) (ads : List Nat) (sk : List Sk) (ps : PS) (res : Option (Int × Sg)) : Prop := J X mX10_text pX10_text tbX10 (rmD 46 0 0) 0 0 E0 (fun a => FM X mX10_text ads sk (wE a)) ads sk ps res
theorem JX10_text_J9 {X : Cx} {ads : List Nat} {sk : List Sk} (hA : ads.length = sk.length ∧ sk.length ≤ 1000) {kp : Option Nat} (hp0 : ocS sk kp) (σ : Sg) : jX10_text X ads sk (9, [some (.inr (some 0)), none], [], σ) (fX10_text_J9 σ) := by
  unfold fX10_text_J9
  refine j_run 5 1 rfl ?_
  refine j_gr 6 13 rfl rfl hp0.1 rfl ?_
  refine j_run 7 1 rfl ?_
  refine j_pf 8 14 rfl rfl hp0.2.2.2.2.1.1 rfl rfl (Or.inl rfl) ?_
  refine j_run 9 1 rfl ?_
  refine j_gr 10 15 rfl rfl hp0.1 rfl ?_
  refine j_run 11 1 rfl ?_
  refine j_pf 12 16 rfl rfl hp0.2.2.2.2.2.1.1 rfl rfl (Or.inl rfl) ?_
  refine j_run 13 1 rfl ?_
  refine j_gr 14 15 rfl rfl hp0.1 rfl ?_
  refine j_run 15 1 rfl ?_
  refine j_pf 16 17 rfl rfl hp0.2.2.2.2.2.1.1 rfl rfl (Or.inl rfl) ?_
  refine j_run 17 1 rfl ?_
  exact j_iret 18 rfl rfl rfl
theorem JX10_text_J81 {X : Cx} {ads : List Nat} {sk : List Sk} (hA : ads.length = sk.length ∧ sk.length ≤ 1000) {kp : Option Nat} (hp0 : ocS sk kp) (x1 : Int) (σ : Sg) : jX10_text X ads sk (81, [some (.inr (some 0)), some (.inl x1)], [], σ) (fX10_text_J81 x1 σ) := by
  unfold fX10_text_J81
  refine j_run 43 1 rfl ?_
  refine j_gr 44 0 rfl rfl hp0.1 rfl ?_
  refine j_run 45 2 rfl ?_
  refine j_gr 47 18 rfl rfl hp0.1 rfl ?_
  refine j_cv 48 19 2 rfl rfl mwX9_take hp0.2.1.1 rfl rfl (eX9_take hA hp0.2.1 hp0.2.2.1 x1 _) rfl rfl (rok rfl rfl) (Nat.le_of_ble_eq_true rfl) (fun q6 _ h6 => ?_)
  exact j_iret 49 rfl rfl rfl
theorem JX10_text_J73 {X : Cx} {ads : List Nat} {sk : List Sk} (hA : ads.length = sk.length ∧ sk.length ≤ 1000) {kp : Option Nat} (hp0 : ocS sk kp) (x1 : Int) (k81 : Sg → Option (Int × Sg)) (hk81 : ∀  (σ : Sg), jX10_text X ads sk (81, [some (.inr (some 0)), some (.inl x1)], [], σ) (k81 σ)) (σ : Sg) : jX10_text X ads sk (73, [some (.inr (some 0)), some (.inl x1)], [], σ) (fX10_text_J73 k81 x1 σ) := by
  unfold fX10_text_J73
  refine j_run 39 1 rfl ?_
  refine j_gr 40 2 rfl rfl hp0.1 rfl ?_
  refine j_run 41 1 rfl ?_
  refine j_pf 42 3 rfl rfl hp0.2.2.2.1.1 rfl rfl (Or.inl rfl) ?_
  exact j_weak (leP_s (leP_s (leP_z))) (hk81 _)
theorem eX10_text {X : Cx} {ads : List Nat} {sk : List Sk} (hA : ads.length = sk.length ∧ sk.length ≤ 1000) {kp : Option Nat} (hp0 : ocS sk kp) (x1 : Int) (σ : Sg) : CF X mX10_text ads sk [.inr (some 0), .inl x1] σ wE (fX10_text x1 σ) := by
  refine CF.of ⟨pX10_text_ok, tbX10_ok, hA.1, hA.2⟩ (plainFor_of_name plX10) (Nat.le_of_ble_eq_true rfl) ?_
  show jX10_text X ads sk (0, [some (.inr (some 0)), some (.inl x1)], [], σ) (fX10_text x1 σ)
  unfold fX10_text
  refine j_run 0 1 rfl ?_
  refine jc_if_lt 1 rfl rfl (fun h1 => ?_) (fun h1 => ?_)
  · exact j_weak (leP_s (leP_n (leP_z))) (JX10_text_J9 hA hp0 _)
  · refine j_run 2 2 rfl ?_
    refine jc_icmp_le 4 rfl rfl (fun h2 => ?_) (fun h2 => ?_)
    · exact j_weak (leP_s (leP_n (leP_z))) (JX10_text_J9 hA hp0 _)
    · refine j_run 19 1 rfl ?_
      refine j_gr 20 13 rfl rfl hp0.1 rfl ?_
      refine j_cv 21 17 0 rfl rfl mwX7_split hp0.2.2.2.2.1.1 rfl rfl (eX7_split hA hp0.2.2.2.2.1 _) rfl rfl (rok rfl rfl) (Nat.le_of_ble_eq_true rfl) (fun s3 _ h3 => ?_)
      refine j_run 22 1 rfl ?_
      refine j_gr 23 13 rfl rfl hp0.1 rfl ?_
      refine j_run 24 1 rfl ?_
      refine j_pf 25 14 rfl rfl hp0.2.2.2.2.1.1 rfl rfl (Or.inl rfl) ?_
      refine j_run 26 1 rfl ?_
      refine j_gr 27 15 rfl rfl hp0.1 rfl ?_
      refine j_run 28 1 rfl ?_
      refine j_cv 29 18 1 rfl rfl mwX4_reads hp0.2.2.2.2.2.1.1 rfl rfl (eX4_reads hA hp0.2.2.2.2.2.1 x1 _) rfl rfl (rok rfl rfl) (Nat.le_of_ble_eq_true rfl) (fun q4 _ h4 => ?_)
      refine jc_if_ne 30 rfl rfl (fun h5 => ?_) (fun h5 => ?_)
      · refine j_run 31 1 rfl ?_
        exact j_iret 32 rfl rfl rfl
      · refine j_run 33 2 rfl ?_
        refine jc_icmp_eq 35 rfl rfl (fun h7 => ?_) (fun h7 => ?_)
        · exact j_weak (leP_s (leP_s (leP_z))) (JX10_text_J73 hA hp0 x1 _ (JX10_text_J81 hA hp0 x1) _)
        · refine j_run 36 2 rfl ?_
          refine jc_icmp_ne 38 rfl rfl (fun h8 => ?_) (fun h8 => ?_)
          · exact j_weak (leP_s (leP_s (leP_z))) (JX10_text_J73 hA hp0 x1 _ (JX10_text_J81 hA hp0 x1) _)
          · exact j_weak (leP_s (leP_s (leP_z))) (JX10_text_J81 hA hp0 x1 _)
abbrev jX10_fault (X : Cx) (ads : List Nat) (sk : List Sk) (σ : Sg) (ps : PS) (res : Option (Int)) : Prop := J X mX10_fault pX10_fault tbX10 (rmD 0 0 0) 0 0 E0 (fun a => FM X mX10_fault ads sk ((wP σ) a)) ads sk ps res
theorem eX10_fault {X : Cx} {ads : List Nat} {sk : List Sk} (hA : ads.length = sk.length ∧ sk.length ≤ 1000) {kp : Option Nat} (hp0 : ocS sk kp) (x1 : Int) (σ : Sg) : CF X mX10_fault ads sk [.inr (some 0), .inl x1] σ (wP σ) (some (fX10_fault x1 σ)) := by
  refine CF.of ⟨pX10_fault_ok, tbX10_ok, hA.1, hA.2⟩ (plainFor_of_name plX10) (Nat.le_of_ble_eq_true rfl) ?_
  show jX10_fault X ads sk σ (0, [some (.inr (some 0)), some (.inl x1)], [], σ) (some (fX10_fault x1 σ))
  unfold fX10_fault
  refine j_run 0 1 rfl ?_
  refine jt_if_ne 1 rfl rfl (fun h1 => ?_) (fun h1 => ?_)
  · refine j_run 2 1 rfl ?_
    refine j_gr 3 15 rfl rfl hp0.1 rfl ?_
    refine j_gf 4 16 rfl rfl hp0.2.2.2.2.2.1.1 rfl ?_
    exact j_iret 5 rfl rfl rfl
  · refine j_run 6 2 rfl ?_
    refine jt_icmp_ne 8 rfl rfl (fun h2 => ?_) (fun h2 => ?_)
    · refine j_run 9 1 rfl ?_
      refine j_gr 10 15 rfl rfl hp0.1 rfl ?_
      refine j_gf 11 17 rfl rfl hp0.2.2.2.2.2.1.1 rfl ?_
      refine j_goto 12 rfl rfl ?_
      exact j_iret 14 rfl rfl rfl
    · refine j_run 13 1 rfl ?_
      exact j_iret 14 rfl rfl rfl
abbrev jX10_of (X : Cx) (ads : List Nat) (sk : List Sk) (σ : Sg) (ps : PS) (res : Option (Int)) : Prop := J X mX10_of pX10_of tbX10 (rmD 1 0 0) 0 0 E0 (fun a => FM X mX10_of ads sk ((wP σ) a)) ads sk ps res
theorem eX10_of {X : Cx} {ads : List Nat} {sk : List Sk} (hA : ads.length = sk.length ∧ sk.length ≤ 1000) {kp : Option Nat} (hp0 : ocS sk kp) (x1 : Int) (x2 : Int) (σ : Sg) : CF X mX10_of ads sk [.inr (some 0), .inl x1, .inl x2] σ (wP σ) (fX10_of x1 x2 σ) := by
  refine CF.of ⟨pX10_of_ok, tbX10_ok, hA.1, hA.2⟩ (plainFor_of_name plX10) (Nat.le_of_ble_eq_true rfl) ?_
  show jX10_of X ads sk σ (0, [some (.inr (some 0)), some (.inl x1), some (.inl x2), none], [], σ) (fX10_of x1 x2 σ)
  unfold fX10_of
  refine j_run 0 1 rfl ?_
  refine j_gr 1 0 rfl rfl hp0.1 rfl ?_
  refine j_gr 2 4 rfl rfl hp0.2.1.1 rfl ?_
  refine j_run 3 3 rfl ?_
  refine j_cvT 6 6 1 rfl rfl mwX1_has hp0.2.1.2.2.2.1.1 rfl rfl (eX1_has hA hp0.2.1.2.2.2.1 x1 _) rfl rfl (rok rfl rfl) (Nat.le_of_ble_eq_true rfl) (fun h1 => ?_)
  refine jc_if_ne 7 rfl rfl (fun h2 => ?_) (fun h2 => ?_)
  · refine j_run 8 1 rfl ?_
    exact j_iret 9 rfl rfl rfl
  · refine j_run 10 1 rfl ?_
    refine jc_ite (fun h3 => ?_) (fun h3 => ?_)
    · refine j_tsIn 11 rfl h3 ⟨by decide, by decide⟩ rfl rfl ?_
      refine j_run 12 1 rfl ?_
      refine j_gr 13 19 rfl rfl hp0.2.1.2.2.2.1.1 rfl ?_
      refine j_run 14 1 rfl ?_
      refine j_ald 15 rfl hp0.2.1.2.2.2.1.2.1 rfl ?_
      exact j_iret 16 rfl rfl rfl
    refine jc_ite (fun h4 => ?_) (fun h4 => ?_)
    · refine j_tsIn 11 rfl h4 ⟨by decide, by decide⟩ rfl rfl ?_
      refine j_run 17 1 rfl ?_
      refine j_gr 18 8 rfl rfl hp0.2.1.2.2.2.1.1 rfl ?_
      refine j_run 19 1 rfl ?_
      refine j_ald 20 rfl hp0.2.1.2.2.2.1.2.2.1 rfl ?_
      exact j_iret 21 rfl rfl rfl
    refine jc_ite (fun h5 => ?_) (fun h5 => ?_)
    · refine j_tsIn 11 rfl h5 ⟨by decide, by decide⟩ rfl rfl ?_
      refine j_run 22 1 rfl ?_
      refine j_gr 23 9 rfl rfl hp0.2.1.2.2.2.1.1 rfl ?_
      refine j_run 24 1 rfl ?_
      refine j_ald 25 rfl hp0.2.1.2.2.2.1.2.2.2.1 rfl ?_
      exact j_iret 26 rfl rfl rfl
    refine jc_ite (fun h6 => ?_) (fun h6 => ?_)
    · refine j_tsIn 11 rfl h6 ⟨by decide, by decide⟩ rfl rfl ?_
      refine j_run 27 1 rfl ?_
      refine j_gr 28 20 rfl rfl hp0.2.1.2.2.2.1.1 rfl ?_
      refine j_run 29 1 rfl ?_
      refine j_ald 30 rfl hp0.2.1.2.2.2.1.2.2.2.2.1 rfl ?_
      exact j_iret 31 rfl rfl rfl
    refine jc_ite (fun h7 => ?_) (fun h7 => ?_)
    · refine j_tsIn 11 rfl h7 ⟨by decide, by decide⟩ rfl rfl ?_
      refine j_run 32 1 rfl ?_
      refine j_gr 33 11 rfl rfl hp0.2.1.2.2.2.1.1 rfl ?_
      refine j_run 34 1 rfl ?_
      refine j_ald 35 rfl hp0.2.1.2.2.2.1.2.2.2.2.2.1 rfl ?_
      exact j_iret 36 rfl rfl rfl
    refine jc_ite (fun h8 => ?_) (fun h8 => ?_)
    · refine j_tsIn 11 rfl h8 ⟨by decide, by decide⟩ rfl rfl ?_
      refine j_run 37 1 rfl ?_
      refine j_gr 38 21 rfl rfl hp0.2.1.2.2.2.1.1 rfl ?_
      refine j_run 39 1 rfl ?_
      refine j_ald 40 rfl hp0.2.1.2.2.2.1.2.2.2.2.2.2 rfl ?_
      exact j_iret 41 rfl rfl rfl
    refine j_tsOut 11 rfl (by omega) rfl ?_
    refine j_run 42 1 rfl ?_
    exact j_iret 43 rfl rfl rfl
abbrev jX10_match (X : Cx) (ads : List Nat) (sk : List Sk) (ps : PS) (res : Option (Int × Sg)) : Prop := J X mX10_match pX10_match tbX10 (rmD 5 0 0) 0 0 E0 (fun a => FM X mX10_match ads sk (wE a)) ads sk ps res
theorem eX10_match {X : Cx} {ads : List Nat} {sk : List Sk} (hA : ads.length = sk.length ∧ sk.length ≤ 1000) {kp : Option Nat} (hp0 : ocS sk kp) (x1 : Int) (x2 : Int) (x3 : Int) (σ : Sg) : CF X mX10_match ads sk [.inr (some 0), .inl x1, .inl x2, .inl x3] σ wE (fX10_match x1 x2 x3 σ) := by
  refine CF.of ⟨pX10_match_ok, tbX10_ok, hA.1, hA.2⟩ (plainFor_of_name plX10) (Nat.le_of_ble_eq_true rfl) ?_
  show jX10_match X ads sk (0, [some (.inr (some 0)), some (.inl x1), some (.inl x2), some (.inl x3)], [], σ) (fX10_match x1 x2 x3 σ)
  unfold fX10_match
  refine j_run 0 1 rfl ?_
  refine j_gr 1 0 rfl rfl hp0.1 rfl ?_
  refine j_gr 2 4 rfl rfl hp0.2.1.1 rfl ?_
  refine j_run 3 2 rfl ?_
  refine j_cvT 5 9 2 rfl rfl mwX1_areTwo hp0.2.1.2.2.2.1.1 rfl rfl (eX1_areTwo hA hp0.2.1.2.2.2.1 x1 x2 _) rfl rfl (rok rfl rfl) (Nat.le_of_ble_eq_true rfl) (fun h1 => ?_)
  refine jc_if_ne 6 rfl rfl (fun h2 => ?_) (fun h2 => ?_)
  · refine j_run 7 1 rfl ?_
    exact j_iret 8 rfl rfl rfl
  · refine j_run 9 1 rfl ?_
    refine jc_if_eq 10 rfl rfl (fun h3 => ?_) (fun h3 => ?_)
    · refine j_run 17 1 rfl ?_
      refine j_gr 18 0 rfl rfl hp0.1 rfl ?_
      refine j_run 19 2 rfl ?_
      refine j_cv 21 20 2 rfl rfl mwX9_matchOf hp0.2.1.1 rfl rfl (eX9_matchOf hA hp0.2.1 x1 x2 _) rfl rfl (rok rfl rfl) (Nat.le_of_ble_eq_true rfl) (fun q4 _ h4 => ?_)
      exact j_iret 22 rfl rfl rfl
    · refine j_run 11 1 rfl ?_
      refine j_gr 12 0 rfl rfl hp0.1 rfl ?_
      refine j_run 13 2 rfl ?_
      refine j_cv 15 21 2 rfl rfl mwX9_foundOf hp0.2.1.1 rfl rfl (eX9_foundOf hA hp0.2.1 x1 x2 _) rfl rfl (rok rfl rfl) (Nat.le_of_ble_eq_true rfl) (fun q5 _ h5 => ?_)
      refine j_goto 16 rfl rfl ?_
      exact j_iret 22 rfl rfl rfl
abbrev jX10_at (X : Cx) (ads : List Nat) (sk : List Sk) (ps : PS) (res : Option (Int × Sg)) : Prop := J X mX10_at pX10_at tbX10 (rmD 4 0 0) 0 0 E0 (fun a => FM X mX10_at ads sk (wE a)) ads sk ps res
theorem eX10_at {X : Cx} {ads : List Nat} {sk : List Sk} (hA : ads.length = sk.length ∧ sk.length ≤ 1000) {kp : Option Nat} (hp0 : ocS sk kp) (x1 : Int) (x2 : Int) (σ : Sg) : CF X mX10_at ads sk [.inr (some 0), .inl x1, .inl x2] σ wE (fX10_at x1 x2 σ) := by
  refine CF.of ⟨pX10_at_ok, tbX10_ok, hA.1, hA.2⟩ (plainFor_of_name plX10) (Nat.le_of_ble_eq_true rfl) ?_
  show jX10_at X ads sk (0, [some (.inr (some 0)), some (.inl x1), some (.inl x2)], [], σ) (fX10_at x1 x2 σ)
  unfold fX10_at
  refine j_run 0 1 rfl ?_
  refine j_gr 1 0 rfl rfl hp0.1 rfl ?_
  refine j_run 2 1 rfl ?_
  refine j_cvT 3 4 1 rfl rfl mwX9_hasField hp0.2.1.1 rfl rfl (eX9_hasField hA hp0.2.1 x1 _) rfl rfl (rok rfl rfl) (Nat.le_of_ble_eq_true rfl) (fun h1 => ?_)
  refine jc_if_ne 4 rfl rfl (fun h2 => ?_) (fun h2 => ?_)
  · refine j_run 5 1 rfl ?_
    exact j_iret 6 rfl rfl rfl
  · refine j_run 7 1 rfl ?_
    refine jc_if_ne 8 rfl rfl (fun h3 => ?_) (fun h3 => ?_)
    · refine j_run 9 1 rfl ?_
      refine j_gr 10 0 rfl rfl hp0.1 rfl ?_
      refine j_gr 11 10 rfl rfl hp0.2.1.1 rfl ?_
      refine j_run 12 1 rfl ?_
      refine j_ald 13 rfl hp0.2.1.2.1 rfl ?_
      exact j_iret 14 rfl rfl rfl
    · refine j_run 15 2 rfl ?_
      refine jc_icmp_ne 17 rfl rfl (fun h4 => ?_) (fun h4 => ?_)
      · refine j_run 18 1 rfl ?_
        refine j_gr 19 0 rfl rfl hp0.1 rfl ?_
        refine j_run 20 1 rfl ?_
        refine j_gr 21 0 rfl rfl hp0.1 rfl ?_
        refine j_gr 22 10 rfl rfl hp0.2.1.1 rfl ?_
        refine j_run 23 1 rfl ?_
        refine j_ald 24 rfl hp0.2.1.2.1 rfl ?_
        refine j_cv 25 22 1 rfl rfl mwX9_meltOf hp0.2.1.1 rfl rfl (eX9_meltOf hA hp0.2.1 (rd σ 2 x1) _) rfl rfl (rok rfl rfl) (Nat.le_of_ble_eq_true rfl) (fun q5 _ h5 => ?_)
        refine j_goto 26 rfl rfl ?_
        exact j_iret 28 rfl rfl rfl
      · refine j_run 27 1 rfl ?_
        exact j_iret 28 rfl rfl rfl
abbrev jX10_lift (X : Cx) (ads : List Nat) (sk : List Sk) (ps : PS) (res : Option (Int × Sg)) : Prop := J X mX10_lift pX10_lift tbX10 (rmD 5 0 0) 0 0 E0 (fun a => FM X mX10_lift ads sk (wE a)) ads sk ps res
theorem eX10_lift {X : Cx} {ads : List Nat} {sk : List Sk} (hA : ads.length = sk.length ∧ sk.length ≤ 1000) {kp : Option Nat} (hp0 : ocS sk kp) (x1 : Int) (x2 : Int) (x3 : Int) (x4 : Int) (σ : Sg) : CF X mX10_lift ads sk [.inr (some 0), .inl x1, .inl x2, .inl x3, .inl x4] σ wE (fX10_lift x1 x2 x3 x4 σ) := by
  refine CF.of ⟨pX10_lift_ok, tbX10_ok, hA.1, hA.2⟩ (plainFor_of_name plX10) (Nat.le_of_ble_eq_true rfl) ?_
  show jX10_lift X ads sk (0, [some (.inr (some 0)), some (.inl x1), some (.inl x2), some (.inl x3), some (.inl x4)], [], σ) (fX10_lift x1 x2 x3 x4 σ)
  unfold fX10_lift
  refine j_run 0 1 rfl ?_
  refine j_gr 1 0 rfl rfl hp0.1 rfl ?_
  refine j_gr 2 4 rfl rfl hp0.2.1.1 rfl ?_
  refine j_run 3 2 rfl ?_
  refine j_cvT 5 9 2 rfl rfl mwX1_areTwo hp0.2.1.2.2.2.1.1 rfl rfl (eX1_areTwo hA hp0.2.1.2.2.2.1 x1 x2 _) rfl rfl (rok rfl rfl) (Nat.le_of_ble_eq_true rfl) (fun h1 => ?_)
  refine jc_if_eq 6 rfl rfl (fun h2 => ?_) (fun h2 => ?_)
  · refine j_run 17 1 rfl ?_
    exact j_iret 18 rfl rfl rfl
  · refine j_run 7 1 rfl ?_
    refine j_gr 8 0 rfl rfl hp0.1 rfl ?_
    refine j_run 9 1 rfl ?_
    refine j_cvT 10 4 1 rfl rfl mwX9_hasField hp0.2.1.1 rfl rfl (eX9_hasField hA hp0.2.1 x3 _) rfl rfl (rok rfl rfl) (Nat.le_of_ble_eq_true rfl) (fun h3 => ?_)
    refine jc_if_eq 11 rfl rfl (fun h4 => ?_) (fun h4 => ?_)
    · refine j_run 17 1 rfl ?_
      exact j_iret 18 rfl rfl rfl
    · refine j_run 12 1 rfl ?_
      refine j_gr 13 0 rfl rfl hp0.1 rfl ?_
      refine j_run 14 1 rfl ?_
      refine j_cvT 15 4 1 rfl rfl mwX9_hasField hp0.2.1.1 rfl rfl (eX9_hasField hA hp0.2.1 x4 _) rfl rfl (rok rfl rfl) (Nat.le_of_ble_eq_true rfl) (fun h5 => ?_)
      refine jc_if_ne 16 rfl rfl (fun h6 => ?_) (fun h6 => ?_)
      · refine j_run 17 1 rfl ?_
        exact j_iret 18 rfl rfl rfl
      · refine j_run 19 1 rfl ?_
        refine j_gr 20 0 rfl rfl hp0.1 rfl ?_
        refine j_run 21 3 rfl ?_
        refine j_gr 24 0 rfl rfl hp0.1 rfl ?_
        refine j_run 25 2 rfl ?_
        refine j_cv 27 21 2 rfl rfl mwX9_foundOf hp0.2.1.1 rfl rfl (eX9_foundOf hA hp0.2.1 x1 x2 _) rfl rfl (rok rfl rfl) (Nat.le_of_ble_eq_true rfl) (fun q7 _ h7 => ?_)
        refine j_run 28 2 rfl ?_
        refine j_csT 30 23 2 rfl rfl mwX10_steps (eX10_steps hA x3 x4 _) rfl rfl (rok rfl rfl) (Nat.le_of_ble_eq_true rfl) (fun h8 => ?_)
        refine j_run 31 1 rfl ?_
        refine j_gr 32 0 rfl rfl hp0.1 rfl ?_
        refine j_gr 33 10 rfl rfl hp0.2.1.1 rfl ?_
        refine j_run 34 1 rfl ?_
        refine j_ald 35 rfl hp0.2.1.2.1 rfl ?_
        refine j_cv 36 24 5 rfl rfl mwX9_liftOf hp0.2.1.1 rfl rfl (eX9_liftOf hA hp0.2.1 x1 x2 q7.1 (fX10_steps x3 x4) (rd q7.2 2 x4) _) rfl rfl (rok rfl rfl) (Nat.le_of_ble_eq_true rfl) (fun q9 _ h9 => ?_)
        exact j_iret 37 rfl rfl rfl
abbrev jX10_weather (X : Cx) (ads : List Nat) (sk : List Sk) (σ : Sg) (ps : PS) (res : Option (Int)) : Prop := J X mX10_weather pX10_weather tbX10 (rmD 2 0 0) 0 0 E0 (fun a => FM X mX10_weather ads sk ((wP σ) a)) ads sk ps res
theorem eX10_weather {X : Cx} {ads : List Nat} {sk : List Sk} (hA : ads.length = sk.length ∧ sk.length ≤ 1000) {kp : Option Nat} (hp0 : ocS sk kp) (x1 : Int) (σ : Sg) : CF X mX10_weather ads sk [.inr (some 0), .inl x1] σ (wP σ) (fX10_weather x1 σ) := by
  refine CF.of ⟨pX10_weather_ok, tbX10_ok, hA.1, hA.2⟩ (plainFor_of_name plX10) (Nat.le_of_ble_eq_true rfl) ?_
  show jX10_weather X ads sk σ (0, [some (.inr (some 0)), some (.inl x1)], [], σ) (fX10_weather x1 σ)
  unfold fX10_weather
  refine j_run 0 2 rfl ?_
  refine j_csT 2 3 2 rfl rfl mwX10_within (eX10_within hA x1 9999 _) rfl rfl (rok rfl rfl) (Nat.le_of_ble_eq_true rfl) (fun h1 => ?_)
  refine jc_if_eq 3 rfl rfl (fun h2 => ?_) (fun h2 => ?_)
  · refine j_run 9 1 rfl ?_
    exact j_iret 10 rfl rfl rfl
  · refine j_run 4 1 rfl ?_
    refine j_gr 5 0 rfl rfl hp0.1 rfl ?_
    refine j_run 6 1 rfl ?_
    refine j_cv 7 25 1 rfl rfl mwX9_weatherOf hp0.2.1.1 rfl rfl (eX9_weatherOf hA hp0.2.1 x1 _) rfl rfl (rok rfl rfl) (Nat.le_of_ble_eq_true rfl) (fun r3 _ h3 => ?_)
    refine j_goto 8 rfl rfl ?_
    exact j_iret 10 rfl rfl rfl
abbrev jX10_book (X : Cx) (ads : List Nat) (sk : List Sk) (σ : Sg) (ps : PS) (res : Option (Int)) : Prop := J X mX10_book pX10_book tbX10 (rmD 1 0 0) 0 0 E0 (fun a => FM X mX10_book ads sk ((wP σ) a)) ads sk ps res
theorem eX10_book {X : Cx} {ads : List Nat} {sk : List Sk} (hA : ads.length = sk.length ∧ sk.length ≤ 1000) {kp : Option Nat} (hp0 : ocS sk kp) (x1 : Int) (x2 : Int) (σ : Sg) : CF X mX10_book ads sk [.inr (some 0), .inl x1, .inl x2] σ (wP σ) (fX10_book x1 x2 σ) := by
  refine CF.of ⟨pX10_book_ok, tbX10_ok, hA.1, hA.2⟩ (plainFor_of_name plX10) (Nat.le_of_ble_eq_true rfl) ?_
  show jX10_book X ads sk σ (0, [some (.inr (some 0)), some (.inl x1), some (.inl x2)], [], σ) (fX10_book x1 x2 σ)
  unfold fX10_book
  refine j_run 0 1 rfl ?_
  refine jc_if_lt 1 rfl rfl (fun h1 => ?_) (fun h1 => ?_)
  · refine j_run 13 1 rfl ?_
    exact j_iret 14 rfl rfl rfl
  · refine j_run 2 2 rfl ?_
    refine j_gr 4 0 rfl rfl hp0.1 rfl ?_
    refine j_gr 5 22 rfl rfl hp0.2.1.1 rfl ?_
    refine j_gf 6 23 rfl rfl hp0.2.1.2.2.2.2.2.2.2.2.2.1 rfl ?_
    refine jc_icmp_ge 7 rfl rfl (fun h2 => ?_) (fun h2 => ?_)
    · refine j_run 8 1 rfl ?_
      refine jc_if_lt 9 rfl rfl (fun h3 => ?_) (fun h3 => ?_)
      · refine j_run 13 1 rfl ?_
        exact j_iret 14 rfl rfl rfl
      · refine j_run 10 2 rfl ?_
        refine jc_icmp_le 12 rfl rfl (fun h4 => ?_) (fun h4 => ?_)
        · refine j_run 13 1 rfl ?_
          exact j_iret 14 rfl rfl rfl
        · refine j_run 15 1 rfl ?_
          refine j_gr 16 0 rfl rfl hp0.1 rfl ?_
          refine j_gr 17 22 rfl rfl hp0.2.1.1 rfl ?_
          refine j_run 18 2 rfl ?_
          refine j_cv 20 26 2 rfl rfl mwX6_cell hp0.2.1.2.2.2.2.2.2.2.2.2.1 rfl rfl (eX6_cell hA hp0.2.1.2.2.2.2.2.2.2.2.2 x1 x2 _) rfl rfl (rok rfl rfl) (Nat.le_of_ble_eq_true rfl) (fun r5 _ h5 => ?_)
          exact j_iret 21 rfl rfl rfl
    · refine j_run 13 1 rfl ?_
      exact j_iret 14 rfl rfl rfl
abbrev jX10_beginThought (X : Cx) (ads : List Nat) (sk : List Sk) (ps : PS) (res : Option (Sg)) : Prop := J X mX10_beginThought pX10_beginThought tbX10 (rmD 3 0 0) 0 0 E0 (fun a => FM X mX10_beginThought ads sk (wV a)) ads sk ps res
theorem eX10_beginThought {X : Cx} {ads : List Nat} {sk : List Sk} (hA : ads.length = sk.length ∧ sk.length ≤ 1000) {kp : Option Nat} (hp0 : ocS sk kp) (σ : Sg) : CF X mX10_beginThought ads sk [.inr (some 0)] σ wV (fX10_beginThought σ) := by
  refine CF.of ⟨pX10_beginThought_ok, tbX10_ok, hA.1, hA.2⟩ (plainFor_of_name plX10) (Nat.le_of_ble_eq_true rfl) ?_
  show jX10_beginThought X ads sk (0, [some (.inr (some 0))], [], σ) (fX10_beginThought σ)
  unfold fX10_beginThought
  refine j_run 0 1 rfl ?_
  refine j_gr 1 18 rfl rfl hp0.1 rfl ?_
  refine j_run 2 1 rfl ?_
  refine j_gr 3 0 rfl rfl hp0.1 rfl ?_
  refine j_cv 4 27 1 rfl rfl mwX9_copy hp0.2.2.1.1 rfl rfl (eX9_copy hA hp0.2.2.1 hp0.2.1 _) rfl rfl (rok rfl rfl) (Nat.le_of_ble_eq_true rfl) (fun s1 _ h1 => ?_)
  refine j_run 5 1 rfl ?_
  refine j_gr 6 18 rfl rfl hp0.1 rfl ?_
  refine j_run 7 1 rfl ?_
  refine j_pf 8 5 rfl rfl hp0.2.2.1.1 rfl rfl (Or.inl rfl) ?_
  exact j_vret 9 rfl rfl rfl
abbrev jX10_lies (X : Cx) (ads : List Nat) (sk : List Sk) (ps : PS) (res : Option (Int × Sg)) : Prop := J X mX10_lies pX10_lies tbX10 (rmD 7 0 0) 0 0 E0 (fun a => FM X mX10_lies ads sk (wE a)) ads sk ps res
theorem JX10_lies_L28 {X : Cx} {ads : List Nat} {sk : List Sk} (hA : ads.length = sk.length ∧ sk.length ≤ 1000) {kp : Option Nat} (hp0 : ocS sk kp) (x1 : Int) (x2 : Int) : ∀ (n : Nat) (x3 : Int) (σ : Sg), jX10_lies X ads sk (28, [some (.inr (some 0)), some (.inl x1), some (.inl x2), some (.inl x3)], [], σ) (fX10_lies_L28 x1 x2 n x3 σ) := by
  intro n
  induction n with
  | zero => intro x3 σ; exact j_none
  | succ n ih =>
    intro x3 σ
    rw [fX10_lies_L28]
    refine j_run 15 2 rfl ?_
    refine jc_icmp_ge 17 rfl rfl (fun h6 => ?_) (fun h6 => ?_)
    · refine j_run 18 1 rfl ?_
      refine j_gr 19 18 rfl rfl hp0.1 rfl ?_
      refine j_cv 20 15 0 rfl rfl mwX9_passDay hp0.2.2.1.1 rfl rfl (eX9_passDay hA hp0.2.2.1 _) rfl rfl (rok rfl rfl) (Nat.le_of_ble_eq_true rfl) (fun q7 _ h7 => ?_)
      refine j_run 21 2 rfl ?_
      refine j_goto 23 rfl rfl ?_
      exact j_weak (leP_s (leP_s (leP_s (leP_s (leP_z))))) (ih (bw (x3 + 1)) _)
    · refine j_run 24 1 rfl ?_
      refine j_gr 25 18 rfl rfl hp0.1 rfl ?_
      refine j_gr 26 10 rfl rfl hp0.2.2.1.1 rfl ?_
      refine j_run 27 1 rfl ?_
      refine j_ald 28 rfl hp0.2.2.1.2.1 rfl ?_
      exact j_iret 29 rfl rfl rfl
theorem eX10_lies {X : Cx} {ads : List Nat} {sk : List Sk} (hA : ads.length = sk.length ∧ sk.length ≤ 1000) {kp : Option Nat} (hp0 : ocS sk kp) (x1 : Int) (x2 : Int) (σ : Sg) : CF X mX10_lies ads sk [.inr (some 0), .inl x1, .inl x2] σ wE (fX10_lies x1 x2 σ) := by
  refine CF.of ⟨pX10_lies_ok, tbX10_ok, hA.1, hA.2⟩ (plainFor_of_name plX10) (Nat.le_of_ble_eq_true rfl) ?_
  show jX10_lies X ads sk (0, [some (.inr (some 0)), some (.inl x1), some (.inl x2), none], [], σ) (fX10_lies x1 x2 σ)
  unfold fX10_lies
  refine j_run 0 1 rfl ?_
  refine j_gr 1 0 rfl rfl hp0.1 rfl ?_
  refine j_run 2 1 rfl ?_
  refine j_cvT 3 4 1 rfl rfl mwX9_hasField hp0.2.1.1 rfl rfl (eX9_hasField hA hp0.2.1 x1 _) rfl rfl (rok rfl rfl) (Nat.le_of_ble_eq_true rfl) (fun h1 => ?_)
  refine jc_if_eq 4 rfl rfl (fun h2 => ?_) (fun h2 => ?_)
  · refine j_run 9 1 rfl ?_
    exact j_iret 10 rfl rfl rfl
  · refine j_run 5 2 rfl ?_
    refine j_csT 7 3 2 rfl rfl mwX10_within (eX10_within hA x2 60 _) rfl rfl (rok rfl rfl) (Nat.le_of_ble_eq_true rfl) (fun h3 => ?_)
    refine jc_if_ne 8 rfl rfl (fun h4 => ?_) (fun h4 => ?_)
    · refine j_run 9 1 rfl ?_
      exact j_iret 10 rfl rfl rfl
    · refine j_run 11 1 rfl ?_
      refine j_cv 12 28 0 rfl rfl mwX10_beginThought hp0.1 rfl rfl (eX10_beginThought hA hp0 _) rfl rfl (rok rfl rfl) (Nat.le_of_ble_eq_true rfl) (fun s5 _ h5 => ?_)
      refine j_run 13 2 rfl ?_
      exact j_weak (leP_s (leP_s (leP_s (leP_s (leP_z))))) (JX10_lies_L28 hA hp0 x1 x2 FU 0 _)
abbrev jX10_meets (X : Cx) (ads : List Nat) (sk : List Sk) (ps : PS) (res : Option (Int × Sg)) : Prop := J X mX10_meets pX10_meets tbX10 (rmD 7 0 0) 0 0 E0 (fun a => FM X mX10_meets ads sk (wE a)) ads sk ps res
theorem JX10_meets_J90 {X : Cx} {ads : List Nat} {sk : List Sk} (hA : ads.length = sk.length ∧ sk.length ≤ 1000) {kp : Option Nat} (hp0 : ocS sk kp) (x1 : Int) (x2 : Int) (x3 : Int) (x4 : Int) (k51 : Int → Int → Sg → Option (Int × Sg)) (hk51 : ∀ (x3 : Int) (x4 : Int) (σ : Sg), jX10_meets X ads sk (51, [some (.inr (some 0)), some (.inl x1), some (.inl x2), some (.inl x3), some (.inl x4), none], [], σ) (k51 x3 x4 σ)) (σ : Sg) : jX10_meets X ads sk (90, [some (.inr (some 0)), some (.inl x1), some (.inl x2), some (.inl x3), some (.inl x4), none], [], σ) (fX10_meets_J90 k51 x1 x2 x3 x4 σ) := by
  unfold fX10_meets_J90
  refine j_run 48 2 rfl ?_
  refine j_gr 50 18 rfl rfl hp0.1 rfl ?_
  refine j_run 51 1 rfl ?_
  refine j_cv 52 32 1 rfl rfl mwX9_worthMet hp0.2.2.1.1 rfl rfl (eX9_worthMet hA hp0.2.2.1 x4 _) rfl rfl (rok rfl rfl) (Nat.le_of_ble_eq_true rfl) (fun r8 _ h8 => ?_)
  refine j_run 53 3 rfl ?_
  refine j_goto 56 rfl rfl ?_
  exact j_weak (leP_s (leP_s (leP_s (leP_s (leP_s (leP_n (leP_z))))))) (hk51 (bw (x3 + r8)) (bw (x4 + 1)) _)
theorem JX10_meets_L51 {X : Cx} {ads : List Nat} {sk : List Sk} (hA : ads.length = sk.length ∧ sk.length ≤ 1000) {kp : Option Nat} (hp0 : ocS sk kp) (x1 : Int) (x2 : Int) (k108 : Int → Sg → Option (Int × Sg)) (hk108 : ∀ (x3 : Int) (σ : Sg), jX10_meets X ads sk (108, [none, some (.inl x1), none, some (.inl x3), none, none], [], σ) (k108 x3 σ)) : ∀ (n : Nat) (x3 : Int) (x4 : Int) (σ : Sg), jX10_meets X ads sk (51, [some (.inr (some 0)), some (.inl x1), some (.inl x2), some (.inl x3), some (.inl x4), none], [], σ) (fX10_meets_L51 k108 x1 x2 n x3 x4 σ) := by
  intro n
  induction n with
  | zero => intro x3 x4 σ; exact j_none
  | succ n ih =>
    intro x3 x4 σ
    rw [fX10_meets_L51]
    refine j_run 28 2 rfl ?_
    refine jc_icmp_gt 30 rfl rfl (fun h5 => ?_) (fun h5 => ?_)
    · exact j_weak (leP_n (leP_s (leP_n (leP_s (leP_n (leP_n (leP_z))))))) (hk108 x3 _)
    · refine j_run 31 1 rfl ?_
      refine j_gr 32 18 rfl rfl hp0.1 rfl ?_
      refine j_cv 33 15 0 rfl rfl mwX9_passDay hp0.2.2.1.1 rfl rfl (eX9_passDay hA hp0.2.2.1 _) rfl rfl (rok rfl rfl) (Nat.le_of_ble_eq_true rfl) (fun q6 _ h6 => ?_)
      refine j_run 34 2 rfl ?_
      refine j_gr 36 18 rfl rfl hp0.1 rfl ?_
      refine j_run 37 1 rfl ?_
      refine j_cv 38 31 1 rfl rfl mwX9_unmetWant hp0.2.2.1.1 rfl rfl (eX9_unmetWant hA hp0.2.2.1 x4 _) rfl rfl (rok rfl rfl) (Nat.le_of_ble_eq_true rfl) (fun r7 _ h7 => ?_)
      refine j_run 39 3 rfl ?_
      refine jc_icmp_ne 42 rfl rfl (fun h9 => ?_) (fun h9 => ?_)
      · refine j_run 43 2 rfl ?_
        refine jc_icmp_eq 45 rfl rfl (fun h10 => ?_) (fun h10 => ?_)
        · exact j_weak (leP_s (leP_s (leP_s (leP_s (leP_s (leP_n (leP_z))))))) (JX10_meets_J90 hA hp0 x1 x2 x3 x4 _ ih _)
        · refine j_run 46 1 rfl ?_
          exact j_iret 47 rfl rfl rfl
      · exact j_weak (leP_s (leP_s (leP_s (leP_s (leP_s (leP_n (leP_z))))))) (JX10_meets_J90 hA hp0 x1 x2 x3 x4 _ ih _)
theorem JX10_meets_J24 {X : Cx} {ads : List Nat} {sk : List Sk} (hA : ads.length = sk.length ∧ sk.length ≤ 1000) {kp : Option Nat} (hp0 : ocS sk kp) (x1 : Int) (σ : Sg) : jX10_meets X ads sk (24, [some (.inr (some 0)), some (.inl x1), none, none, none, none], [], σ) (fX10_meets_J24 x1 σ) := by
  unfold fX10_meets_J24
  refine j_run 14 1 rfl ?_
  refine j_cv 15 28 0 rfl rfl mwX10_beginThought hp0.1 rfl rfl (eX10_beginThought hA hp0 _) rfl rfl (rok rfl rfl) (Nat.le_of_ble_eq_true rfl) (fun s3 _ h3 => ?_)
  refine j_run 16 1 rfl ?_
  refine j_gr 17 0 rfl rfl hp0.1 rfl ?_
  refine j_gr 18 24 rfl rfl hp0.2.1.1 rfl ?_
  refine j_run 19 1 rfl ?_
  refine j_cv 20 30 1 rfl rfl mwX6_greatest hp0.2.1.2.2.2.2.2.2.2.1.1 rfl rfl (eX6_greatest hA hp0.2.1.2.2.2.2.2.2.2.1 1 _) rfl rfl (rok rfl rfl) (Nat.le_of_ble_eq_true rfl) (fun r4 _ h4 => ?_)
  refine j_run 21 4 rfl ?_
  refine j_gr 25 0 rfl rfl hp0.1 rfl ?_
  refine j_gf 26 12 rfl rfl hp0.2.1.1 rfl ?_
  refine j_run 27 1 rfl ?_
  refine j_weak (leP_s (leP_s (leP_s (leP_s (leP_s (leP_n (leP_z))))))) (JX10_meets_L51 hA hp0 x1 r4 _ (fun v11_3 s11 => ?_) FU 0 (rd s3 1 6) _)
  refine j_run 57 1 rfl ?_
  refine jc_if_ne 58 rfl rfl (fun h12 => ?_) (fun h12 => ?_)
  · refine j_run 59 1 rfl ?_
    refine j_goto 60 rfl rfl ?_
    exact j_iret 62 rfl rfl rfl
  · refine j_run 61 1 rfl ?_
    exact j_iret 62 rfl rfl rfl
theorem eX10_meets {X : Cx} {ads : List Nat} {sk : List Sk} (hA : ads.length = sk.length ∧ sk.length ≤ 1000) {kp : Option Nat} (hp0 : ocS sk kp) (x1 : Int) (σ : Sg) : CF X mX10_meets ads sk [.inr (some 0), .inl x1] σ wE (fX10_meets x1 σ) := by
  refine CF.of ⟨pX10_meets_ok, tbX10_ok, hA.1, hA.2⟩ (plainFor_of_name plX10) (Nat.le_of_ble_eq_true rfl) ?_
  show jX10_meets X ads sk (0, [some (.inr (some 0)), some (.inl x1), none, none, none, none], [], σ) (fX10_meets x1 σ)
  unfold fX10_meets
  refine j_run 0 2 rfl ?_
  refine jc_icmp_ne 2 rfl rfl (fun h1 => ?_) (fun h1 => ?_)
  · refine j_run 3 1 rfl ?_
    refine j_gr 4 0 rfl rfl hp0.1 rfl ?_
    refine j_cv 5 29 0 rfl rfl mwX9_firstVoid hp0.2.1.1 rfl rfl (eX9_firstVoid hA hp0.2.1 _) rfl rfl (rok rfl rfl) (Nat.le_of_ble_eq_true rfl) (fun r2 _ h2 => ?_)
    exact j_iret 6 rfl rfl rfl
  · refine j_run 7 1 rfl ?_
    refine jc_if_eq 8 rfl rfl (fun h13 => ?_) (fun h13 => ?_)
    · exact j_weak (leP_s (leP_s (leP_n (leP_n (leP_n (leP_n (leP_z))))))) (JX10_meets_J24 hA hp0 x1 _)
    · refine j_run 9 2 rfl ?_
      refine jc_icmp_eq 11 rfl rfl (fun h14 => ?_) (fun h14 => ?_)
      · exact j_weak (leP_s (leP_s (leP_n (leP_n (leP_n (leP_n (leP_z))))))) (JX10_meets_J24 hA hp0 x1 _)
      · refine j_run 12 1 rfl ?_
        exact j_iret 13 rfl rfl rfl
abbrev jX10_stable (X : Cx) (ads : List Nat) (sk : List Sk) (ps : PS) (res : Option (Int × Sg)) : Prop := J X mX10_stable pX10_stable tbX10 (rmD 6 0 0) 0 0 E0 (fun a => FM X mX10_stable ads sk (wE a)) ads sk ps res
theorem eX10_stable {X : Cx} {ads : List Nat} {sk : List Sk} (hA : ads.length = sk.length ∧ sk.length ≤ 1000) {kp : Option Nat} (hp0 : ocS sk kp) (x1 : Int) (σ : Sg) : CF X mX10_stable ads sk [.inr (some 0), .inl x1] σ wE (fX10_stable x1 σ) := by
  refine CF.of ⟨pX10_stable_ok, tbX10_ok, hA.1, hA.2⟩ (plainFor_of_name plX10) (Nat.le_of_ble_eq_true rfl) ?_
  show jX10_stable X ads sk (0, [some (.inr (some 0)), some (.inl x1)], [], σ) (fX10_stable x1 σ)
  unfold fX10_stable
  refine j_run 0 1 rfl ?_
  refine j_gr 1 0 rfl rfl hp0.1 rfl ?_
  refine j_gr 2 4 rfl rfl hp0.2.1.1 rfl ?_
  refine j_run 3 1 rfl ?_
  refine j_cv 4 33 1 rfl rfl mwX1_isFree hp0.2.1.2.2.2.1.1 rfl rfl (eX1_isFree hA hp0.2.1.2.2.2.1 x1 _) rfl rfl (rok rfl rfl) (Nat.le_of_ble_eq_true rfl) (fun r1 _ h1 => ?_)
  refine jc_if_ne 5 rfl rfl (fun h2 => ?_) (fun h2 => ?_)
  · refine j_run 6 1 rfl ?_
    exact j_iret 7 rfl rfl rfl
  · refine j_run 8 1 rfl ?_
    refine j_gr 9 25 rfl rfl hp0.1 rfl ?_
    refine j_run 10 1 rfl ?_
    refine j_gr 11 0 rfl rfl hp0.1 rfl ?_
    refine j_cv 12 34 1 rfl rfl mwX0_settle hp0.2.2.2.2.2.2.1.1 rfl rfl (eX0_settle hA hp0.2.2.2.2.2.2.1 hp0.2.1 _) rfl rfl (rok rfl rfl) (Nat.le_of_ble_eq_true rfl) (fun s3 _ h3 => ?_)
    refine j_run 13 1 rfl ?_
    refine j_gr 14 25 rfl rfl hp0.1 rfl ?_
    refine j_gr 15 26 rfl rfl hp0.2.2.2.2.2.2.1.1 rfl ?_
    refine j_run 16 1 rfl ?_
    refine j_ald 17 rfl hp0.2.2.2.2.2.2.1.2.1 rfl ?_
    exact j_iret 18 rfl rfl rfl
abbrev jX10_best (X : Cx) (ads : List Nat) (sk : List Sk) (ps : PS) (res : Option (Int × Sg)) : Prop := J X mX10_best pX10_best tbX10 (rmD 6 0 0) 0 0 E0 (fun a => FM X mX10_best ads sk (wE a)) ads sk ps res
theorem JX10_best_J30 {X : Cx} {ads : List Nat} {sk : List Sk} (hA : ads.length = sk.length ∧ sk.length ≤ 1000) {kp : Option Nat} (hp0 : ocS sk kp) (y0 : Int) (σ : Sg) : jX10_best X ads sk (30, [some (.inr (some 0)), none, none], [.inl y0], σ) (fX10_best_J30 y0 σ) := by
  unfold fX10_best_J30
  refine j_run 16 2 rfl ?_
  refine j_gr 18 0 rfl rfl hp0.1 rfl ?_
  refine j_gr 19 4 rfl rfl hp0.2.1.1 rfl ?_
  refine j_run 20 1 rfl ?_
  refine j_cv 21 33 1 rfl rfl mwX1_isFree hp0.2.1.2.2.2.1.1 rfl rfl (eX1_isFree hA hp0.2.1.2.2.2.1 y0 _) rfl rfl (rok rfl rfl) (Nat.le_of_ble_eq_true rfl) (fun r3 _ h3 => ?_)
  refine jc_if_ne 22 rfl rfl (fun h4 => ?_) (fun h4 => ?_)
  · refine j_run 23 1 rfl ?_
    exact j_iret 24 rfl rfl rfl
  · refine j_run 25 1 rfl ?_
    refine j_gr 26 25 rfl rfl hp0.1 rfl ?_
    refine j_run 27 1 rfl ?_
    refine j_gr 28 0 rfl rfl hp0.1 rfl ?_
    refine j_cv 29 35 1 rfl rfl mwX0_pair hp0.2.2.2.2.2.2.1.1 rfl rfl (eX0_pair hA hp0.2.2.2.2.2.2.1 hp0.2.1 _) rfl rfl (rok rfl rfl) (Nat.le_of_ble_eq_true rfl) (fun q5 _ h5 => ?_)
    refine j_run 30 2 rfl ?_
    refine j_gr 32 25 rfl rfl hp0.1 rfl ?_
    refine j_gr 33 26 rfl rfl hp0.2.2.2.2.2.2.1.1 rfl ?_
    refine j_run 34 1 rfl ?_
    refine j_ald 35 rfl hp0.2.2.2.2.2.2.1.2.1 rfl ?_
    exact j_iret 36 rfl rfl rfl
theorem eX10_best {X : Cx} {ads : List Nat} {sk : List Sk} (hA : ads.length = sk.length ∧ sk.length ≤ 1000) {kp : Option Nat} (hp0 : ocS sk kp) (x1 : Int) (σ : Sg) : CF X mX10_best ads sk [.inr (some 0), .inl x1] σ wE (fX10_best x1 σ) := by
  refine CF.of ⟨pX10_best_ok, tbX10_ok, hA.1, hA.2⟩ (plainFor_of_name plX10) (Nat.le_of_ble_eq_true rfl) ?_
  show jX10_best X ads sk (0, [some (.inr (some 0)), some (.inl x1), none], [], σ) (fX10_best x1 σ)
  unfold fX10_best
  refine j_run 0 1 rfl ?_
  refine jc_if_ne 1 rfl rfl (fun h1 => ?_) (fun h1 => ?_)
  · refine j_run 2 1 rfl ?_
    refine j_gr 3 25 rfl rfl hp0.1 rfl ?_
    refine j_run 4 1 rfl ?_
    refine j_gr 5 0 rfl rfl hp0.1 rfl ?_
    refine j_cv 6 35 1 rfl rfl mwX0_pair hp0.2.2.2.2.2.2.1.1 rfl rfl (eX0_pair hA hp0.2.2.2.2.2.2.1 hp0.2.1 _) rfl rfl (rok rfl rfl) (Nat.le_of_ble_eq_true rfl) (fun q2 _ h2 => ?_)
    exact j_iret 7 rfl rfl rfl
  · refine j_run 8 2 rfl ?_
    refine jc_icmp_ge 10 rfl rfl (fun h6 => ?_) (fun h6 => ?_)
    · refine j_run 11 1 rfl ?_
      refine j_goto 12 rfl rfl ?_
      exact j_weak (leP_s (leP_n (leP_n (leP_z)))) (JX10_best_J30 hA hp0 (-1) _)
    · refine j_run 13 3 rfl ?_
      exact j_weak (leP_s (leP_n (leP_n (leP_z)))) (JX10_best_J30 hA hp0 (bw (x1 - 10)) _)
abbrev jX10_bares (X : Cx) (ads : List Nat) (sk : List Sk) (ps : PS) (res : Option (Int × Sg)) : Prop := J X mX10_bares pX10_bares tbX10 (rmD 6 0 0) 0 0 E0 (fun a => FM X mX10_bares ads sk (wE a)) ads sk ps res
theorem eX10_bares {X : Cx} {ads : List Nat} {sk : List Sk} (hA : ads.length = sk.length ∧ sk.length ≤ 1000) {kp : Option Nat} (hp0 : ocS sk kp) (x1 : Int) (x2 : Int) (σ : Sg) : CF X mX10_bares ads sk [.inr (some 0), .inl x1, .inl x2] σ wE (fX10_bares x1 x2 σ) := by
  refine CF.of ⟨pX10_bares_ok, tbX10_ok, hA.1, hA.2⟩ (plainFor_of_name plX10) (Nat.le_of_ble_eq_true rfl) ?_
  show jX10_bares X ads sk (0, [some (.inr (some 0)), some (.inl x1), some (.inl x2), none, none], [], σ) (fX10_bares x1 x2 σ)
  unfold fX10_bares
  refine j_run 0 1 rfl ?_
  refine j_gr 1 0 rfl rfl hp0.1 rfl ?_
  refine j_run 2 1 rfl ?_
  refine j_cvT 3 4 1 rfl rfl mwX9_hasField hp0.2.1.1 rfl rfl (eX9_hasField hA hp0.2.1 x1 _) rfl rfl (rok rfl rfl) (Nat.le_of_ble_eq_true rfl) (fun h1 => ?_)
  refine jc_if_eq 4 rfl rfl (fun h2 => ?_) (fun h2 => ?_)
  · refine j_run 9 1 rfl ?_
    exact j_iret 10 rfl rfl rfl
  · refine j_run 5 2 rfl ?_
    refine j_csT 7 3 2 rfl rfl mwX10_within (eX10_within hA x2 2 _) rfl rfl (rok rfl rfl) (Nat.le_of_ble_eq_true rfl) (fun h3 => ?_)
    refine jc_if_ne 8 rfl rfl (fun h4 => ?_) (fun h4 => ?_)
    · refine j_run 9 1 rfl ?_
      exact j_iret 10 rfl rfl rfl
    · refine j_run 11 1 rfl ?_
      refine j_gr 12 25 rfl rfl hp0.1 rfl ?_
      refine j_run 13 1 rfl ?_
      refine j_gr 14 0 rfl rfl hp0.1 rfl ?_
      refine j_run 15 1 rfl ?_
      refine j_cv 16 36 2 rfl rfl mwX0_baring hp0.2.2.2.2.2.2.1.1 rfl rfl (eX0_baring hA hp0.2.2.2.2.2.2.1 hp0.2.1 x1 _) rfl rfl (rok rfl rfl) (Nat.le_of_ble_eq_true rfl) (fun q5 _ h5 => ?_)
      refine j_run 17 3 rfl ?_
      refine jc_icmp_ne 20 rfl rfl (fun h6 => ?_) (fun h6 => ?_)
      · refine j_run 21 1 rfl ?_
        exact j_iret 22 rfl rfl rfl
      · refine j_run 23 2 rfl ?_
        refine jc_icmp_ne 25 rfl rfl (fun h7 => ?_) (fun h7 => ?_)
        · refine j_run 26 2 rfl ?_
          refine j_rem0 28 rfl (by decide) ?_
          exact j_iret 29 rfl rfl rfl
        · refine j_run 30 2 rfl ?_
          refine j_div0 32 rfl (by decide) ?_
          refine j_run 33 2 rfl ?_
          refine jc_if_ne 35 rfl rfl (fun h8 => ?_) (fun h8 => ?_)
          · refine j_run 36 2 rfl ?_
            refine j_div0 38 rfl (by decide) ?_
            refine j_goto 39 rfl rfl ?_
            exact j_iret 43 rfl rfl rfl
          · refine j_run 40 2 rfl ?_
            refine j_rem0 42 rfl (by decide) ?_
            exact j_iret 43 rfl rfl rfl
abbrev jX10_stir (X : Cx) (ads : List Nat) (sk : List Sk) (ps : PS) (res : Option (Int × Sg)) : Prop := J X mX10_stir pX10_stir tbX10 (rmD 1 0 0) 0 0 E0 (fun a => FM X mX10_stir ads sk (wE a)) ads sk ps res
theorem JX10_stir_J61 {X : Cx} {ads : List Nat} {sk : List Sk} (hA : ads.length = sk.length ∧ sk.length ≤ 1000) {kp : Option Nat} (hp0 : ocS sk kp) (z0 : Int) (z1 : Int) (y0 : Int) (σ : Sg) : jX10_stir X ads sk (61, [some (.inr (some 0)), none, none, none], [.inl y0, .inl z0, .inl z1, .inr (some 24)], σ) (fX10_stir_J61 z0 z1 y0 σ) := by
  unfold fX10_stir_J61
  refine j_run 32 1 rfl ?_
  refine j_cv 33 37 4 rfl rfl mwX6_add hp0.2.1.2.2.2.2.2.2.2.2.1.1 rfl rfl (eX6_add hA hp0.2.1.2.2.2.2.2.2.2.2.1 z1 z0 y0 0 _) rfl rfl (rok rfl rfl) (Nat.le_of_ble_eq_true rfl) (fun q6 _ h6 => ?_)
  refine jc_if_eq 34 rfl rfl (fun h7 => ?_) (fun h7 => ?_)
  · refine j_run 40 1 rfl ?_
    exact j_iret 41 rfl rfl rfl
  · refine j_run 35 1 rfl ?_
    refine j_gr 36 0 rfl rfl hp0.1 rfl ?_
    refine j_gr 37 27 rfl rfl hp0.2.1.1 rfl ?_
    refine j_gf 38 23 rfl rfl hp0.2.1.2.2.2.2.2.2.2.2.1.1 rfl ?_
    refine j_goto 39 rfl rfl ?_
    exact j_iret 41 rfl rfl rfl
theorem eX10_stir {X : Cx} {ads : List Nat} {sk : List Sk} (hA : ads.length = sk.length ∧ sk.length ≤ 1000) {kp : Option Nat} (hp0 : ocS sk kp) (x1 : Int) (x2 : Int) (x3 : Int) (σ : Sg) : CF X mX10_stir ads sk [.inr (some 0), .inl x1, .inl x2, .inl x3] σ wE (fX10_stir x1 x2 x3 σ) := by
  refine CF.of ⟨pX10_stir_ok, tbX10_ok, hA.1, hA.2⟩ (plainFor_of_name plX10) (Nat.le_of_ble_eq_true rfl) ?_
  show jX10_stir X ads sk (0, [some (.inr (some 0)), some (.inl x1), some (.inl x2), some (.inl x3)], [], σ) (fX10_stir x1 x2 x3 σ)
  unfold fX10_stir
  refine j_run 0 2 rfl ?_
  refine jc_icmp_ne 2 rfl rfl (fun h1 => ?_) (fun h1 => ?_)
  · refine j_run 3 1 rfl ?_
    refine j_gr 4 0 rfl rfl hp0.1 rfl ?_
    refine j_gr 5 27 rfl rfl hp0.2.1.1 rfl ?_
    refine j_run 6 1 rfl ?_
    refine j_pf 7 23 rfl rfl hp0.2.1.2.2.2.2.2.2.2.2.1.1 rfl rfl (Or.inl rfl) ?_
    refine j_run 8 1 rfl ?_
    exact j_iret 9 rfl rfl rfl
  · refine j_run 10 1 rfl ?_
    refine j_gr 11 0 rfl rfl hp0.1 rfl ?_
    refine j_gr 12 4 rfl rfl hp0.2.1.1 rfl ?_
    refine j_run 13 1 rfl ?_
    refine j_cvT 14 6 1 rfl rfl mwX1_has hp0.2.1.2.2.2.1.1 rfl rfl (eX1_has hA hp0.2.1.2.2.2.1 x1 _) rfl rfl (rok rfl rfl) (Nat.le_of_ble_eq_true rfl) (fun h2 => ?_)
    refine jc_if_eq 15 rfl rfl (fun h3 => ?_) (fun h3 => ?_)
    · refine j_run 20 1 rfl ?_
      exact j_iret 21 rfl rfl rfl
    · refine j_run 16 2 rfl ?_
      refine j_csT 18 3 2 rfl rfl mwX10_within (eX10_within hA x2 9 _) rfl rfl (rok rfl rfl) (Nat.le_of_ble_eq_true rfl) (fun h4 => ?_)
      refine jc_if_ne 19 rfl rfl (fun h5 => ?_) (fun h5 => ?_)
      · refine j_run 20 1 rfl ?_
        exact j_iret 21 rfl rfl rfl
      · refine j_run 22 1 rfl ?_
        refine j_gr 23 0 rfl rfl hp0.1 rfl ?_
        refine j_gr 24 27 rfl rfl hp0.2.1.1 rfl ?_
        refine j_run 25 3 rfl ?_
        refine jc_if_eq 28 rfl rfl (fun h8 => ?_) (fun h8 => ?_)
        · refine j_run 31 1 rfl ?_
          exact j_weak (leP_s (leP_n (leP_n (leP_n (leP_z))))) (JX10_stir_J61 hA hp0 x2 x1 0 _)
        · refine j_run 29 1 rfl ?_
          refine j_goto 30 rfl rfl ?_
          exact j_weak (leP_s (leP_n (leP_n (leP_n (leP_z))))) (JX10_stir_J61 hA hp0 x2 x1 1 _)
abbrev jX10_who (X : Cx) (ads : List Nat) (sk : List Sk) (ps : PS) (res : Option (Int × Sg)) : Prop := J X mX10_who pX10_who tbX10 (rmD 6 0 0) 0 0 E0 (fun a => FM X mX10_who ads sk (wE a)) ads sk ps res
theorem eX10_who {X : Cx} {ads : List Nat} {sk : List Sk} (hA : ads.length = sk.length ∧ sk.length ≤ 1000) {kp : Option Nat} (hp0 : ocS sk kp) (x1 : Int) (σ : Sg) : CF X mX10_who ads sk [.inr (some 0), .inl x1] σ wE (fX10_who x1 σ) := by
  refine CF.of ⟨pX10_who_ok, tbX10_ok, hA.1, hA.2⟩ (plainFor_of_name plX10) (Nat.le_of_ble_eq_true rfl) ?_
  show jX10_who X ads sk (0, [some (.inr (some 0)), some (.inl x1)], [], σ) (fX10_who x1 σ)
  unfold fX10_who
  refine j_run 0 1 rfl ?_
  refine j_gr 1 0 rfl rfl hp0.1 rfl ?_
  refine j_gr 2 4 rfl rfl hp0.2.1.1 rfl ?_
  refine j_run 3 1 rfl ?_
  refine j_cvT 4 6 1 rfl rfl mwX1_has hp0.2.1.2.2.2.1.1 rfl rfl (eX1_has hA hp0.2.1.2.2.2.1 x1 _) rfl rfl (rok rfl rfl) (Nat.le_of_ble_eq_true rfl) (fun h1 => ?_)
  refine jc_if_eq 5 rfl rfl (fun h2 => ?_) (fun h2 => ?_)
  · refine j_run 11 1 rfl ?_
    exact j_iret 12 rfl rfl rfl
  · refine j_run 6 1 rfl ?_
    refine j_gr 7 0 rfl rfl hp0.1 rfl ?_
    refine j_run 8 1 rfl ?_
    refine j_cv 9 38 1 rfl rfl mwX9_whoCanBe hp0.2.1.1 rfl rfl (eX9_whoCanBe hA hp0.2.1 x1 _) rfl rfl (rok rfl rfl) (Nat.le_of_ble_eq_true rfl) (fun q3 _ h3 => ?_)
    refine j_goto 10 rfl rfl ?_
    exact j_iret 12 rfl rfl rfl
abbrev jX10_ask (X : Cx) (ads : List Nat) (sk : List Sk) (ps : PS) (res : Option (Int × Sg)) : Prop := J X mX10_ask pX10_ask tbX10 (rmD 7 0 0) 0 0 E0 (fun a => FM X mX10_ask ads sk (wE a)) ads sk ps res
theorem eX10_ask {X : Cx} {ads : List Nat} {sk : List Sk} (hA : ads.length = sk.length ∧ sk.length ≤ 1000) {kp : Option Nat} (hp0 : ocS sk kp) (x1 : Int) (σ : Sg) : CF X mX10_ask ads sk [.inr (some 0), .inl x1] σ wE (fX10_ask x1 σ) := by
  refine CF.of ⟨pX10_ask_ok, tbX10_ok, hA.1, hA.2⟩ (plainFor_of_name plX10) (Nat.le_of_ble_eq_true rfl) ?_
  show jX10_ask X ads sk (0, [some (.inr (some 0)), some (.inl x1), none], [], σ) (fX10_ask x1 σ)
  unfold fX10_ask
  refine j_run 0 1 rfl ?_
  refine j_gr 1 0 rfl rfl hp0.1 rfl ?_
  refine j_gr 2 4 rfl rfl hp0.2.1.1 rfl ?_
  refine j_run 3 1 rfl ?_
  refine j_cvT 4 6 1 rfl rfl mwX1_has hp0.2.1.2.2.2.1.1 rfl rfl (eX1_has hA hp0.2.1.2.2.2.1 x1 _) rfl rfl (rok rfl rfl) (Nat.le_of_ble_eq_true rfl) (fun h1 => ?_)
  refine jc_if_ne 5 rfl rfl (fun h2 => ?_) (fun h2 => ?_)
  · refine j_run 6 1 rfl ?_
    exact j_iret 7 rfl rfl rfl
  · refine j_run 8 1 rfl ?_
    refine j_gr 9 0 rfl rfl hp0.1 rfl ?_
    refine j_run 10 1 rfl ?_
    refine j_cv 11 38 1 rfl rfl mwX9_whoCanBe hp0.2.1.1 rfl rfl (eX9_whoCanBe hA hp0.2.1 x1 _) rfl rfl (rok rfl rfl) (Nat.le_of_ble_eq_true rfl) (fun q3 _ h3 => ?_)
    refine j_run 12 2 rfl ?_
    refine j_csT 14 39 1 rfl rfl mwJ6_bitCount_0f7a4 (eJ6_bitCount_0f7a4 hA q3.1 _) rfl rfl (rok rfl rfl) (Nat.le_of_ble_eq_true rfl) (fun h4 => ?_)
    refine j_run 15 1 rfl ?_
    refine jc_icmp_ge 16 rfl rfl (fun h5 => ?_) (fun h5 => ?_)
    · refine j_run 17 1 rfl ?_
      refine j_goto 18 rfl rfl ?_
      exact j_iret 26 rfl rfl rfl
    · refine j_run 19 1 rfl ?_
      refine j_gr 20 25 rfl rfl hp0.1 rfl ?_
      refine j_run 21 1 rfl ?_
      refine j_gr 22 0 rfl rfl hp0.1 rfl ?_
      refine j_run 23 2 rfl ?_
      refine j_cv 25 40 3 rfl rfl mwX0_nextToPass hp0.2.2.2.2.2.2.1.1 rfl rfl (eX0_nextToPass hA hp0.2.2.2.2.2.2.1 hp0.2.1 x1 q3.1 _) rfl rfl (rok rfl rfl) (Nat.le_of_ble_eq_true rfl) (fun q6 _ h6 => ?_)
      exact j_iret 26 rfl rfl rfl
abbrev jX10_safe (X : Cx) (ads : List Nat) (sk : List Sk) (ps : PS) (res : Option (Int × Sg)) : Prop := J X mX10_safe pX10_safe tbX10 (rmD 2 0 0) 0 0 E0 (fun a => FM X mX10_safe ads sk (wE a)) ads sk ps res
theorem eX10_safe {X : Cx} {ads : List Nat} {sk : List Sk} (hA : ads.length = sk.length ∧ sk.length ≤ 1000) {kp : Option Nat} (hp0 : ocS sk kp) (x1 : Int) (x2 : Int) (σ : Sg) : CF X mX10_safe ads sk [.inr (some 0), .inl x1, .inl x2] σ wE (fX10_safe x1 x2 σ) := by
  refine CF.of ⟨pX10_safe_ok, tbX10_ok, hA.1, hA.2⟩ (plainFor_of_name plX10) (Nat.le_of_ble_eq_true rfl) ?_
  show jX10_safe X ads sk (0, [some (.inr (some 0)), some (.inl x1), some (.inl x2)], [], σ) (fX10_safe x1 x2 σ)
  unfold fX10_safe
  refine j_run 0 1 rfl ?_
  refine j_gr 1 0 rfl rfl hp0.1 rfl ?_
  refine j_run 2 1 rfl ?_
  refine j_cvT 3 4 1 rfl rfl mwX9_hasField hp0.2.1.1 rfl rfl (eX9_hasField hA hp0.2.1 x1 _) rfl rfl (rok rfl rfl) (Nat.le_of_ble_eq_true rfl) (fun h1 => ?_)
  refine jc_if_eq 4 rfl rfl (fun h2 => ?_) (fun h2 => ?_)
  · refine j_run 18 1 rfl ?_
    exact j_iret 19 rfl rfl rfl
  · refine j_run 5 1 rfl ?_
    refine j_gr 6 0 rfl rfl hp0.1 rfl ?_
    refine j_run 7 1 rfl ?_
    refine j_cvT 8 4 1 rfl rfl mwX9_hasField hp0.2.1.1 rfl rfl (eX9_hasField hA hp0.2.1 x2 _) rfl rfl (rok rfl rfl) (Nat.le_of_ble_eq_true rfl) (fun h3 => ?_)
    refine jc_if_eq 9 rfl rfl (fun h4 => ?_) (fun h4 => ?_)
    · refine j_run 18 1 rfl ?_
      exact j_iret 19 rfl rfl rfl
    · refine j_run 10 1 rfl ?_
      refine j_gr 11 28 rfl rfl hp0.1 rfl ?_
      refine j_run 12 1 rfl ?_
      refine j_gr 13 0 rfl rfl hp0.1 rfl ?_
      refine j_run 14 2 rfl ?_
      refine j_cv 16 41 3 rfl rfl mwX8_fewestSteps hp0.2.2.2.2.2.2.2.1.1 rfl rfl (eX8_fewestSteps hA hp0.2.2.2.2.2.2.2.1 hp0.2.1 x1 x2 _) rfl rfl (rok rfl rfl) (Nat.le_of_ble_eq_true rfl) (fun q5 _ h5 => ?_)
      refine j_goto 17 rfl rfl ?_
      exact j_iret 19 rfl rfl rfl
abbrev jX10_cut (X : Cx) (ads : List Nat) (sk : List Sk) (ps : PS) (res : Option (Int × Sg)) : Prop := J X mX10_cut pX10_cut tbX10 (rmD 3 0 0) 0 0 E0 (fun a => FM X mX10_cut ads sk (wE a)) ads sk ps res
theorem eX10_cut {X : Cx} {ads : List Nat} {sk : List Sk} (hA : ads.length = sk.length ∧ sk.length ≤ 1000) {kp : Option Nat} (hp0 : ocS sk kp) (x1 : Int) (x2 : Int) (σ : Sg) : CF X mX10_cut ads sk [.inr (some 0), .inl x1, .inl x2] σ wE (fX10_cut x1 x2 σ) := by
  refine CF.of ⟨pX10_cut_ok, tbX10_ok, hA.1, hA.2⟩ (plainFor_of_name plX10) (Nat.le_of_ble_eq_true rfl) ?_
  show jX10_cut X ads sk (0, [some (.inr (some 0)), some (.inl x1), some (.inl x2)], [], σ) (fX10_cut x1 x2 σ)
  unfold fX10_cut
  refine j_run 0 1 rfl ?_
  refine j_gr 1 0 rfl rfl hp0.1 rfl ?_
  refine j_run 2 1 rfl ?_
  refine j_cvT 3 4 1 rfl rfl mwX9_hasField hp0.2.1.1 rfl rfl (eX9_hasField hA hp0.2.1 x1 _) rfl rfl (rok rfl rfl) (Nat.le_of_ble_eq_true rfl) (fun h1 => ?_)
  refine jc_if_eq 4 rfl rfl (fun h2 => ?_) (fun h2 => ?_)
  · refine j_run 25 1 rfl ?_
    exact j_iret 26 rfl rfl rfl
  · refine j_run 5 1 rfl ?_
    refine j_gr 6 0 rfl rfl hp0.1 rfl ?_
    refine j_run 7 1 rfl ?_
    refine j_cvT 8 4 1 rfl rfl mwX9_hasField hp0.2.1.1 rfl rfl (eX9_hasField hA hp0.2.1 x2 _) rfl rfl (rok rfl rfl) (Nat.le_of_ble_eq_true rfl) (fun h3 => ?_)
    refine jc_if_eq 9 rfl rfl (fun h4 => ?_) (fun h4 => ?_)
    · refine j_run 25 1 rfl ?_
      exact j_iret 26 rfl rfl rfl
    · refine j_run 10 2 rfl ?_
      refine j_csT 12 23 2 rfl rfl mwX10_steps (eX10_steps hA x1 x2 _) rfl rfl (rok rfl rfl) (Nat.le_of_ble_eq_true rfl) (fun h5 => ?_)
      refine j_run 13 1 rfl ?_
      refine jc_icmp_lt 14 rfl rfl (fun h6 => ?_) (fun h6 => ?_)
      · refine j_run 25 1 rfl ?_
        exact j_iret 26 rfl rfl rfl
      · refine j_run 15 1 rfl ?_
        refine j_gr 16 0 rfl rfl hp0.1 rfl ?_
        refine j_run 17 1 rfl ?_
        refine j_cv 18 42 1 rfl rfl mwX9_isSteep hp0.2.1.1 rfl rfl (eX9_isSteep hA hp0.2.1 x1 _) rfl rfl (rok rfl rfl) (Nat.le_of_ble_eq_true rfl) (fun r7 _ h7 => ?_)
        refine jc_if_ne 19 rfl rfl (fun h8 => ?_) (fun h8 => ?_)
        · refine j_run 20 1 rfl ?_
          refine j_gr 21 0 rfl rfl hp0.1 rfl ?_
          refine j_run 22 1 rfl ?_
          refine j_cv 23 42 1 rfl rfl mwX9_isSteep hp0.2.1.1 rfl rfl (eX9_isSteep hA hp0.2.1 x2 _) rfl rfl (rok rfl rfl) (Nat.le_of_ble_eq_true rfl) (fun r9 _ h9 => ?_)
          refine jc_if_eq 24 rfl rfl (fun h10 => ?_) (fun h10 => ?_)
          · refine j_run 27 1 rfl ?_
            refine j_gr 28 28 rfl rfl hp0.1 rfl ?_
            refine j_run 29 1 rfl ?_
            refine j_gr 30 0 rfl rfl hp0.1 rfl ?_
            refine j_run 31 2 rfl ?_
            refine j_cv 33 43 3 rfl rfl mwX8_fewestToCut hp0.2.2.2.2.2.2.2.1.1 rfl rfl (eX8_fewestToCut hA hp0.2.2.2.2.2.2.2.1 hp0.2.1 x1 x2 _) rfl rfl (rok rfl rfl) (Nat.le_of_ble_eq_true rfl) (fun q11 _ h11 => ?_)
            exact j_iret 34 rfl rfl rfl
          · refine j_run 25 1 rfl ?_
            exact j_iret 26 rfl rfl rfl
        · refine j_run 25 1 rfl ?_
          exact j_iret 26 rfl rfl rfl
abbrev jX10_rounds (X : Cx) (ads : List Nat) (sk : List Sk) (ps : PS) (res : Option (Int × Sg)) : Prop := J X mX10_rounds pX10_rounds tbX10 (rmD 45 0 0) 0 0 E0 (fun a => FM X mX10_rounds ads sk (wE a)) ads sk ps res
theorem eX10_rounds {X : Cx} {ads : List Nat} {sk : List Sk} (hA : ads.length = sk.length ∧ sk.length ≤ 1000) {kp : Option Nat} (hp0 : ocS sk kp) (x1 : Int) (σ : Sg) : CF X mX10_rounds ads sk [.inr (some 0), .inl x1] σ wE (fX10_rounds x1 σ) := by
  refine CF.of ⟨pX10_rounds_ok, tbX10_ok, hA.1, hA.2⟩ (plainFor_of_name plX10) (Nat.le_of_ble_eq_true rfl) ?_
  show jX10_rounds X ads sk (0, [some (.inr (some 0)), some (.inl x1)], [], σ) (fX10_rounds x1 σ)
  unfold fX10_rounds
  refine j_run 0 1 rfl ?_
  refine j_gr 1 29 rfl rfl hp0.1 rfl ?_
  refine j_run 2 1 rfl ?_
  refine j_gr 3 0 rfl rfl hp0.1 rfl ?_
  refine j_cv 4 44 1 rfl rfl mwX5_make hp0.2.2.2.2.2.2.2.2.1 rfl rfl (eX5_make hA hp0.2.2.2.2.2.2.2.2 hp0.2.1 _) rfl rfl (rok rfl rfl) (Nat.le_of_ble_eq_true rfl) (fun s1 _ h1 => ?_)
  refine j_run 5 1 rfl ?_
  refine jc_if_ne 6 rfl rfl (fun h2 => ?_) (fun h2 => ?_)
  · refine j_run 7 1 rfl ?_
    refine j_gr 8 29 rfl rfl hp0.1 rfl ?_
    refine j_gf 9 30 rfl rfl hp0.2.2.2.2.2.2.2.2.1 rfl ?_
    exact j_iret 10 rfl rfl rfl
  · refine j_run 11 2 rfl ?_
    refine jc_icmp_lt 13 rfl rfl (fun h3 => ?_) (fun h3 => ?_)
    · refine j_run 29 1 rfl ?_
      exact j_iret 30 rfl rfl rfl
    · refine j_run 14 4 rfl ?_
      refine j_gr 18 0 rfl rfl hp0.1 rfl ?_
      refine j_gr 19 31 rfl rfl hp0.2.1.1 rfl ?_
      refine j_gf 20 23 rfl rfl hp0.2.1.2.2.2.2.2.1.1 rfl ?_
      refine jc_icmp_ge 21 rfl rfl (fun h4 => ?_) (fun h4 => ?_)
      · refine j_run 22 1 rfl ?_
        refine j_gr 23 29 rfl rfl hp0.1 rfl ?_
        refine j_run 24 3 rfl ?_
        refine j_cv 27 45 1 rfl rfl mwX5_dayOf hp0.2.2.2.2.2.2.2.2.1 rfl rfl (eX5_dayOf hA hp0.2.2.2.2.2.2.2.2 (bw (x1 - 10)) _) rfl rfl (rok rfl rfl) (Nat.le_of_ble_eq_true rfl) (fun r5 _ h5 => ?_)
        refine j_goto 28 rfl rfl ?_
        exact j_iret 30 rfl rfl rfl
      · refine j_run 29 1 rfl ?_
        exact j_iret 30 rfl rfl rfl
abbrev jX10_comes (X : Cx) (ads : List Nat) (sk : List Sk) (ps : PS) (res : Option (Int × Sg)) : Prop := J X mX10_comes pX10_comes tbX10 (rmD 4 0 0) 0 0 E0 (fun a => FM X mX10_comes ads sk (wE a)) ads sk ps res
theorem JX10_comes_L53 {X : Cx} {ads : List Nat} {sk : List Sk} (hA : ads.length = sk.length ∧ sk.length ≤ 1000) {kp : Option Nat} (hp0 : ocS sk kp) (x1 : Int) (x2 : Int) : ∀ (n : Nat) (x4 : Int) (x5 : Int) (x6 : Int) (σ : Sg), jX10_comes X ads sk (53, [some (.inr (some 0)), some (.inl x1), some (.inl x2), none, some (.inl x4), some (.inl x5), some (.inl x6), none], [], σ) (fX10_comes_L53 x1 x2 n x4 x5 x6 σ) := by
  intro n
  induction n with
  | zero => intro x4 x5 x6 σ; exact j_none
  | succ n ih =>
    intro x4 x5 x6 σ
    rw [fX10_comes_L53]
    refine j_run 32 2 rfl ?_
    refine jc_icmp_gt 34 rfl rfl (fun h4 => ?_) (fun h4 => ?_)
    · refine j_run 77 1 rfl ?_
      exact j_iret 78 rfl rfl rfl
    · refine j_run 35 1 rfl ?_
      refine j_gr 36 0 rfl rfl hp0.1 rfl ?_
      refine j_run 37 4 rfl ?_
      refine j_cv 41 46 4 rfl rfl mwX9_matchBy hp0.2.1.1 rfl rfl (eX9_matchBy hA hp0.2.1 x1 x2 x4 x5 _) rfl rfl (rok rfl rfl) (Nat.le_of_ble_eq_true rfl) (fun q5 _ h5 => ?_)
      refine j_run 42 1 rfl ?_
      refine j_gr 43 0 rfl rfl hp0.1 rfl ?_
      refine j_run 44 4 rfl ?_
      refine j_cv 48 46 4 rfl rfl mwX9_matchBy hp0.2.1.1 rfl rfl (eX9_matchBy hA hp0.2.1 x2 x1 x5 x4 _) rfl rfl (rok rfl rfl) (Nat.le_of_ble_eq_true rfl) (fun q6 _ h6 => ?_)
      refine j_csT 49 0 2 rfl rfl mwJ9_min_7cf53 (eJ9_min_7cf53 hA q5.1 q6.1 _) rfl rfl (rok rfl rfl) (Nat.le_of_ble_eq_true rfl) (fun h7 => ?_)
      refine j_run 50 1 rfl ?_
      refine jc_icmp_lt 51 rfl rfl (fun h8 => ?_) (fun h8 => ?_)
      · refine j_run 54 3 rfl ?_
        refine j_csT 57 2 1 rfl rfl mwJ9_abs_0f7a4 (eJ9_abs_0f7a4 hA (bw (x4 - x5)) _) rfl rfl (rok rfl rfl) (Nat.le_of_ble_eq_true rfl) (fun h9 => ?_)
        refine j_run 58 1 rfl ?_
        refine jc_icmp_le 59 rfl rfl (fun h10 => ?_) (fun h10 => ?_)
        · refine j_run 60 2 rfl ?_
          refine jc_icmp_le 62 rfl rfl (fun h11 => ?_) (fun h11 => ?_)
          · refine j_run 63 1 rfl ?_
            refine j_goto 64 rfl rfl ?_
            refine j_run 66 9 rfl ?_
            refine j_run 75 1 rfl ?_
            refine j_goto 76 rfl rfl ?_
            exact j_weak (leP_s (leP_s (leP_s (leP_n (leP_s (leP_s (leP_s (leP_n (leP_z))))))))) (ih (bw (x4 + (-1))) (bw (x5 - (-1))) (bw (x6 + 1)) _)
          · refine j_run 65 1 rfl ?_
            refine j_run 66 9 rfl ?_
            refine j_run 75 1 rfl ?_
            refine j_goto 76 rfl rfl ?_
            exact j_weak (leP_s (leP_s (leP_s (leP_n (leP_s (leP_s (leP_s (leP_n (leP_z))))))))) (ih (bw (x4 + 1)) (bw (x5 - 1)) (bw (x6 + 1)) _)
        · refine j_run 75 1 rfl ?_
          refine j_goto 76 rfl rfl ?_
          exact j_weak (leP_s (leP_s (leP_s (leP_n (leP_s (leP_s (leP_s (leP_n (leP_z))))))))) (ih x4 x5 (bw (x6 + 1)) _)
      · refine j_run 52 1 rfl ?_
        exact j_iret 53 rfl rfl rfl
theorem eX10_comes {X : Cx} {ads : List Nat} {sk : List Sk} (hA : ads.length = sk.length ∧ sk.length ≤ 1000) {kp : Option Nat} (hp0 : ocS sk kp) (x1 : Int) (x2 : Int) (σ : Sg) : CF X mX10_comes ads sk [.inr (some 0), .inl x1, .inl x2] σ wE (fX10_comes x1 x2 σ) := by
  refine CF.of ⟨pX10_comes_ok, tbX10_ok, hA.1, hA.2⟩ (plainFor_of_name plX10) (Nat.le_of_ble_eq_true rfl) ?_
  show jX10_comes X ads sk (0, [some (.inr (some 0)), some (.inl x1), some (.inl x2), none, none, none, none, none], [], σ) (fX10_comes x1 x2 σ)
  unfold fX10_comes
  refine j_run 0 1 rfl ?_
  refine j_gr 1 0 rfl rfl hp0.1 rfl ?_
  refine j_gr 2 4 rfl rfl hp0.2.1.1 rfl ?_
  refine j_run 3 4 rfl ?_
  refine j_cvT 7 9 2 rfl rfl mwX1_areTwo hp0.2.1.2.2.2.1.1 rfl rfl (eX1_areTwo hA hp0.2.1.2.2.2.1 x1 x2 _) rfl rfl (rok rfl rfl) (Nat.le_of_ble_eq_true rfl) (fun h1 => ?_)
  refine jc_if_eq 8 rfl rfl (fun h2 => ?_) (fun h2 => ?_)
  · refine j_run 18 1 rfl ?_
    exact j_iret 19 rfl rfl rfl
  · refine j_run 9 1 rfl ?_
    refine j_gr 10 19 rfl rfl hp0.2.1.2.2.2.1.1 rfl ?_
    refine j_run 11 1 rfl ?_
    refine j_ald 12 rfl hp0.2.1.2.2.2.1.2.1 rfl ?_
    refine j_run 13 1 rfl ?_
    refine j_gr 14 19 rfl rfl hp0.2.1.2.2.2.1.1 rfl ?_
    refine j_run 15 1 rfl ?_
    refine j_ald 16 rfl hp0.2.1.2.2.2.1.2.1 rfl ?_
    refine jc_icmp_ne 17 rfl rfl (fun h3 => ?_) (fun h3 => ?_)
    · refine j_run 18 1 rfl ?_
      exact j_iret 19 rfl rfl rfl
    · refine j_run 20 1 rfl ?_
      refine j_gr 21 8 rfl rfl hp0.2.1.2.2.2.1.1 rfl ?_
      refine j_run 22 1 rfl ?_
      refine j_ald 23 rfl hp0.2.1.2.2.2.1.2.2.1 rfl ?_
      refine j_run 24 2 rfl ?_
      refine j_gr 26 8 rfl rfl hp0.2.1.2.2.2.1.1 rfl ?_
      refine j_run 27 1 rfl ?_
      refine j_ald 28 rfl hp0.2.1.2.2.2.1.2.2.1 rfl ?_
      refine j_run 29 3 rfl ?_
      exact j_weak (leP_s (leP_s (leP_s (leP_n (leP_s (leP_s (leP_s (leP_n (leP_z))))))))) (JX10_comes_L53 hA hp0 x1 x2 FU (rd σ 6 x1) (rd σ 6 x2) 0 _)
abbrev jX10_asks (X : Cx) (ads : List Nat) (sk : List Sk) (σ : Sg) (ps : PS) (res : Option (Int)) : Prop := J X mX10_asks pX10_asks tbX10 (rmD 3 0 0) 0 0 E0 (fun a => FM X mX10_asks ads sk ((wP σ) a)) ads sk ps res
theorem eX10_asks {X : Cx} {ads : List Nat} {sk : List Sk} (hA : ads.length = sk.length ∧ sk.length ≤ 1000) {kp : Option Nat} (hp0 : ocS sk kp) (σ : Sg) : CF X mX10_asks ads sk [.inr (some 0)] σ (wP σ) (fX10_asks σ) := by
  refine CF.of ⟨pX10_asks_ok, tbX10_ok, hA.1, hA.2⟩ (plainFor_of_name plX10) (Nat.le_of_ble_eq_true rfl) ?_
  show jX10_asks X ads sk σ (0, [some (.inr (some 0)), none, none], [], σ) (fX10_asks σ)
  unfold fX10_asks
  refine j_run 0 1 rfl ?_
  refine j_gr 1 0 rfl rfl hp0.1 rfl ?_
  refine j_gf 2 32 rfl rfl hp0.2.1.1 rfl ?_
  refine j_run 3 1 rfl ?_
  refine j_cs 4 47 2 rfl rfl mwJ9_floorDiv_7cf53 (eJ9_floorDiv_7cf53 hA (rd σ 1 5) 10 _) rfl rfl (rok rfl rfl) (Nat.le_of_ble_eq_true rfl) (fun r1 _ h1 => ?_)
  refine j_run 5 2 rfl ?_
  refine j_gr 7 0 rfl rfl hp0.1 rfl ?_
  refine j_cv 8 48 0 rfl rfl mwX9_worthBare hp0.2.1.1 rfl rfl (eX9_worthBare hA hp0.2.1 _) rfl rfl (rok rfl rfl) (Nat.le_of_ble_eq_true rfl) (fun r2 _ h2 => ?_)
  refine j_run 9 3 rfl ?_
  refine jc_icmp_le 12 rfl rfl (fun h3 => ?_) (fun h3 => ?_)
  · refine j_run 13 1 rfl ?_
    refine j_goto 14 rfl rfl ?_
    exact j_iret 20 rfl rfl rfl
  · refine j_run 15 4 rfl ?_
    refine j_cs 19 47 2 rfl rfl mwJ9_floorDiv_7cf53 (eJ9_floorDiv_7cf53 hA (bw (r1 + r2)) 2 _) rfl rfl (rok rfl rfl) (Nat.le_of_ble_eq_true rfl) (fun r4 _ h4 => ?_)
    exact j_iret 20 rfl rfl rfl
abbrev jX10_tribe (X : Cx) (ads : List Nat) (sk : List Sk) (σ : Sg) (ps : PS) (res : Option (Int)) : Prop := J X mX10_tribe pX10_tribe tbX10 (rmD 1 0 0) 0 0 E0 (fun a => FM X mX10_tribe ads sk ((wP σ) a)) ads sk ps res
theorem eX10_tribe {X : Cx} {ads : List Nat} {sk : List Sk} (hA : ads.length = sk.length ∧ sk.length ≤ 1000) {kp : Option Nat} (hp0 : ocS sk kp) (x1 : Int) (σ : Sg) : CF X mX10_tribe ads sk [.inr (some 0), .inl x1] σ (wP σ) (fX10_tribe x1 σ) := by
  refine CF.of ⟨pX10_tribe_ok, tbX10_ok, hA.1, hA.2⟩ (plainFor_of_name plX10) (Nat.le_of_ble_eq_true rfl) ?_
  show jX10_tribe X ads sk σ (0, [some (.inr (some 0)), some (.inl x1)], [], σ) (fX10_tribe x1 σ)
  unfold fX10_tribe
  refine j_run 0 1 rfl ?_
  refine j_gr 1 0 rfl rfl hp0.1 rfl ?_
  refine j_gr 2 4 rfl rfl hp0.2.1.1 rfl ?_
  refine j_run 3 1 rfl ?_
  refine j_cvT 4 6 1 rfl rfl mwX1_has hp0.2.1.2.2.2.1.1 rfl rfl (eX1_has hA hp0.2.1.2.2.2.1 x1 _) rfl rfl (rok rfl rfl) (Nat.le_of_ble_eq_true rfl) (fun h1 => ?_)
  refine jc_if_eq 5 rfl rfl (fun h2 => ?_) (fun h2 => ?_)
  · refine j_run 12 1 rfl ?_
    exact j_iret 13 rfl rfl rfl
  · refine j_run 6 1 rfl ?_
    refine j_gr 7 0 rfl rfl hp0.1 rfl ?_
    refine j_gr 8 4 rfl rfl hp0.2.1.1 rfl ?_
    refine j_run 9 1 rfl ?_
    refine j_cv 10 49 1 rfl rfl mwX1_allKinOf hp0.2.1.2.2.2.1.1 rfl rfl (eX1_allKinOf hA hp0.2.1.2.2.2.1 x1 _) rfl rfl (rok rfl rfl) (Nat.le_of_ble_eq_true rfl) (fun r3 _ h3 => ?_)
    refine j_goto 11 rfl rfl ?_
    exact j_iret 13 rfl rfl rfl
abbrev jX10_hopes (X : Cx) (ads : List Nat) (sk : List Sk) (σ : Sg) (ps : PS) (res : Option (Int)) : Prop := J X mX10_hopes pX10_hopes tbX10 (rmD 42 0 0) 0 0 E0 (fun a => FM X mX10_hopes ads sk ((wP σ) a)) ads sk ps res
theorem JX10_hopes_J11 {X : Cx} {ads : List Nat} {sk : List Sk} (hA : ads.length = sk.length ∧ sk.length ≤ 1000) {kp : Option Nat} (hp0 : ocS sk kp) (σ : Sg) (x1 : Int) : jX10_hopes X ads sk σ (11, [some (.inr (some 0)), some (.inl x1), none], [], σ) (fX10_hopes_J11 σ x1) := by
  unfold fX10_hopes_J11
  refine j_run 7 1 rfl ?_
  refine j_gr 8 0 rfl rfl hp0.1 rfl ?_
  refine j_gr 9 4 rfl rfl hp0.2.1.1 rfl ?_
  refine j_run 10 2 rfl ?_
  refine j_gr 12 0 rfl rfl hp0.1 rfl ?_
  refine j_gr 13 4 rfl rfl hp0.2.1.1 rfl ?_
  refine j_gf 14 33 rfl rfl hp0.2.1.2.2.2.1.1 rfl ?_
  refine j_run 15 4 rfl ?_
  refine j_gr 19 0 rfl rfl hp0.1 rfl ?_
  refine j_gr 20 4 rfl rfl hp0.2.1.1 rfl ?_
  refine j_gf 21 33 rfl rfl hp0.2.1.2.2.2.1.1 rfl ?_
  refine j_run 22 2 rfl ?_
  refine j_csN 24 1 3 rfl rfl (mwX1_hopeAmong _) (eX1_hopeAmong_n hA hp0.2.1.2.2.2.1 40 (bw ((bshl 1 (rd σ 4 6)) - 1)) (bw ((rd σ 4 6) - 1)) _) rfl rfl (rok rfl rfl) (Nat.le_of_ble_eq_true rfl) (fun r1 _ h1 => ?_)
  refine j_run 25 2 rfl ?_
  refine jc_if_ne 27 rfl rfl (fun h2 => ?_) (fun h2 => ?_)
  · refine j_run 28 3 rfl ?_
    refine j_goto 31 rfl rfl ?_
    exact j_iret 37 rfl rfl rfl
  · refine j_run 32 5 rfl ?_
    exact j_iret 37 rfl rfl rfl
theorem eX10_hopes {X : Cx} {ads : List Nat} {sk : List Sk} (hA : ads.length = sk.length ∧ sk.length ≤ 1000) {kp : Option Nat} (hp0 : ocS sk kp) (x1 : Int) (σ : Sg) : CF X mX10_hopes ads sk [.inr (some 0), .inl x1] σ (wP σ) (fX10_hopes x1 σ) := by
  refine CF.of ⟨pX10_hopes_ok, tbX10_ok, hA.1, hA.2⟩ (plainFor_of_name plX10) (Nat.le_of_ble_eq_true rfl) ?_
  show jX10_hopes X ads sk σ (0, [some (.inr (some 0)), some (.inl x1), none], [], σ) (fX10_hopes x1 σ)
  unfold fX10_hopes
  refine j_run 0 1 rfl ?_
  refine jc_if_eq 1 rfl rfl (fun h3 => ?_) (fun h3 => ?_)
  · exact j_weak (leP_s (leP_s (leP_n (leP_z)))) (JX10_hopes_J11 hA hp0 σ x1)
  · refine j_run 2 2 rfl ?_
    refine jc_icmp_eq 4 rfl rfl (fun h4 => ?_) (fun h4 => ?_)
    · exact j_weak (leP_s (leP_s (leP_n (leP_z)))) (JX10_hopes_J11 hA hp0 σ x1)
    · refine j_run 5 1 rfl ?_
      exact j_iret 6 rfl rfl rfl
abbrev jX10_undo (X : Cx) (ads : List Nat) (sk : List Sk) (ps : PS) (res : Option (Int × Sg)) : Prop := J X mX10_undo pX10_undo tbX10 (rmD 2 0 0) 0 0 E0 (fun a => FM X mX10_undo ads sk (wE a)) ads sk ps res
theorem eX10_undo {X : Cx} {ads : List Nat} {sk : List Sk} (hA : ads.length = sk.length ∧ sk.length ≤ 1000) {kp : Option Nat} (hp0 : ocS sk kp) (σ : Sg) : CF X mX10_undo ads sk [.inr (some 0)] σ wE (fX10_undo σ) := by
  refine CF.of ⟨pX10_undo_ok, tbX10_ok, hA.1, hA.2⟩ (plainFor_of_name plX10) (Nat.le_of_ble_eq_true rfl) ?_
  show jX10_undo X ads sk (0, [some (.inr (some 0))], [], σ) (fX10_undo σ)
  unfold fX10_undo
  refine j_run 0 1 rfl ?_
  refine j_gr 1 2 rfl rfl hp0.1 rfl ?_
  refine j_run 2 1 rfl ?_
  refine j_gr 3 0 rfl rfl hp0.1 rfl ?_
  refine j_cv 4 50 1 rfl rfl mwX3_giveBack hp0.2.2.2.1.1 rfl rfl (eX3_giveBack hA hp0.2.2.2.1 hp0.2.1 _) rfl rfl (rok rfl rfl) (Nat.le_of_ble_eq_true rfl) (fun q1 _ h1 => ?_)
  exact j_zret 5 rfl rfl (nrR_b h1 rfl) rfl
abbrev jX10_look (X : Cx) (ads : List Nat) (sk : List Sk) (σ : Sg) (ps : PS) (res : Option (Int)) : Prop := J X mX10_look pX10_look tbX10 (rmD 2 0 0) 0 0 E0 (fun a => FM X mX10_look ads sk ((wP σ) a)) ads sk ps res
theorem eX10_look {X : Cx} {ads : List Nat} {sk : List Sk} (hA : ads.length = sk.length ∧ sk.length ≤ 1000) {kp : Option Nat} (hp0 : ocS sk kp) (x1 : Int) (σ : Sg) : CF X mX10_look ads sk [.inr (some 0), .inl x1] σ (wP σ) (fX10_look x1 σ) := by
  refine CF.of ⟨pX10_look_ok, tbX10_ok, hA.1, hA.2⟩ (plainFor_of_name plX10) (Nat.le_of_ble_eq_true rfl) ?_
  show jX10_look X ads sk σ (0, [some (.inr (some 0)), some (.inl x1)], [], σ) (fX10_look x1 σ)
  unfold fX10_look
  refine j_run 0 1 rfl ?_
  refine jc_ite (fun h1 => ?_) (fun h1 => ?_)
  · refine j_tsIn 1 rfl h1 ⟨by decide, by decide⟩ rfl rfl ?_
    refine j_run 2 1 rfl ?_
    refine j_gr 3 0 rfl rfl hp0.1 rfl ?_
    refine j_gf 4 34 rfl rfl hp0.2.1.1 rfl ?_
    exact j_iret 5 rfl rfl rfl
  refine jc_ite (fun h2 => ?_) (fun h2 => ?_)
  · refine j_tsIn 1 rfl h2 ⟨by decide, by decide⟩ rfl rfl ?_
    refine j_run 6 1 rfl ?_
    refine j_gr 7 0 rfl rfl hp0.1 rfl ?_
    refine j_gf 8 35 rfl rfl hp0.2.1.1 rfl ?_
    exact j_iret 9 rfl rfl rfl
  refine jc_ite (fun h3 => ?_) (fun h3 => ?_)
  · refine j_tsIn 1 rfl h3 ⟨by decide, by decide⟩ rfl rfl ?_
    refine j_run 10 1 rfl ?_
    refine j_gr 11 0 rfl rfl hp0.1 rfl ?_
    refine j_gf 12 12 rfl rfl hp0.2.1.1 rfl ?_
    exact j_iret 13 rfl rfl rfl
  refine jc_ite (fun h4 => ?_) (fun h4 => ?_)
  · refine j_tsIn 1 rfl h4 ⟨by decide, by decide⟩ rfl rfl ?_
    refine j_run 14 1 rfl ?_
    refine j_gr 15 0 rfl rfl hp0.1 rfl ?_
    refine j_gf 16 7 rfl rfl hp0.2.1.1 rfl ?_
    exact j_iret 17 rfl rfl rfl
  refine jc_ite (fun h5 => ?_) (fun h5 => ?_)
  · refine j_tsIn 1 rfl h5 ⟨by decide, by decide⟩ rfl rfl ?_
    refine j_run 18 1 rfl ?_
    refine j_gr 19 0 rfl rfl hp0.1 rfl ?_
    refine j_gf 20 6 rfl rfl hp0.2.1.1 rfl ?_
    exact j_iret 21 rfl rfl rfl
  refine jc_ite (fun h6 => ?_) (fun h6 => ?_)
  · refine j_tsIn 1 rfl h6 ⟨by decide, by decide⟩ rfl rfl ?_
    refine j_run 22 1 rfl ?_
    refine j_gr 23 0 rfl rfl hp0.1 rfl ?_
    refine j_gf 24 5 rfl rfl hp0.2.1.1 rfl ?_
    exact j_iret 25 rfl rfl rfl
  refine jc_ite (fun h7 => ?_) (fun h7 => ?_)
  · refine j_tsIn 1 rfl h7 ⟨by decide, by decide⟩ rfl rfl ?_
    refine j_run 26 1 rfl ?_
    refine j_gr 27 0 rfl rfl hp0.1 rfl ?_
    refine j_gr 28 4 rfl rfl hp0.2.1.1 rfl ?_
    refine j_gf 29 33 rfl rfl hp0.2.1.2.2.2.1.1 rfl ?_
    exact j_iret 30 rfl rfl rfl
  refine jc_ite (fun h8 => ?_) (fun h8 => ?_)
  · refine j_tsIn 1 rfl h8 ⟨by decide, by decide⟩ rfl rfl ?_
    refine j_run 31 1 rfl ?_
    refine j_gr 32 0 rfl rfl hp0.1 rfl ?_
    refine j_gf 33 32 rfl rfl hp0.2.1.1 rfl ?_
    exact j_iret 34 rfl rfl rfl
  refine jc_ite (fun h9 => ?_) (fun h9 => ?_)
  · refine j_tsIn 1 rfl h9 ⟨by decide, by decide⟩ rfl rfl ?_
    refine j_run 35 1 rfl ?_
    refine j_gr 36 0 rfl rfl hp0.1 rfl ?_
    refine j_gr 37 22 rfl rfl hp0.2.1.1 rfl ?_
    refine j_gf 38 23 rfl rfl hp0.2.1.2.2.2.2.2.2.2.2.2.1 rfl ?_
    exact j_iret 39 rfl rfl rfl
  refine jc_ite (fun h10 => ?_) (fun h10 => ?_)
  · refine j_tsIn 1 rfl h10 ⟨by decide, by decide⟩ rfl rfl ?_
    refine j_run 40 1 rfl ?_
    refine j_gr 41 0 rfl rfl hp0.1 rfl ?_
    refine j_gf 42 1 rfl rfl hp0.2.1.1 rfl ?_
    exact j_iret 43 rfl rfl rfl
  refine jc_ite (fun h11 => ?_) (fun h11 => ?_)
  · refine j_tsIn 1 rfl h11 ⟨by decide, by decide⟩ rfl rfl ?_
    refine j_run 44 1 rfl ?_
    refine j_gr 45 0 rfl rfl hp0.1 rfl ?_
    refine j_gr 46 36 rfl rfl hp0.2.1.1 rfl ?_
    refine j_gf 47 37 rfl rfl hp0.2.1.2.2.2.2.1.1 rfl ?_
    exact j_iret 48 rfl rfl rfl
  refine jc_ite (fun h12 => ?_) (fun h12 => ?_)
  · refine j_tsIn 1 rfl h12 ⟨by decide, by decide⟩ rfl rfl ?_
    refine j_run 49 1 rfl ?_
    refine j_gr 50 0 rfl rfl hp0.1 rfl ?_
    refine j_gr 51 31 rfl rfl hp0.2.1.1 rfl ?_
    refine j_gf 52 23 rfl rfl hp0.2.1.2.2.2.2.2.1.1 rfl ?_
    exact j_iret 53 rfl rfl rfl
  refine jc_ite (fun h13 => ?_) (fun h13 => ?_)
  · refine j_tsIn 1 rfl h13 ⟨by decide, by decide⟩ rfl rfl ?_
    refine j_run 54 1 rfl ?_
    refine j_gr 55 0 rfl rfl hp0.1 rfl ?_
    refine j_gr 56 38 rfl rfl hp0.2.1.1 rfl ?_
    refine j_gf 57 23 rfl rfl hp0.2.1.2.2.2.2.2.2.1.1 rfl ?_
    exact j_iret 58 rfl rfl rfl
  refine jc_ite (fun h14 => ?_) (fun h14 => ?_)
  · refine j_tsIn 1 rfl h14 ⟨by decide, by decide⟩ rfl rfl ?_
    refine j_run 59 1 rfl ?_
    refine j_gr 60 0 rfl rfl hp0.1 rfl ?_
    refine j_gr 61 24 rfl rfl hp0.2.1.1 rfl ?_
    refine j_gf 62 23 rfl rfl hp0.2.1.2.2.2.2.2.2.2.1.1 rfl ?_
    exact j_iret 63 rfl rfl rfl
  refine jc_ite (fun h15 => ?_) (fun h15 => ?_)
  · refine j_tsIn 1 rfl h15 ⟨by decide, by decide⟩ rfl rfl ?_
    refine j_run 64 1 rfl ?_
    refine j_gr 65 0 rfl rfl hp0.1 rfl ?_
    refine j_gr 66 27 rfl rfl hp0.2.1.1 rfl ?_
    refine j_gf 67 23 rfl rfl hp0.2.1.2.2.2.2.2.2.2.2.1.1 rfl ?_
    exact j_iret 68 rfl rfl rfl
  refine jc_ite (fun h16 => ?_) (fun h16 => ?_)
  · refine j_tsIn 1 rfl h16 ⟨by decide, by decide⟩ rfl rfl ?_
    refine j_run 69 1 rfl ?_
    refine j_gr 70 2 rfl rfl hp0.1 rfl ?_
    refine j_gf 71 3 rfl rfl hp0.2.2.2.1.1 rfl ?_
    exact j_iret 72 rfl rfl rfl
  refine jc_ite (fun h17 => ?_) (fun h17 => ?_)
  · refine j_tsIn 1 rfl h17 ⟨by decide, by decide⟩ rfl rfl ?_
    refine j_run 73 1 rfl ?_
    refine j_gr 74 0 rfl rfl hp0.1 rfl ?_
    refine j_cv 75 51 0 rfl rfl mwX9_bareFields hp0.2.1.1 rfl rfl (eX9_bareFields hA hp0.2.1 _) rfl rfl (rok rfl rfl) (Nat.le_of_ble_eq_true rfl) (fun r18 _ h18 => ?_)
    exact j_iret 76 rfl rfl rfl
  refine j_tsOut 1 rfl (by omega) rfl ?_
  refine j_run 77 1 rfl ?_
  exact j_iret 78 rfl rfl rfl
abbrev jX11_isIn (X : Cx) (ads : List Nat) (sk : List Sk) (σ : Sg) (ps : PS) (res : Option (Int)) : Prop := J X mX11_isIn pX11_isIn tbX11 (rmD 0 0 0) 0 0 E0 (fun a => FM X mX11_isIn ads sk ((wP σ) a)) ads sk ps res
theorem eX11_isIn {X : Cx} {ads : List Nat} {sk : List Sk} (hA : ads.length = sk.length ∧ sk.length ≤ 1000) (x0 : Int) (x1 : Int) (x2 : Int) (σ : Sg) : CF X mX11_isIn ads sk [.inl x0, .inl x1, .inl x2] σ (wP σ) (some (fX11_isIn x0 x1 x2)) := by
  refine CF.of ⟨pX11_isIn_ok, tbX11_ok, hA.1, hA.2⟩ (plainFor_of_name plX11) (Nat.le_of_ble_eq_true rfl) ?_
  show jX11_isIn X ads sk σ (0, [some (.inl x0), some (.inl x1), some (.inl x2)], [], σ) (some (fX11_isIn x0 x1 x2))
  unfold fX11_isIn
  refine j_run 0 2 rfl ?_
  refine jt_icmp_lt 2 rfl rfl (fun h1 => ?_) (fun h1 => ?_)
  · refine j_run 8 1 rfl ?_
    exact j_zret 9 rfl rfl (by decide) rfl
  · refine j_run 3 2 rfl ?_
    refine jt_icmp_gt 5 rfl rfl (fun h2 => ?_) (fun h2 => ?_)
    · refine j_run 8 1 rfl ?_
      exact j_zret 9 rfl rfl (by decide) rfl
    · refine j_run 6 1 rfl ?_
      refine j_goto 7 rfl rfl ?_
      exact j_zret 9 rfl rfl (by decide) rfl
abbrev jX11_isOn (X : Cx) (ads : List Nat) (sk : List Sk) (σ : Sg) (ps : PS) (res : Option (Int)) : Prop := J X mX11_isOn pX11_isOn tbX11 (rmD 1 0 0) 0 0 E0 (fun a => FM X mX11_isOn ads sk ((wP σ) a)) ads sk ps res
theorem eX11_isOn {X : Cx} {ads : List Nat} {sk : List Sk} (hA : ads.length = sk.length ∧ sk.length ≤ 1000) (hp0 : ocM sk) (x1 : Int) (x2 : Int) (σ : Sg) : CF X mX11_isOn ads sk [.inr (some 84), .inl x1, .inl x2] σ (wP σ) (some (fX11_isOn x1 x2 σ)) := by
  refine CF.of ⟨pX11_isOn_ok, tbX11_ok, hA.1, hA.2⟩ (plainFor_of_name plX11) (Nat.le_of_ble_eq_true rfl) ?_
  show jX11_isOn X ads sk σ (0, [some (.inr (some 84)), some (.inl x1), some (.inl x2)], [], σ) (some (fX11_isOn x1 x2 σ))
  unfold fX11_isOn
  refine j_run 0 3 rfl ?_
  refine j_gr 3 0 rfl rfl hp0.1 rfl ?_
  refine j_run 4 1 rfl ?_
  refine j_ald0 5 rfl hp0.2.1 (by decide) ?_
  refine j_run 6 2 rfl ?_
  refine j_csT 8 0 3 rfl rfl mwX11_isIn (eX11_isIn hA x1 0 (bw ((rd σ 85 80) - 1)) _) rfl rfl (rok rfl rfl) (Nat.le_of_ble_eq_true rfl) (fun h1 => ?_)
  refine jt_if_eq 9 rfl rfl (fun h2 => ?_) (fun h2 => ?_)
  · refine j_run 22 1 rfl ?_
    exact j_zret 23 rfl rfl (by decide) rfl
  · refine j_run 10 3 rfl ?_
    refine j_gr 13 0 rfl rfl hp0.1 rfl ?_
    refine j_run 14 1 rfl ?_
    refine j_ald0 15 rfl hp0.2.1 (by decide) ?_
    refine j_run 16 2 rfl ?_
    refine j_csT 18 0 3 rfl rfl mwX11_isIn (eX11_isIn hA x2 0 (bw ((rd σ 85 81) - 1)) _) rfl rfl (rok rfl rfl) (Nat.le_of_ble_eq_true rfl) (fun h3 => ?_)
    refine jt_if_eq 19 rfl rfl (fun h4 => ?_) (fun h4 => ?_)
    · refine j_run 22 1 rfl ?_
      exact j_zret 23 rfl rfl (by decide) rfl
    · refine j_run 20 1 rfl ?_
      refine j_goto 21 rfl rfl ?_
      exact j_zret 23 rfl rfl (by decide) rfl
abbrev jX11_isField (X : Cx) (ads : List Nat) (sk : List Sk) (σ : Sg) (ps : PS) (res : Option (Int)) : Prop := J X mX11_isField pX11_isField tbX11 (rmD 2 0 0) 0 0 E0 (fun a => FM X mX11_isField ads sk ((wP σ) a)) ads sk ps res
theorem eX11_isField {X : Cx} {ads : List Nat} {sk : List Sk} (hA : ads.length = sk.length ∧ sk.length ≤ 1000) (hp0 : ocM sk) (x1 : Int) (σ : Sg) : CF X mX11_isField ads sk [.inr (some 84), .inl x1] σ (wP σ) (some (fX11_isField x1 σ)) := by
  refine CF.of ⟨pX11_isField_ok, tbX11_ok, hA.1, hA.2⟩ (plainFor_of_name plX11) (Nat.le_of_ble_eq_true rfl) ?_
  show jX11_isField X ads sk σ (0, [some (.inr (some 84)), some (.inl x1)], [], σ) (some (fX11_isField x1 σ))
  unfold fX11_isField
  refine j_run 0 3 rfl ?_
  refine j_csT 3 0 3 rfl rfl mwX11_isIn (eX11_isIn hA x1 0 63 _) rfl rfl (rok rfl rfl) (Nat.le_of_ble_eq_true rfl) (fun h1 => ?_)
  refine jt_if_eq 4 rfl rfl (fun h2 => ?_) (fun h2 => ?_)
  · refine j_run 16 1 rfl ?_
    exact j_zret 17 rfl rfl (by decide) rfl
  · refine j_run 5 3 rfl ?_
    refine j_rem0 8 rfl (by decide) ?_
    refine j_run 9 2 rfl ?_
    refine j_div0 11 rfl (by decide) ?_
    refine j_cvT 12 1 2 rfl rfl mwX11_isOn hp0.1 rfl rfl (eX11_isOn hA hp0 (trm x1 8) (tdv x1 8) _) rfl rfl (rok rfl rfl) (Nat.le_of_ble_eq_true rfl) (fun h3 => ?_)
    refine jt_if_eq 13 rfl rfl (fun h4 => ?_) (fun h4 => ?_)
    · refine j_run 16 1 rfl ?_
      exact j_zret 17 rfl rfl (by decide) rfl
    · refine j_run 14 1 rfl ?_
      refine j_goto 15 rfl rfl ?_
      exact j_zret 17 rfl rfl (by decide) rfl
