/-! each method does what its function says -/
abbrev jX1_has (X : Cx) (ads : List Nat) (sk : List Sk) (σ : Sg) (ps : PS) (res : Option (Int)) : Prop := J X mX1_has pX1_has tbX1 (rmD 0 0 0) 0 0 E0 (fun a => FM X mX1_has ads sk ((wP σ) a)) ads sk ps res
theorem eX1_has {X : Cx} {ads : List Nat} {sk : List Sk} (hA : ads.length = sk.length ∧ sk.length ≤ 1000) {c0 : Nat} (hp0 : ocF sk c0) (x1 : Int) (σ : Sg) : CF X mX1_has ads sk [.inr (some c0), .inl x1] σ (wP σ) (some (fX1_has c0 x1 σ)) := by
  refine CF.of ⟨pX1_has_ok, tbX1_ok, hA.1, hA.2⟩ (plainFor_of_name plX1) (Nat.le_of_ble_eq_true rfl) ?_
  show jX1_has X ads sk σ (0, [some (.inr (some c0)), some (.inl x1)], [], σ) (some (fX1_has c0 x1 σ))
  unfold fX1_has
  refine j_run 0 1 rfl ?_
  refine jt_if_lt 1 rfl rfl (fun h1 => ?_) (fun h1 => ?_)
  · refine j_run 8 1 rfl ?_
    exact j_zret 9 rfl rfl (by decide) rfl
  · refine j_run 2 2 rfl ?_
    refine j_gf 4 0 rfl rfl hp0.1 rfl ?_
    refine jt_icmp_ge 5 rfl rfl (fun h2 => ?_) (fun h2 => ?_)
    · refine j_run 6 1 rfl ?_
      refine j_goto 7 rfl rfl ?_
      exact j_zret 9 rfl rfl (by decide) rfl
    · refine j_run 8 1 rfl ?_
      exact j_zret 9 rfl rfl (by decide) rfl
abbrev jX1_isFree (X : Cx) (ads : List Nat) (sk : List Sk) (σ : Sg) (ps : PS) (res : Option (Int)) : Prop := J X mX1_isFree pX1_isFree tbX1 (rmD 1 0 0) 0 0 E0 (fun a => FM X mX1_isFree ads sk ((wP σ) a)) ads sk ps res
theorem eX1_isFree {X : Cx} {ads : List Nat} {sk : List Sk} (hA : ads.length = sk.length ∧ sk.length ≤ 1000) {c0 : Nat} (hp0 : ocF sk c0) (x1 : Int) (σ : Sg) : CF X mX1_isFree ads sk [.inr (some c0), .inl x1] σ (wP σ) (fX1_isFree c0 x1 σ) := by
  refine CF.of ⟨pX1_isFree_ok, tbX1_ok, hA.1, hA.2⟩ (plainFor_of_name plX1) (Nat.le_of_ble_eq_true rfl) ?_
  show jX1_isFree X ads sk σ (0, [some (.inr (some c0)), some (.inl x1)], [], σ) (fX1_isFree c0 x1 σ)
  unfold fX1_isFree
  refine j_run 0 2 rfl ?_
  refine j_cvT 2 0 1 rfl rfl mwX1_has hp0.1 rfl rfl (eX1_has hA hp0 x1 _) rfl rfl (rok rfl rfl) (Nat.le_of_ble_eq_true rfl) (fun h1 => ?_)
  refine jc_if_eq 3 rfl rfl (fun h2 => ?_) (fun h2 => ?_)
  · refine j_run 12 1 rfl ?_
    exact j_zret 13 rfl rfl (by decide) rfl
  · refine j_run 4 1 rfl ?_
    refine j_gr 5 1 rfl rfl hp0.1 rfl ?_
    refine j_run 6 1 rfl ?_
    refine j_ald 7 rfl hp0.2.2.2.2.2.1 rfl ?_
    refine j_run 8 1 rfl ?_
    refine jc_icmp_ne 9 rfl rfl (fun h3 => ?_) (fun h3 => ?_)
    · refine j_run 10 1 rfl ?_
      refine j_goto 11 rfl rfl ?_
      exact j_zret 13 rfl rfl (by decide) rfl
    · refine j_run 12 1 rfl ?_
      exact j_zret 13 rfl rfl (by decide) rfl
abbrev jX0_gather (X : Cx) (ads : List Nat) (sk : List Sk) (ps : PS) (res : Option (Sg)) : Prop := J X mX0_gather pX0_gather tbX0 (rmD 2 0 0) 0 0 E0 (fun a => FM X mX0_gather ads sk (wV a)) ads sk ps res
theorem JX0_gather_L12 {X : Cx} {ads : List Nat} {sk : List Sk} (hA : ads.length = sk.length ∧ sk.length ≤ 1000) (hp0 : ocC sk) {c1 : Nat} (hp1 : ocF sk c1) : ∀ (n : Nat) (x2 : Int) (σ : Sg), jX0_gather X ads sk (12, [some (.inr (some 65)), some (.inr (some c1)), some (.inl x2)], [], σ) (fX0_gather_L12 c1 n x2 σ) := by
  intro n
  induction n with
  | zero => intro x2 σ; exact j_none
  | succ n ih =>
    intro x2 σ
    rw [fX0_gather_L12]
    refine j_run 8 2 rfl ?_
    refine j_gf 10 2 rfl rfl hp1.1 rfl ?_
    refine jc_icmp_ge 11 rfl rfl (fun h1 => ?_) (fun h1 => ?_)
    · refine j_run 12 1 rfl ?_
      refine j_gr 13 3 rfl rfl hp0.1 rfl ?_
      refine j_run 14 2 rfl ?_
      refine j_ast 16 rfl hp0.2.1 rfl ?_
      refine j_run 17 1 rfl ?_
      refine j_gr 18 4 rfl rfl hp0.1 rfl ?_
      refine j_run 19 2 rfl ?_
      refine j_ast 21 rfl hp0.2.2.1 rfl ?_
      refine j_run 22 2 rfl ?_
      refine j_cv 24 0 1 rfl rfl mwX1_isFree hp1.1 rfl rfl (eX1_isFree hA hp1 x2 _) rfl rfl (rok rfl rfl) (Nat.le_of_ble_eq_true rfl) (fun r2 _ h2 => ?_)
      refine jc_if_ne 25 rfl rfl (fun h3 => ?_) (fun h3 => ?_)
      · refine j_goto 26 rfl rfl ?_
        refine j_run 57 1 rfl ?_
        refine j_goto 58 rfl rfl ?_
        exact j_weak (leP_s (leP_s (leP_s (leP_z)))) (ih (bw (x2 + 1)) _)
      · refine j_run 27 1 rfl ?_
        refine j_gr 28 5 rfl rfl hp1.1 rfl ?_
        refine j_run 29 1 rfl ?_
        refine j_ald 30 rfl hp1.2.1 rfl ?_
        refine jc_if_ne 31 rfl rfl (fun h4 => ?_) (fun h4 => ?_)
        · refine j_run 32 1 rfl ?_
          refine j_gr 33 6 rfl rfl hp0.1 rfl ?_
          refine j_run 34 1 rfl ?_
          refine j_gf 35 0 rfl rfl hp0.1 rfl ?_
          refine j_run 36 1 rfl ?_
          refine j_ast 37 rfl hp0.2.2.2.2.1 rfl ?_
          refine j_run 38 2 rfl ?_
          refine j_gf 40 0 rfl rfl hp0.1 rfl ?_
          refine j_run 41 2 rfl ?_
          refine j_pf 43 0 rfl rfl hp0.1 rfl rfl (Or.inl rfl) ?_
          refine j_goto 44 rfl rfl ?_
          refine j_run 57 1 rfl ?_
          refine j_goto 58 rfl rfl ?_
          exact j_weak (leP_s (leP_s (leP_s (leP_z)))) (ih (bw (x2 + 1)) _)
        · refine j_run 45 1 rfl ?_
          refine j_gr 46 7 rfl rfl hp0.1 rfl ?_
          refine j_run 47 1 rfl ?_
          refine j_gf 48 1 rfl rfl hp0.1 rfl ?_
          refine j_run 49 1 rfl ?_
          refine j_ast 50 rfl hp0.2.2.2.2.2.1 rfl ?_
          refine j_run 51 2 rfl ?_
          refine j_gf 53 1 rfl rfl hp0.1 rfl ?_
          refine j_run 54 2 rfl ?_
          refine j_pf 56 1 rfl rfl hp0.1 rfl rfl (Or.inl rfl) ?_
          refine j_run 57 1 rfl ?_
          refine j_goto 58 rfl rfl ?_
          exact j_weak (leP_s (leP_s (leP_s (leP_z)))) (ih (bw (x2 + 1)) _)
    · exact j_vret 59 rfl rfl rfl
theorem eX0_gather {X : Cx} {ads : List Nat} {sk : List Sk} (hA : ads.length = sk.length ∧ sk.length ≤ 1000) (hp0 : ocC sk) {c1 : Nat} (hp1 : ocF sk c1) (σ : Sg) : CF X mX0_gather ads sk [.inr (some 65), .inr (some c1)] σ wV (fX0_gather c1 σ) := by
  refine CF.of ⟨pX0_gather_ok, tbX0_ok, hA.1, hA.2⟩ (plainFor_of_name plX0) (Nat.le_of_ble_eq_true rfl) ?_
  show jX0_gather X ads sk (0, [some (.inr (some 65)), some (.inr (some c1)), none], [], σ) (fX0_gather c1 σ)
  unfold fX0_gather
  refine j_run 0 2 rfl ?_
  refine j_pf 2 0 rfl rfl hp0.1 rfl rfl (Or.inl rfl) ?_
  refine j_run 3 2 rfl ?_
  refine j_pf 5 1 rfl rfl hp0.1 rfl rfl (Or.inl rfl) ?_
  refine j_run 6 2 rfl ?_
  exact j_weak (leP_s (leP_s (leP_s (leP_z)))) (JX0_gather_L12 hA hp0 hp1 FU 0 _)
abbrev jX2_forgetNames (X : Cx) (ads : List Nat) (sk : List Sk) (ps : PS) (res : Option (Sg)) : Prop := J X mX2_forgetNames pX2_forgetNames tbX2 (rmD 0 0 0) 0 0 E0 (fun a => FM X mX2_forgetNames ads sk (wV a)) ads sk ps res
theorem JX2_forgetNames_L2 {X : Cx} {ads : List Nat} {sk : List Sk} (hA : ads.length = sk.length ∧ sk.length ≤ 1000) {c0 : Nat} (hp0 : ocL sk c0) : ∀ (n : Nat) (x1 : Int) (σ : Sg), jX2_forgetNames X ads sk (2, [some (.inr (some c0)), some (.inl x1)], [], σ) (fX2_forgetNames_L2 c0 n x1 σ) := by
  intro n
  induction n with
  | zero => intro x1 σ; exact j_none
  | succ n ih =>
    intro x1 σ
    rw [fX2_forgetNames_L2]
    refine j_run 2 2 rfl ?_
    refine jc_icmp_ge 4 rfl rfl (fun h1 => ?_) (fun h1 => ?_)
    · refine j_run 5 1 rfl ?_
      refine j_gr 6 0 rfl rfl hp0.1 rfl ?_
      refine j_run 7 2 rfl ?_
      refine j_ast 9 rfl hp0.2.2.2.2.2.1 rfl ?_
      refine j_run 10 1 rfl ?_
      refine j_goto 11 rfl rfl ?_
      exact j_weak (leP_s (leP_s (leP_z))) (ih (bw (x1 + 1)) _)
    · exact j_vret 12 rfl rfl rfl
theorem eX2_forgetNames {X : Cx} {ads : List Nat} {sk : List Sk} (hA : ads.length = sk.length ∧ sk.length ≤ 1000) {c0 : Nat} (hp0 : ocL sk c0) (σ : Sg) : CF X mX2_forgetNames ads sk [.inr (some c0)] σ wV (fX2_forgetNames c0 σ) := by
  refine CF.of ⟨pX2_forgetNames_ok, tbX2_ok, hA.1, hA.2⟩ (plainFor_of_name plX2) (Nat.le_of_ble_eq_true rfl) ?_
  show jX2_forgetNames X ads sk (0, [some (.inr (some c0)), none], [], σ) (fX2_forgetNames c0 σ)
  unfold fX2_forgetNames
  refine j_run 0 2 rfl ?_
  exact j_weak (leP_s (leP_s (leP_z))) (JX2_forgetNames_L2 hA hp0 FU 0 _)
abbrev jX2_name (X : Cx) (ads : List Nat) (sk : List Sk) (ps : PS) (res : Option (Sg)) : Prop := J X mX2_name pX2_name tbX2 (rmD 0 0 0) 0 0 E0 (fun a => FM X mX2_name ads sk (wV a)) ads sk ps res
theorem eX2_name {X : Cx} {ads : List Nat} {sk : List Sk} (hA : ads.length = sk.length ∧ sk.length ≤ 1000) {c0 : Nat} (hp0 : ocL sk c0) (x1 : Int) (x2 : Int) (σ : Sg) : CF X mX2_name ads sk [.inr (some c0), .inl x1, .inl x2] σ wV (fX2_name c0 x1 x2 σ) := by
  refine CF.of ⟨pX2_name_ok, tbX2_ok, hA.1, hA.2⟩ (plainFor_of_name plX2) (Nat.le_of_ble_eq_true rfl) ?_
  show jX2_name X ads sk (0, [some (.inr (some c0)), some (.inl x1), some (.inl x2), none], [], σ) (fX2_name c0 x1 x2 σ)
  unfold fX2_name
  refine j_run 0 5 rfl ?_
  refine jc_if_lt 5 rfl rfl (fun h1 => ?_) (fun h1 => ?_)
  · exact j_vret 14 rfl rfl rfl
  · refine j_run 6 2 rfl ?_
    refine jc_icmp_ge 8 rfl rfl (fun h2 => ?_) (fun h2 => ?_)
    · refine j_run 9 1 rfl ?_
      refine j_gr 10 0 rfl rfl hp0.1 rfl ?_
      refine j_run 11 2 rfl ?_
      refine j_ast 13 rfl hp0.2.2.2.2.2.1 rfl ?_
      exact j_vret 14 rfl rfl rfl
    · exact j_vret 14 rfl rfl rfl
abbrev jX1_areKin (X : Cx) (ads : List Nat) (sk : List Sk) (σ : Sg) (ps : PS) (res : Option (Int)) : Prop := J X mX1_areKin pX1_areKin tbX1 (rmD 0 0 0) 0 0 E0 (fun a => FM X mX1_areKin ads sk ((wP σ) a)) ads sk ps res
theorem eX1_areKin {X : Cx} {ads : List Nat} {sk : List Sk} (hA : ads.length = sk.length ∧ sk.length ≤ 1000) {c0 : Nat} (hp0 : ocF sk c0) (x1 : Int) (x2 : Int) (σ : Sg) : CF X mX1_areKin ads sk [.inr (some c0), .inl x1, .inl x2] σ (wP σ) (fX1_areKin c0 x1 x2 σ) := by
  refine CF.of ⟨pX1_areKin_ok, tbX1_ok, hA.1, hA.2⟩ (plainFor_of_name plX1) (Nat.le_of_ble_eq_true rfl) ?_
  show jX1_areKin X ads sk σ (0, [some (.inr (some c0)), some (.inl x1), some (.inl x2)], [], σ) (fX1_areKin c0 x1 x2 σ)
  unfold fX1_areKin
  refine j_run 0 1 rfl ?_
  refine j_gr 1 2 rfl rfl hp0.1 rfl ?_
  refine j_run 2 1 rfl ?_
  refine j_ald 3 rfl hp0.2.2.2.2.2.2 rfl ?_
  refine j_run 4 5 rfl ?_
  refine jc_icmp_ne 9 rfl rfl (fun h1 => ?_) (fun h1 => ?_)
  · refine j_run 10 1 rfl ?_
    refine j_goto 11 rfl rfl ?_
    exact j_zret 13 rfl rfl (by decide) rfl
  · refine j_run 12 1 rfl ?_
    exact j_zret 13 rfl rfl (by decide) rfl
abbrev jX2_joined (X : Cx) (ads : List Nat) (sk : List Sk) (σ : Sg) (ps : PS) (res : Option (Int)) : Prop := J X mX2_joined pX2_joined tbX2 (rmD 0 0 0) 0 0 E0 (fun a => FM X mX2_joined ads sk ((wP σ) a)) ads sk ps res
theorem eX2_joined {X : Cx} {ads : List Nat} {sk : List Sk} (hA : ads.length = sk.length ∧ sk.length ≤ 1000) (x0 : Int) (x1 : Int) (x2 : Int) (σ : Sg) : CF X mX2_joined ads sk [.inl x0, .inl x1, .inl x2] σ (wP σ) (fX2_joined x0 x1 x2) := by
  refine CF.of ⟨pX2_joined_ok, tbX2_ok, hA.1, hA.2⟩ (plainFor_of_name plX2) (Nat.le_of_ble_eq_true rfl) ?_
  show jX2_joined X ads sk σ (0, [some (.inl x0), some (.inl x1), some (.inl x2)], [], σ) (fX2_joined x0 x1 x2)
  unfold fX2_joined
  refine j_run 0 1 rfl ?_
  refine jc_ite (fun h1 => ?_) (fun h1 => ?_)
  · refine j_ls 1 rfl (by decide) (by rw [h1]; try rfl) rfl ?_
    refine j_run 43 3 rfl ?_
    exact j_iret 46 rfl rfl rfl
  refine jc_ite (fun h2 => ?_) (fun h2 => ?_)
  · refine j_ls 1 rfl (by decide) (by rw [h2]; try rfl) rfl ?_
    refine j_run 10 3 rfl ?_
    exact j_iret 13 rfl rfl rfl
  refine jc_ite (fun h3 => ?_) (fun h3 => ?_)
  · refine j_ls 1 rfl (by decide) (by rw [h3]; try rfl) rfl ?_
    refine j_run 2 3 rfl ?_
    exact j_iret 5 rfl rfl rfl
  refine jc_ite (fun h4 => ?_) (fun h4 => ?_)
  · refine j_ls 1 rfl (by decide) (by rw [h4]; try rfl) rfl ?_
    refine j_run 6 3 rfl ?_
    exact j_iret 9 rfl rfl rfl
  refine jc_ite (fun h5 => ?_) (fun h5 => ?_)
  · refine j_ls 1 rfl (by decide) (by rw [h5]; try rfl) rfl ?_
    refine j_run 14 1 rfl ?_
    refine jc_if_ne 15 rfl rfl (fun h6 => ?_) (fun h6 => ?_)
    · refine j_run 16 1 rfl ?_
      refine j_goto 17 rfl rfl ?_
      exact j_iret 21 rfl rfl rfl
    · refine j_run 18 2 rfl ?_
      refine j_div 20 rfl ?_
      exact j_iret 21 rfl rfl rfl
  refine jc_ite (fun h7 => ?_) (fun h7 => ?_)
  · refine j_ls 1 rfl (by decide) (by rw [h7]; try rfl) rfl ?_
    refine j_run 22 2 rfl ?_
    refine jc_icmp_ge 24 rfl rfl (fun h8 => ?_) (fun h8 => ?_)
    · refine j_run 25 1 rfl ?_
      refine j_goto 26 rfl rfl ?_
      exact j_iret 28 rfl rfl rfl
    · refine j_run 27 1 rfl ?_
      exact j_iret 28 rfl rfl rfl
  refine jc_ite (fun h9 => ?_) (fun h9 => ?_)
  · refine j_ls 1 rfl (by decide) (by rw [h9]; try rfl) rfl ?_
    refine j_run 29 2 rfl ?_
    refine jc_icmp_ne 31 rfl rfl (fun h10 => ?_) (fun h10 => ?_)
    · refine j_run 32 1 rfl ?_
      refine j_goto 33 rfl rfl ?_
      exact j_iret 35 rfl rfl rfl
    · refine j_run 34 1 rfl ?_
      exact j_iret 35 rfl rfl rfl
  refine jc_ite (fun h11 => ?_) (fun h11 => ?_)
  · refine j_ls 1 rfl (by decide) (by rw [h11]; try rfl) rfl ?_
    refine j_run 36 2 rfl ?_
    refine jc_icmp_le 38 rfl rfl (fun h12 => ?_) (fun h12 => ?_)
    · refine j_run 39 1 rfl ?_
      refine j_goto 40 rfl rfl ?_
      exact j_iret 42 rfl rfl rfl
    · refine j_run 41 1 rfl ?_
      exact j_iret 42 rfl rfl rfl
  refine j_ls (off := 136) 1 rfl (by decide) (by simp [Op.lookupswitch.offset, h1, Ne.symm h1, h2, Ne.symm h2, h3, Ne.symm h3, h4, Ne.symm h4, h5, Ne.symm h5, h7, Ne.symm h7, h9, Ne.symm h9, h11, Ne.symm h11]) rfl ?_
  refine j_run 47 3 rfl ?_
  exact j_iret 50 rfl rfl rfl
abbrev jX2_run (X : Cx) (ads : List Nat) (sk : List Sk) (ps : PS) (res : Option (Int × Sg)) : Prop := J X mX2_run pX2_run tbX2 (rmD 1 0 0) 0 0 E0 (fun a => FM X mX2_run ads sk (wE a)) ads sk ps res
theorem JX2_run_L9 {X : Cx} {ads : List Nat} {sk : List Sk} (hA : ads.length = sk.length ∧ sk.length ≤ 1000) {c0 : Nat} (hp0 : ocL sk c0) (x2 : Int) (k152 : Int → Sg → Option (Int × Sg)) (hk152 : ∀ (x3 : Int) (σ : Sg), jX2_run X ads sk (152, [some (.inr (some c0)), none, none, some (.inl x3), none, none], [], σ) (k152 x3 σ)) : ∀ (n : Nat) (x3 : Int) (x4 : Int) (σ : Sg), jX2_run X ads sk (9, [some (.inr (some c0)), none, some (.inl x2), some (.inl x3), some (.inl x4), none], [], σ) (fX2_run_L9 c0 k152 x2 n x3 x4 σ) := by
  intro n
  induction n with
  | zero => intro x3 x4 σ; exact j_none
  | succ n ih =>
    intro x3 x4 σ
    rw [fX2_run_L9]
    refine j_run 6 2 rfl ?_
    refine jc_icmp_ge 8 rfl rfl (fun h2 => ?_) (fun h2 => ?_)
    · refine j_run 9 2 rfl ?_
      refine jc_icmp_ge 11 rfl rfl (fun h3 => ?_) (fun h3 => ?_)
      · refine j_run 12 1 rfl ?_
        refine j_gr 13 1 rfl rfl hp0.1 rfl ?_
        refine j_run 14 1 rfl ?_
        refine j_ald 15 rfl hp0.2.1 rfl ?_
        refine j_run 16 3 rfl ?_
        refine jc_icmp_le 19 rfl rfl (fun h4 => ?_) (fun h4 => ?_)
        · refine j_run 20 2 rfl ?_
          refine jc_icmp_ge 22 rfl rfl (fun h5 => ?_) (fun h5 => ?_)
          · refine j_run 23 1 rfl ?_
            refine j_gr 24 2 rfl rfl hp0.1 rfl ?_
            refine j_run 25 2 rfl ?_
            refine jc_if_lt 27 rfl rfl (fun h6 => ?_) (fun h6 => ?_)
            · refine j_run 30 1 rfl ?_
              refine j_gr 31 0 rfl rfl hp0.1 rfl ?_
              refine j_run 32 3 rfl ?_
              refine j_ald 35 rfl hp0.2.2.2.2.2.1 rfl ?_
              refine j_ast 36 rfl hp0.2.2.2.2.2.2 rfl ?_
              refine j_run 37 1 rfl ?_
              refine j_goto 38 rfl rfl ?_
              refine j_run 83 1 rfl ?_
              refine j_goto 84 rfl rfl ?_
              exact j_weak (leP_s (leP_n (leP_s (leP_s (leP_s (leP_n (leP_z))))))) (ih (bw (x3 + 1)) (bw (x4 + 1)) _)
            · refine j_run 28 1 rfl ?_
              refine j_goto 29 rfl rfl ?_
              refine j_ast 36 rfl hp0.2.2.2.2.2.2 rfl ?_
              refine j_run 37 1 rfl ?_
              refine j_goto 38 rfl rfl ?_
              refine j_run 83 1 rfl ?_
              refine j_goto 84 rfl rfl ?_
              exact j_weak (leP_s (leP_n (leP_s (leP_s (leP_s (leP_n (leP_z))))))) (ih (bw (x3 + 1)) (bw (x4 + 1)) _)
          · refine j_run 83 1 rfl ?_
            refine j_goto 84 rfl rfl ?_
            exact j_weak (leP_s (leP_n (leP_s (leP_s (leP_s (leP_n (leP_z))))))) (ih x3 (bw (x4 + 1)) _)
        · refine j_run 39 2 rfl ?_
          refine jc_icmp_ne 41 rfl rfl (fun h7 => ?_) (fun h7 => ?_)
          · refine j_run 42 1 rfl ?_
            refine jc_if_le 43 rfl rfl (fun h8 => ?_) (fun h8 => ?_)
            · refine j_run 44 1 rfl ?_
              refine j_gr 45 2 rfl rfl hp0.1 rfl ?_
              refine j_run 46 5 rfl ?_
              refine j_gr 51 2 rfl rfl hp0.1 rfl ?_
              refine j_run 52 3 rfl ?_
              refine j_ald 55 rfl hp0.2.2.2.2.2.2 rfl ?_
              refine j_run 56 1 rfl ?_
              refine j_ast 57 rfl hp0.2.2.2.2.2.2 rfl ?_
              refine j_goto 58 rfl rfl ?_
              refine j_run 83 1 rfl ?_
              refine j_goto 84 rfl rfl ?_
              exact j_weak (leP_s (leP_n (leP_s (leP_s (leP_s (leP_n (leP_z))))))) (ih x3 (bw (x4 + 1)) _)
            · refine j_run 83 1 rfl ?_
              refine j_goto 84 rfl rfl ?_
              exact j_weak (leP_s (leP_n (leP_s (leP_s (leP_s (leP_n (leP_z))))))) (ih x3 (bw (x4 + 1)) _)
          · refine j_run 59 2 rfl ?_
            refine jc_icmp_le 61 rfl rfl (fun h9 => ?_) (fun h9 => ?_)
            · refine j_run 62 2 rfl ?_
              refine j_gr 64 2 rfl rfl hp0.1 rfl ?_
              refine j_run 65 7 rfl ?_
              refine j_gr 72 2 rfl rfl hp0.1 rfl ?_
              refine j_run 73 3 rfl ?_
              refine j_ald 76 rfl hp0.2.2.2.2.2.2 rfl ?_
              refine j_run 77 1 rfl ?_
              refine j_gr 78 2 rfl rfl hp0.1 rfl ?_
              refine j_run 79 1 rfl ?_
              refine j_ald 80 rfl hp0.2.2.2.2.2.2 rfl ?_
              refine j_cs 81 1 3 rfl rfl mwX2_joined (eX2_joined hA (bw ((-11) - (rd σ (c0 + 1) x4))) (rd σ (c0 + 6) (bw ((bw (x3 + -1)) - 1))) (rd σ (c0 + 6) (bw (x3 + -1))) _) rfl rfl (rok rfl rfl) (Nat.le_of_ble_eq_true rfl) (fun r10 _ h10 => ?_)
              refine j_ast 82 rfl hp0.2.2.2.2.2.2 rfl ?_
              refine j_run 83 1 rfl ?_
              refine j_goto 84 rfl rfl ?_
              exact j_weak (leP_s (leP_n (leP_s (leP_s (leP_s (leP_n (leP_z))))))) (ih (bw (x3 + -1)) (bw (x4 + 1)) _)
            · refine j_run 83 1 rfl ?_
              refine j_goto 84 rfl rfl ?_
              exact j_weak (leP_s (leP_n (leP_s (leP_s (leP_s (leP_n (leP_z))))))) (ih x3 (bw (x4 + 1)) _)
      · exact j_weak (leP_s (leP_n (leP_n (leP_s (leP_n (leP_n (leP_z))))))) (hk152 x3 _)
    · exact j_weak (leP_s (leP_n (leP_n (leP_s (leP_n (leP_n (leP_z))))))) (hk152 x3 _)
theorem eX2_run {X : Cx} {ads : List Nat} {sk : List Sk} (hA : ads.length = sk.length ∧ sk.length ≤ 1000) {c0 : Nat} (hp0 : ocL sk c0) (x1 : Int) (x2 : Int) (σ : Sg) : CF X mX2_run ads sk [.inr (some c0), .inl x1, .inl x2] σ wE (fX2_run c0 x1 x2 σ) := by
  refine CF.of ⟨pX2_run_ok, tbX2_ok, hA.1, hA.2⟩ (plainFor_of_name plX2) (Nat.le_of_ble_eq_true rfl) ?_
  show jX2_run X ads sk (0, [some (.inr (some c0)), some (.inl x1), some (.inl x2), none, none, none], [], σ) (fX2_run c0 x1 x2 σ)
  unfold fX2_run
  refine j_run 0 4 rfl ?_
  refine j_csT 4 0 2 rfl rfl mwJ9_max_7cf53 (eJ9_max_7cf53 hA 0 x1 _) rfl rfl (rok rfl rfl) (Nat.le_of_ble_eq_true rfl) (fun h1 => ?_)
  refine j_run 5 1 rfl ?_
  refine j_weak (leP_s (leP_n (leP_s (leP_s (leP_s (leP_n (leP_z))))))) (JX2_run_L9 hA hp0 x2 _ (fun v11_3 s11 => ?_) FU 0 (fJ9_max_7cf53 0 x1) _)
  refine j_run 85 1 rfl ?_
  refine jc_if_le 86 rfl rfl (fun h12 => ?_) (fun h12 => ?_)
  · refine j_run 87 1 rfl ?_
    refine j_gr 88 2 rfl rfl hp0.1 rfl ?_
    refine j_run 89 3 rfl ?_
    refine j_ald 92 rfl hp0.2.2.2.2.2.2 rfl ?_
    refine j_goto 93 rfl rfl ?_
    exact j_iret 95 rfl rfl rfl
  · refine j_run 94 1 rfl ?_
    exact j_iret 95 rfl rfl rfl
abbrev jX2_tell (X : Cx) (ads : List Nat) (sk : List Sk) (ps : PS) (res : Option (Int × Sg)) : Prop := J X mX2_tell pX2_tell tbX2 (rmD 2 0 0) 0 0 E0 (fun a => FM X mX2_tell ads sk (wE a)) ads sk ps res
theorem JX2_tell_L2 {X : Cx} {ads : List Nat} {sk : List Sk} (hA : ads.length = sk.length ∧ sk.length ≤ 1000) {c0 : Nat} (hp0 : ocL sk c0) (x1 : Int) (x2 : Int) (k64 : Int → Sg → Option (Int × Sg)) (hk64 : ∀ (x3 : Int) (σ : Sg), jX2_tell X ads sk (64, [some (.inr (some c0)), none, none, some (.inl x3)], [], σ) (k64 x3 σ)) : ∀ (n : Nat) (x3 : Int) (σ : Sg), jX2_tell X ads sk (2, [some (.inr (some c0)), some (.inl x1), some (.inl x2), some (.inl x3)], [], σ) (fX2_tell_L2 c0 k64 x1 x2 n x3 σ) := by
  intro n
  induction n with
  | zero => intro x3 σ; exact j_none
  | succ n ih =>
    intro x3 σ
    rw [fX2_tell_L2]
    refine j_run 2 2 rfl ?_
    refine j_gf 4 3 rfl rfl hp0.1 rfl ?_
    refine jc_icmp_ge 5 rfl rfl (fun h1 => ?_) (fun h1 => ?_)
    · refine j_run 6 2 rfl ?_
      refine jc_icmp_ge 8 rfl rfl (fun h2 => ?_) (fun h2 => ?_)
      · refine j_run 9 1 rfl ?_
        refine j_gr 10 4 rfl rfl hp0.1 rfl ?_
        refine j_run 11 1 rfl ?_
        refine j_ald 12 rfl hp0.2.2.1 rfl ?_
        refine j_run 13 1 rfl ?_
        refine jc_icmp_ne 14 rfl rfl (fun h3 => ?_) (fun h3 => ?_)
        · refine j_run 15 1 rfl ?_
          refine j_gr 16 5 rfl rfl hp0.1 rfl ?_
          refine j_run 17 1 rfl ?_
          refine j_ald 18 rfl hp0.2.2.2.2.1 rfl ?_
          refine j_run 19 1 rfl ?_
          refine j_gr 20 6 rfl rfl hp0.1 rfl ?_
          refine j_run 21 3 rfl ?_
          refine j_ald 24 rfl hp0.2.2.2.1 rfl ?_
          refine jc_icmp_eq 25 rfl rfl (fun h4 => ?_) (fun h4 => ?_)
          · exact j_weak (leP_s (leP_n (leP_n (leP_s (leP_z))))) (hk64 x3 _)
          · refine j_run 26 2 rfl ?_
            refine j_gr 28 5 rfl rfl hp0.1 rfl ?_
            refine j_run 29 1 rfl ?_
            refine j_ald 30 rfl hp0.2.2.2.2.1 rfl ?_
            refine j_run 31 1 rfl ?_
            refine j_gr 32 6 rfl rfl hp0.1 rfl ?_
            refine j_run 33 3 rfl ?_
            refine j_ald 36 rfl hp0.2.2.2.1 rfl ?_
            refine j_cv 37 2 2 rfl rfl mwX2_run hp0.1 rfl rfl (eX2_run hA hp0 (rd σ (c0 + 4) x3) (rd σ (c0 + 3) (bw (x3 + 1))) _) rfl rfl (rok rfl rfl) (Nat.le_of_ble_eq_true rfl) (fun q5 _ h5 => ?_)
            refine jc_if_eq 38 rfl rfl (fun h6 => ?_) (fun h6 => ?_)
            · refine j_run 50 1 rfl ?_
              refine j_goto 51 rfl rfl ?_
              exact j_weak (leP_s (leP_s (leP_s (leP_s (leP_z))))) (ih (bw (x3 + 1)) _)
            · exact j_weak (leP_s (leP_n (leP_n (leP_s (leP_z))))) (hk64 x3 _)
        · refine j_run 50 1 rfl ?_
          refine j_goto 51 rfl rfl ?_
          exact j_weak (leP_s (leP_s (leP_s (leP_s (leP_z))))) (ih (bw (x3 + 1)) _)
      · refine j_run 52 1 rfl ?_
        exact j_iret 53 rfl rfl rfl
    · refine j_run 52 1 rfl ?_
      exact j_iret 53 rfl rfl rfl
theorem eX2_tell {X : Cx} {ads : List Nat} {sk : List Sk} (hA : ads.length = sk.length ∧ sk.length ≤ 1000) {c0 : Nat} (hp0 : ocL sk c0) (x1 : Int) (x2 : Int) (σ : Sg) : CF X mX2_tell ads sk [.inr (some c0), .inl x1, .inl x2] σ wE (fX2_tell c0 x1 x2 σ) := by
  refine CF.of ⟨pX2_tell_ok, tbX2_ok, hA.1, hA.2⟩ (plainFor_of_name plX2) (Nat.le_of_ble_eq_true rfl) ?_
  show jX2_tell X ads sk (0, [some (.inr (some c0)), some (.inl x1), some (.inl x2), none], [], σ) (fX2_tell c0 x1 x2 σ)
  unfold fX2_tell
  refine j_run 0 2 rfl ?_
  refine j_weak (leP_s (leP_s (leP_s (leP_s (leP_z))))) (JX2_tell_L2 hA hp0 x1 x2 _ (fun v7_3 s7 => ?_) FU 0 _)
  refine j_run 39 2 rfl ?_
  refine j_gr 41 6 rfl rfl hp0.1 rfl ?_
  refine j_run 42 1 rfl ?_
  refine j_ald 43 rfl hp0.2.2.2.1 rfl ?_
  refine j_run 44 1 rfl ?_
  refine j_gr 45 5 rfl rfl hp0.1 rfl ?_
  refine j_run 46 1 rfl ?_
  refine j_ald 47 rfl hp0.2.2.2.2.1 rfl ?_
  refine j_cv 48 2 2 rfl rfl mwX2_run hp0.1 rfl rfl (eX2_run hA hp0 (rd s7 (c0 + 3) v7_3) (rd s7 (c0 + 4) v7_3) _) rfl rfl (rok rfl rfl) (Nat.le_of_ble_eq_true rfl) (fun q8 _ h8 => ?_)
  exact j_iret 49 rfl rfl rfl
abbrev jX10_held (X : Cx) (ads : List Nat) (sk : List Sk) (σ : Sg) (ps : PS) (res : Option (Int)) : Prop := J X mX10_held pX10_held tbX10 (rmD 1 0 0) 0 0 E0 (fun a => FM X mX10_held ads sk ((wP σ) a)) ads sk ps res
theorem eX10_held {X : Cx} {ads : List Nat} {sk : List Sk} (hA : ads.length = sk.length ∧ sk.length ≤ 1000) (x0 : Int) (x1 : Int) (σ : Sg) : CF X mX10_held ads sk [.inl x0, .inl x1] σ (wP σ) (some (fX10_held x0 x1)) := by
  refine CF.of ⟨pX10_held_ok, tbX10_ok, hA.1, hA.2⟩ (plainFor_of_name plX10) (Nat.le_of_ble_eq_true rfl) ?_
  show jX10_held X ads sk σ (0, [some (.inl x0), some (.inl x1)], [], σ) (some (fX10_held x0 x1))
  unfold fX10_held
  refine j_run 0 3 rfl ?_
  refine j_csT 3 0 2 rfl rfl mwJ9_min_7cf53 (eJ9_min_7cf53 hA x0 x1 _) rfl rfl (rok rfl rfl) (Nat.le_of_ble_eq_true rfl) (fun h1 => ?_)
  refine j_csT 4 1 2 rfl rfl mwJ9_max_7cf53 (eJ9_max_7cf53 hA 0 (fJ9_min_7cf53 x0 x1) _) rfl rfl (rok rfl rfl) (Nat.le_of_ble_eq_true rfl) (fun h2 => ?_)
  exact j_iret 5 rfl rfl rfl
abbrev jX9_matchBy (X : Cx) (ads : List Nat) (sk : List Sk) (ps : PS) (res : Option (Int × Sg)) : Prop := J X mX9_matchBy pX9_matchBy tbX9 (rmD 3 0 0) 0 0 E0 (fun a => FM X mX9_matchBy ads sk (wE a)) ads sk ps res
theorem JX9_matchBy_J96 {X : Cx} {ads : List Nat} {sk : List Sk} (hA : ads.length = sk.length ∧ sk.length ≤ 1000) {c0 : Nat} (hp0 : ocW sk c0) (x5 : Int) (y0 : Int) (σ : Sg) : jX9_matchBy X ads sk (96, [some (.inr (some c0)), none, none, none, none, some (.inl x5)], [.inl y0, .inl 14, .inr (some (c0 + 10))], σ) (fX9_matchBy_J96 c0 x5 y0 σ) := by
  unfold fX9_matchBy_J96
  refine j_cv 48 2 2 rfl rfl mwX2_name hp0.2.2.2.2.1.1 rfl rfl (eX2_name hA hp0.2.2.2.2.1 14 y0 _) rfl rfl (rok rfl rfl) (Nat.le_of_ble_eq_true rfl) (fun s8 _ h8 => ?_)
  refine j_run 49 1 rfl ?_
  refine j_gr 50 0 rfl rfl hp0.1 rfl ?_
  refine j_run 51 2 rfl ?_
  refine j_cv 53 2 2 rfl rfl mwX2_name hp0.2.2.2.2.1.1 rfl rfl (eX2_name hA hp0.2.2.2.2.1 15 x5 _) rfl rfl (rok rfl rfl) (Nat.le_of_ble_eq_true rfl) (fun s9 _ h9 => ?_)
  refine j_run 54 1 rfl ?_
  refine j_gr 55 0 rfl rfl hp0.1 rfl ?_
  refine j_run 56 2 rfl ?_
  refine j_gf 58 3 rfl rfl hp0.1 rfl ?_
  refine j_cv 59 2 2 rfl rfl mwX2_name hp0.2.2.2.2.1.1 rfl rfl (eX2_name hA hp0.2.2.2.2.1 19 (rd s9 c0 6) _) rfl rfl (rok rfl rfl) (Nat.le_of_ble_eq_true rfl) (fun s10 _ h10 => ?_)
  refine j_run 60 1 rfl ?_
  refine j_gr 61 0 rfl rfl hp0.1 rfl ?_
  refine j_run 62 4 rfl ?_
  refine j_cv 66 4 2 rfl rfl mwX2_tell hp0.2.2.2.2.1.1 rfl rfl (eX2_tell hA hp0.2.2.2.2.1 3 (bw (9 - x5)) _) rfl rfl (rok rfl rfl) (Nat.le_of_ble_eq_true rfl) (fun q11 _ h11 => ?_)
  refine j_run 67 1 rfl ?_
  refine j_csNT 68 0 2 rfl rfl mwX10_held (eX10_held hA q11.1 9 _) rfl rfl (rok rfl rfl) (Nat.le_of_ble_eq_true rfl) (fun h12 => ?_)
  exact j_iret 69 rfl rfl rfl
theorem eX9_matchBy {X : Cx} {ads : List Nat} {sk : List Sk} (hA : ads.length = sk.length ∧ sk.length ≤ 1000) {c0 : Nat} (hp0 : ocW sk c0) (x1 : Int) (x2 : Int) (x3 : Int) (x4 : Int) (σ : Sg) : CF X mX9_matchBy ads sk [.inr (some c0), .inl x1, .inl x2, .inl x3, .inl x4] σ wE (fX9_matchBy c0 x1 x2 x3 x4 σ) := by
  refine CF.of ⟨pX9_matchBy_ok, tbX9_ok, hA.1, hA.2⟩ (plainFor_of_name plX9) (Nat.le_of_ble_eq_true rfl) ?_
  show jX9_matchBy X ads sk (0, [some (.inr (some c0)), some (.inl x1), some (.inl x2), some (.inl x3), some (.inl x4), none], [], σ) (fX9_matchBy c0 x1 x2 x3 x4 σ)
  unfold fX9_matchBy
  refine j_run 0 3 rfl ?_
  refine j_csT 3 0 1 rfl rfl mwJ9_abs_0f7a4 (eJ9_abs_0f7a4 hA (bw (x3 - x4)) _) rfl rfl (rok rfl rfl) (Nat.le_of_ble_eq_true rfl) (fun h1 => ?_)
  refine j_run 4 2 rfl ?_
  refine j_gr 6 0 rfl rfl hp0.1 rfl ?_
  refine j_cv 7 1 0 rfl rfl mwX2_forgetNames hp0.2.2.2.2.1.1 rfl rfl (eX2_forgetNames hA hp0.2.2.2.2.1 _) rfl rfl (rok rfl rfl) (Nat.le_of_ble_eq_true rfl) (fun s2 _ h2 => ?_)
  refine j_run 8 1 rfl ?_
  refine j_gr 9 0 rfl rfl hp0.1 rfl ?_
  refine j_run 10 2 rfl ?_
  refine j_cv 12 2 2 rfl rfl mwX2_name hp0.2.2.2.2.1.1 rfl rfl (eX2_name hA hp0.2.2.2.2.1 10 x3 _) rfl rfl (rok rfl rfl) (Nat.le_of_ble_eq_true rfl) (fun s3 _ h3 => ?_)
  refine j_run 13 1 rfl ?_
  refine j_gr 14 0 rfl rfl hp0.1 rfl ?_
  refine j_run 15 2 rfl ?_
  refine j_gr 17 1 rfl rfl hp0.1 rfl ?_
  refine j_gr 18 2 rfl rfl hp0.2.2.2.1.1 rfl ?_
  refine j_run 19 1 rfl ?_
  refine j_ald 20 rfl hp0.2.2.2.1.2.2.2.1 rfl ?_
  refine j_cv 21 2 2 rfl rfl mwX2_name hp0.2.2.2.2.1.1 rfl rfl (eX2_name hA hp0.2.2.2.2.1 11 (rd s3 (c0 + 6) x1) _) rfl rfl (rok rfl rfl) (Nat.le_of_ble_eq_true rfl) (fun s4 _ h4 => ?_)
  refine j_run 22 1 rfl ?_
  refine j_gr 23 0 rfl rfl hp0.1 rfl ?_
  refine j_run 24 2 rfl ?_
  refine j_cv 26 2 2 rfl rfl mwX2_name hp0.2.2.2.2.1.1 rfl rfl (eX2_name hA hp0.2.2.2.2.1 12 x4 _) rfl rfl (rok rfl rfl) (Nat.le_of_ble_eq_true rfl) (fun s5 _ h5 => ?_)
  refine j_run 27 1 rfl ?_
  refine j_gr 28 0 rfl rfl hp0.1 rfl ?_
  refine j_run 29 2 rfl ?_
  refine j_gr 31 1 rfl rfl hp0.1 rfl ?_
  refine j_gr 32 2 rfl rfl hp0.2.2.2.1.1 rfl ?_
  refine j_run 33 1 rfl ?_
  refine j_ald 34 rfl hp0.2.2.2.1.2.2.2.1 rfl ?_
  refine j_cv 35 2 2 rfl rfl mwX2_name hp0.2.2.2.2.1.1 rfl rfl (eX2_name hA hp0.2.2.2.2.1 13 (rd s5 (c0 + 6) x2) _) rfl rfl (rok rfl rfl) (Nat.le_of_ble_eq_true rfl) (fun s6 _ h6 => ?_)
  refine j_run 36 1 rfl ?_
  refine j_gr 37 0 rfl rfl hp0.1 rfl ?_
  refine j_run 38 2 rfl ?_
  refine j_gr 40 1 rfl rfl hp0.1 rfl ?_
  refine j_run 41 2 rfl ?_
  refine j_cv 43 3 2 rfl rfl mwX1_areKin hp0.2.2.2.1.1 rfl rfl (eX1_areKin hA hp0.2.2.2.1 x1 x2 _) rfl rfl (rok rfl rfl) (Nat.le_of_ble_eq_true rfl) (fun r7 _ h7 => ?_)
  refine jc_if_eq 44 rfl rfl (fun h13 => ?_) (fun h13 => ?_)
  · refine j_run 47 1 rfl ?_
    exact j_weak (leP_s (leP_n (leP_n (leP_n (leP_n (leP_s (leP_z))))))) (JX9_matchBy_J96 hA hp0 (fJ9_abs_0f7a4 (bw (x3 - x4))) 0 _)
  · refine j_run 45 1 rfl ?_
    refine j_goto 46 rfl rfl ?_
    exact j_weak (leP_s (leP_n (leP_n (leP_n (leP_n (leP_s (leP_z))))))) (JX9_matchBy_J96 hA hp0 (fJ9_abs_0f7a4 (bw (x3 - x4))) 1 _)
abbrev jX9_matchOf (X : Cx) (ads : List Nat) (sk : List Sk) (ps : PS) (res : Option (Int × Sg)) : Prop := J X mX9_matchOf pX9_matchOf tbX9 (rmD 4 0 0) 0 0 E0 (fun a => FM X mX9_matchOf ads sk (wE a)) ads sk ps res
theorem eX9_matchOf {X : Cx} {ads : List Nat} {sk : List Sk} (hA : ads.length = sk.length ∧ sk.length ≤ 1000) {c0 : Nat} (hp0 : ocW sk c0) (x1 : Int) (x2 : Int) (σ : Sg) : CF X mX9_matchOf ads sk [.inr (some c0), .inl x1, .inl x2] σ wE (fX9_matchOf c0 x1 x2 σ) := by
  refine CF.of ⟨pX9_matchOf_ok, tbX9_ok, hA.1, hA.2⟩ (plainFor_of_name plX9) (Nat.le_of_ble_eq_true rfl) ?_
  show jX9_matchOf X ads sk (0, [some (.inr (some c0)), some (.inl x1), some (.inl x2)], [], σ) (fX9_matchOf c0 x1 x2 σ)
  unfold fX9_matchOf
  refine j_run 0 4 rfl ?_
  refine j_gr 4 1 rfl rfl hp0.1 rfl ?_
  refine j_gr 5 4 rfl rfl hp0.2.2.2.1.1 rfl ?_
  refine j_run 6 1 rfl ?_
  refine j_ald 7 rfl hp0.2.2.2.1.2.2.1 rfl ?_
  refine j_run 8 1 rfl ?_
  refine j_gr 9 1 rfl rfl hp0.1 rfl ?_
  refine j_gr 10 4 rfl rfl hp0.2.2.2.1.1 rfl ?_
  refine j_run 11 1 rfl ?_
  refine j_ald 12 rfl hp0.2.2.2.1.2.2.1 rfl ?_
  refine j_cv 13 5 4 rfl rfl mwX9_matchBy hp0.1 rfl rfl (eX9_matchBy hA hp0 x1 x2 (rd σ (c0 + 5) x1) (rd σ (c0 + 5) x2) _) rfl rfl (rok rfl rfl) (Nat.le_of_ble_eq_true rfl) (fun q1 _ h1 => ?_)
  exact j_iret 14 rfl rfl rfl
abbrev jX0_asksNext (X : Cx) (ads : List Nat) (sk : List Sk) (ps : PS) (res : Option (Int × Sg)) : Prop := J X mX0_asksNext pX0_asksNext tbX0 (rmD 0 0 0) 0 0 E0 (fun a => FM X mX0_asksNext ads sk (wE a)) ads sk ps res
theorem JX0_asksNext_L7 {X : Cx} {ads : List Nat} {sk : List Sk} (hA : ads.length = sk.length ∧ sk.length ≤ 1000) (hp0 : ocC sk) (x1 : Int) (k77 : Int → Sg → Option (Int × Sg)) (hk77 : ∀ (x2 : Int) (σ : Sg), jX0_asksNext X ads sk (77, [some (.inr (some 65)), some (.inl x1), some (.inl x2), none, none, none, none], [], σ) (k77 x2 σ)) : ∀ (n : Nat) (x2 : Int) (x3 : Int) (x4 : Int) (σ : Sg), jX0_asksNext X ads sk (7, [some (.inr (some 65)), some (.inl x1), some (.inl x2), some (.inl x3), some (.inl x4), none, none], [], σ) (fX0_asksNext_L7 k77 x1 n x2 x3 x4 σ) := by
  intro n
  induction n with
  | zero => intro x2 x3 x4 σ; exact j_none
  | succ n ih =>
    intro x2 x3 x4 σ
    rw [fX0_asksNext_L7]
    refine j_run 6 2 rfl ?_
    refine j_gf 8 1 rfl rfl hp0.1 rfl ?_
    refine jc_icmp_ge 9 rfl rfl (fun h1 => ?_) (fun h1 => ?_)
    · refine j_run 10 1 rfl ?_
      refine j_gr 11 8 rfl rfl hp0.1 rfl ?_
      refine j_run 12 4 rfl ?_
      refine j_gr 16 7 rfl rfl hp0.1 rfl ?_
      refine j_run 17 1 rfl ?_
      refine j_ald 18 rfl hp0.2.2.2.2.2.1 rfl ?_
      refine j_run 19 1 rfl ?_
      refine j_ald 20 rfl hp0.2.2.2.1 rfl ?_
      refine j_run 21 2 rfl ?_
      refine j_gr 23 4 rfl rfl hp0.1 rfl ?_
      refine j_run 24 1 rfl ?_
      refine j_ald 25 rfl hp0.2.2.1 rfl ?_
      refine j_run 26 1 rfl ?_
      refine j_gr 27 7 rfl rfl hp0.1 rfl ?_
      refine j_run 28 1 rfl ?_
      refine j_ald 29 rfl hp0.2.2.2.2.2.1 rfl ?_
      refine j_run 30 3 rfl ?_
      refine jc_if_ne 33 rfl rfl (fun h2 => ?_) (fun h2 => ?_)
      · refine j_run 34 2 rfl ?_
        refine jc_icmp_le 36 rfl rfl (fun h3 => ?_) (fun h3 => ?_)
        · refine j_run 37 1 rfl ?_
          refine j_gr 38 7 rfl rfl hp0.1 rfl ?_
          refine j_run 39 1 rfl ?_
          refine j_ald 40 rfl hp0.2.2.2.2.2.1 rfl ?_
          refine j_run 41 3 rfl ?_
          refine j_run 44 1 rfl ?_
          refine j_goto 45 rfl rfl ?_
          exact j_weak (leP_s (leP_s (leP_s (leP_s (leP_s (leP_n (leP_n (leP_z)))))))) (ih (rd σ 70 x4) (rd σ 68 (bw ((bw (12 * x1)) + (rd σ 70 x4)))) (bw (x4 + 1)) _)
        · refine j_run 44 1 rfl ?_
          refine j_goto 45 rfl rfl ?_
          exact j_weak (leP_s (leP_s (leP_s (leP_s (leP_s (leP_n (leP_n (leP_z)))))))) (ih x2 x3 (bw (x4 + 1)) _)
      · refine j_run 44 1 rfl ?_
        refine j_goto 45 rfl rfl ?_
        exact j_weak (leP_s (leP_s (leP_s (leP_s (leP_s (leP_n (leP_n (leP_z)))))))) (ih x2 x3 (bw (x4 + 1)) _)
    · exact j_weak (leP_s (leP_s (leP_s (leP_n (leP_n (leP_n (leP_n (leP_z)))))))) (hk77 x2 _)
theorem JX0_asksNext_J175 {X : Cx} {ads : List Nat} {sk : List Sk} (hA : ads.length = sk.length ∧ sk.length ≤ 1000) (hp0 : ocC sk) (x1 : Int) (x2 : Int) (σ : Sg) : jX0_asksNext X ads sk (175, [some (.inr (some 65)), some (.inl x1), some (.inl x2), none, none, none, none], [], σ) (fX0_asksNext_J175 x1 x2 σ) := by
  unfold fX0_asksNext_J175
  refine j_run 106 1 rfl ?_
  refine j_gr 107 3 rfl rfl hp0.1 rfl ?_
  refine j_run 108 2 rfl ?_
  refine j_ast 110 rfl hp0.2.1 rfl ?_
  refine j_run 111 1 rfl ?_
  refine j_gr 112 3 rfl rfl hp0.1 rfl ?_
  refine j_run 113 2 rfl ?_
  refine j_ast 115 rfl hp0.2.1 rfl ?_
  refine j_run 116 1 rfl ?_
  exact j_zret 117 rfl rfl (by decide) rfl
theorem JX0_asksNext_J161 {X : Cx} {ads : List Nat} {sk : List Sk} (hA : ads.length = sk.length ∧ sk.length ≤ 1000) (hp0 : ocC sk) (x1 : Int) (x2 : Int) (x5 : Int) (σ : Sg) : jX0_asksNext X ads sk (161, [some (.inr (some 65)), some (.inl x1), some (.inl x2), none, none, some (.inl x5), none], [], σ) (fX0_asksNext_J161 x1 x2 x5 σ) := by
  unfold fX0_asksNext_J161
  refine j_run 98 2 rfl ?_
  refine jc_icmp_eq 100 rfl rfl (fun h6 => ?_) (fun h6 => ?_)
  · exact j_weak (leP_s (leP_s (leP_s (leP_n (leP_n (leP_n (leP_n (leP_z)))))))) (JX0_asksNext_J175 hA hp0 x1 x2 _)
  · refine j_run 101 1 rfl ?_
    refine j_gr 102 3 rfl rfl hp0.1 rfl ?_
    refine j_run 103 2 rfl ?_
    refine j_ast 105 rfl hp0.2.1 rfl ?_
    exact j_weak (leP_s (leP_s (leP_s (leP_n (leP_n (leP_n (leP_n (leP_z)))))))) (JX0_asksNext_J175 hA hp0 x1 x2 _)
theorem JX0_asksNext_J139 {X : Cx} {ads : List Nat} {sk : List Sk} (hA : ads.length = sk.length ∧ sk.length ≤ 1000) (hp0 : ocC sk) (x1 : Int) (x2 : Int) (x4 : Int) (x5 : Int) (y0 : Int) (σ : Sg) : jX0_asksNext X ads sk (139, [some (.inr (some 65)), some (.inl x1), some (.inl x2), none, some (.inl x4), some (.inl x5), none], [.inl y0], σ) (fX0_asksNext_J139 x1 x2 x4 x5 y0 σ) := by
  unfold fX0_asksNext_J139
  refine j_run 88 3 rfl ?_
  refine jc_icmp_gt 91 rfl rfl (fun h7 => ?_) (fun h7 => ?_)
  · exact j_weak (leP_s (leP_s (leP_s (leP_n (leP_n (leP_s (leP_n (leP_z)))))))) (JX0_asksNext_J161 hA hp0 x1 x2 x5 _)
  · refine j_run 92 2 rfl ?_
    refine jc_icmp_ne 94 rfl rfl (fun h8 => ?_) (fun h8 => ?_)
    · refine j_run 95 2 rfl ?_
      refine jc_icmp_ge 97 rfl rfl (fun h9 => ?_) (fun h9 => ?_)
      · exact j_weak (leP_s (leP_s (leP_s (leP_n (leP_n (leP_s (leP_n (leP_z)))))))) (JX0_asksNext_J161 hA hp0 x1 x2 x5 _)
      · refine j_run 116 1 rfl ?_
        exact j_zret 117 rfl rfl (by decide) rfl
    · refine j_run 116 1 rfl ?_
      exact j_zret 117 rfl rfl (by decide) rfl
theorem eX0_asksNext {X : Cx} {ads : List Nat} {sk : List Sk} (hA : ads.length = sk.length ∧ sk.length ≤ 1000) (hp0 : ocC sk) (x1 : Int) (σ : Sg) : CF X mX0_asksNext ads sk [.inr (some 65), .inl x1] σ wE (fX0_asksNext x1 σ) := by
  refine CF.of ⟨pX0_asksNext_ok, tbX0_ok, hA.1, hA.2⟩ (plainFor_of_name plX0) (Nat.le_of_ble_eq_true rfl) ?_
  show jX0_asksNext X ads sk (0, [some (.inr (some 65)), some (.inl x1), none, none, none, none, none], [], σ) (fX0_asksNext x1 σ)
  unfold fX0_asksNext
  refine j_run 0 6 rfl ?_
  refine j_weak (leP_s (leP_s (leP_s (leP_s (leP_s (leP_n (leP_n (leP_z)))))))) (JX0_asksNext_L7 hA hp0 x1 _ (fun v4_2 s4 => ?_) FU (-1) 0 0 _)
  refine j_run 46 2 rfl ?_
  refine jc_icmp_ne 48 rfl rfl (fun h5 => ?_) (fun h5 => ?_)
  · refine j_run 49 1 rfl ?_
    exact j_zret 50 rfl rfl (by decide) rfl
  · refine j_run 51 1 rfl ?_
    refine j_gr 52 4 rfl rfl hp0.1 rfl ?_
    refine j_run 53 2 rfl ?_
    refine j_ald 55 rfl hp0.2.2.1 rfl ?_
    refine j_run 56 4 rfl ?_
    refine j_ast 60 rfl hp0.2.2.1 rfl ?_
    refine j_run 61 1 rfl ?_
    refine j_gr 62 8 rfl rfl hp0.1 rfl ?_
    refine j_run 63 5 rfl ?_
    refine j_ald 68 rfl hp0.2.2.2.1 rfl ?_
    refine j_run 69 2 rfl ?_
    refine j_gr 71 3 rfl rfl hp0.1 rfl ?_
    refine j_run 72 1 rfl ?_
    refine j_ald 73 rfl hp0.2.1 rfl ?_
    refine j_run 74 3 rfl ?_
    refine jc_icmp_ne 77 rfl rfl (fun h10 => ?_) (fun h10 => ?_)
    · refine j_run 78 1 rfl ?_
      refine j_goto 79 rfl rfl ?_
      exact j_weak (leP_s (leP_s (leP_s (leP_n (leP_s (leP_s (leP_n (leP_z)))))))) (JX0_asksNext_J139 hA hp0 x1 v4_2 (rd (wr s4 67 x1 (bor (rd s4 67 x1) (bshl 1 v4_2))) 68 (bw ((bw (12 * v4_2)) + x1))) (rd (wr s4 67 x1 (bor (rd s4 67 x1) (bshl 1 v4_2))) 66 v4_2) 0 _)
    · refine j_run 80 1 rfl ?_
      refine j_gr 81 8 rfl rfl hp0.1 rfl ?_
      refine j_run 82 5 rfl ?_
      refine j_ald 87 rfl hp0.2.2.2.1 rfl ?_
      exact j_weak (leP_s (leP_s (leP_s (leP_n (leP_s (leP_s (leP_n (leP_z)))))))) (JX0_asksNext_J139 hA hp0 x1 v4_2 (rd (wr s4 67 x1 (bor (rd s4 67 x1) (bshl 1 v4_2))) 68 (bw ((bw (12 * v4_2)) + x1))) (rd (wr s4 67 x1 (bor (rd s4 67 x1) (bshl 1 v4_2))) 66 v4_2) (rd (wr s4 67 x1 (bor (rd s4 67 x1) (bshl 1 v4_2))) 68 (bw ((bw (12 * v4_2)) + (rd (wr s4 67 x1 (bor (rd s4 67 x1) (bshl 1 v4_2))) 66 v4_2)))) _)
abbrev jX0_settle (X : Cx) (ads : List Nat) (sk : List Sk) (ps : PS) (res : Option (Sg)) : Prop := J X mX0_settle pX0_settle tbX0 (rmD 5 0 0) 0 0 E0 (fun a => FM X mX0_settle ads sk (wV a)) ads sk ps res
theorem JX0_settle_L20 {X : Cx} {ads : List Nat} {sk : List Sk} (hA : ads.length = sk.length ∧ sk.length ≤ 1000) (hp0 : ocC sk) {c1 : Nat} (hp1 : ocW sk c1) (x2 : Int) (k10 : Int → Sg → Option (Sg)) (hk10 : ∀ (x2 : Int) (σ : Sg), jX0_settle X ads sk (10, [some (.inr (some 65)), some (.inr (some c1)), some (.inl x2), none, none], [], σ) (k10 x2 σ)) : ∀ (n : Nat) (x3 : Int) (σ : Sg), jX0_settle X ads sk (20, [some (.inr (some 65)), some (.inr (some c1)), some (.inl x2), some (.inl x3), none], [], σ) (fX0_settle_L20 c1 k10 x2 n x3 σ) := by
  intro n
  induction n with
  | zero => intro x3 σ; exact j_none
  | succ n ih =>
    intro x3 σ
    rw [fX0_settle_L20]
    refine j_run 12 2 rfl ?_
    refine j_gf 14 1 rfl rfl hp0.1 rfl ?_
    refine jc_icmp_ge 15 rfl rfl (fun h3 => ?_) (fun h3 => ?_)
    · refine j_run 16 1 rfl ?_
      refine j_gr 17 8 rfl rfl hp0.1 rfl ?_
      refine j_run 18 2 rfl ?_
      refine j_gr 20 6 rfl rfl hp0.1 rfl ?_
      refine j_run 21 1 rfl ?_
      refine j_ald 22 rfl hp0.2.2.2.2.1 rfl ?_
      refine j_run 23 2 rfl ?_
      refine j_gr 25 7 rfl rfl hp0.1 rfl ?_
      refine j_run 26 1 rfl ?_
      refine j_ald 27 rfl hp0.2.2.2.2.2.1 rfl ?_
      refine j_run 28 3 rfl ?_
      refine j_gr 31 6 rfl rfl hp0.1 rfl ?_
      refine j_run 32 1 rfl ?_
      refine j_ald 33 rfl hp0.2.2.2.2.1 rfl ?_
      refine j_run 34 1 rfl ?_
      refine j_gr 35 7 rfl rfl hp0.1 rfl ?_
      refine j_run 36 1 rfl ?_
      refine j_ald 37 rfl hp0.2.2.2.2.2.1 rfl ?_
      refine j_cv 38 2 2 rfl rfl mwX9_matchOf hp1.1 rfl rfl (eX9_matchOf hA hp1 (rd σ 69 x2) (rd σ 70 x3) _) rfl rfl (rok rfl rfl) (Nat.le_of_ble_eq_true rfl) (fun q4 _ h4 => ?_)
      refine j_ast 39 rfl hp0.2.2.2.1 rfl ?_
      refine j_run 40 1 rfl ?_
      refine j_gr 41 8 rfl rfl hp0.1 rfl ?_
      refine j_run 42 2 rfl ?_
      refine j_gr 44 7 rfl rfl hp0.1 rfl ?_
      refine j_run 45 1 rfl ?_
      refine j_ald 46 rfl hp0.2.2.2.2.2.1 rfl ?_
      refine j_run 47 2 rfl ?_
      refine j_gr 49 6 rfl rfl hp0.1 rfl ?_
      refine j_run 50 1 rfl ?_
      refine j_ald 51 rfl hp0.2.2.2.2.1 rfl ?_
      refine j_run 52 3 rfl ?_
      refine j_gr 55 7 rfl rfl hp0.1 rfl ?_
      refine j_run 56 1 rfl ?_
      refine j_ald 57 rfl hp0.2.2.2.2.2.1 rfl ?_
      refine j_run 58 1 rfl ?_
      refine j_gr 59 6 rfl rfl hp0.1 rfl ?_
      refine j_run 60 1 rfl ?_
      refine j_ald 61 rfl hp0.2.2.2.2.1 rfl ?_
      refine j_cv 62 2 2 rfl rfl mwX9_matchOf hp1.1 rfl rfl (eX9_matchOf hA hp1 (rd (wr q4.2 68 (bw ((bw (12 * (rd σ 69 x2))) + (rd σ 70 x3))) q4.1) 70 x3) (rd (wr q4.2 68 (bw ((bw (12 * (rd σ 69 x2))) + (rd σ 70 x3))) q4.1) 69 x2) _) rfl rfl (rok rfl rfl) (Nat.le_of_ble_eq_true rfl) (fun q5 _ h5 => ?_)
      refine j_ast 63 rfl hp0.2.2.2.1 rfl ?_
      refine j_run 64 1 rfl ?_
      refine j_goto 65 rfl rfl ?_
      exact j_weak (leP_s (leP_s (leP_s (leP_s (leP_n (leP_z)))))) (ih (bw (x3 + 1)) _)
    · refine j_run 66 1 rfl ?_
      refine j_goto 67 rfl rfl ?_
      exact j_weak (leP_s (leP_s (leP_s (leP_n (leP_n (leP_z)))))) (hk10 (bw (x2 + 1)) _)
theorem JX0_settle_L10 {X : Cx} {ads : List Nat} {sk : List Sk} (hA : ads.length = sk.length ∧ sk.length ≤ 1000) (hp0 : ocC sk) {c1 : Nat} (hp1 : ocW sk c1) (k114 : Sg → Option (Sg)) (hk114 : ∀  (σ : Sg), jX0_settle X ads sk (114, [some (.inr (some 65)), none, none, none, none], [], σ) (k114 σ)) : ∀ (n : Nat) (x2 : Int) (σ : Sg), jX0_settle X ads sk (10, [some (.inr (some 65)), some (.inr (some c1)), some (.inl x2), none, none], [], σ) (fX0_settle_L10 c1 k114 n x2 σ) := by
  intro n
  induction n with
  | zero => intro x2 σ; exact j_none
  | succ n ih =>
    intro x2 σ
    rw [fX0_settle_L10]
    refine j_run 6 2 rfl ?_
    refine j_gf 8 0 rfl rfl hp0.1 rfl ?_
    refine jc_icmp_ge 9 rfl rfl (fun h2 => ?_) (fun h2 => ?_)
    · refine j_run 10 2 rfl ?_
      exact j_weak (leP_s (leP_s (leP_s (leP_s (leP_n (leP_z)))))) (JX0_settle_L20 hA hp0 hp1 x2 _ ih FU 0 _)
    · exact j_weak (leP_s (leP_n (leP_n (leP_n (leP_n (leP_z)))))) (hk114 _)
theorem JX0_settle_L134 {X : Cx} {ads : List Nat} {sk : List Sk} (hA : ads.length = sk.length ∧ sk.length ≤ 1000) (hp0 : ocC sk) {c1 : Nat} (hp1 : ocW sk c1) (x3 : Int) (k118 : Int → Int → Sg → Option (Sg)) (hk118 : ∀ (x2 : Int) (x3 : Int) (σ : Sg), jX0_settle X ads sk (118, [some (.inr (some 65)), none, some (.inl x2), some (.inl x3), none], [], σ) (k118 x2 x3 σ)) : ∀ (n : Nat) (x2 : Int) (x4 : Int) (σ : Sg), jX0_settle X ads sk (134, [some (.inr (some 65)), none, some (.inl x2), some (.inl x3), some (.inl x4)], [], σ) (fX0_settle_L134 c1 k118 x3 n x2 x4 σ) := by
  intro n
  induction n with
  | zero => intro x2 x4 σ; exact j_none
  | succ n ih =>
    intro x2 x4 σ
    rw [fX0_settle_L134]
    refine j_run 81 2 rfl ?_
    refine j_gf 83 0 rfl rfl hp0.1 rfl ?_
    refine jc_icmp_ge 84 rfl rfl (fun h9 => ?_) (fun h9 => ?_)
    · refine j_run 85 2 rfl ?_
      refine j_gr 87 3 rfl rfl hp0.1 rfl ?_
      refine j_run 88 1 rfl ?_
      refine j_gr 89 6 rfl rfl hp0.1 rfl ?_
      refine j_run 90 1 rfl ?_
      refine j_ald 91 rfl hp0.2.2.2.2.1 rfl ?_
      refine j_ald 92 rfl hp0.2.1 rfl ?_
      refine j_run 93 1 rfl ?_
      refine jc_icmp_ne 94 rfl rfl (fun h10 => ?_) (fun h10 => ?_)
      · refine j_run 95 2 rfl ?_
        refine j_gr 97 6 rfl rfl hp0.1 rfl ?_
        refine j_run 98 1 rfl ?_
        refine j_ald 99 rfl hp0.2.2.2.2.1 rfl ?_
        refine j_cv 100 3 1 rfl rfl mwX0_asksNext hp0.1 rfl rfl (eX0_asksNext hA hp0 (rd σ 69 x4) _) rfl rfl (rok rfl rfl) (Nat.le_of_ble_eq_true rfl) (fun q11 _ h11 => ?_)
        refine jc_if_eq 101 rfl rfl (fun h12 => ?_) (fun h12 => ?_)
        · refine j_run 104 1 rfl ?_
          refine j_run 105 3 rfl ?_
          refine j_goto 108 rfl rfl ?_
          exact j_weak (leP_s (leP_n (leP_s (leP_s (leP_s (leP_z)))))) (ih (bor x2 0) (bw (x4 + 1)) _)
        · refine j_run 102 1 rfl ?_
          refine j_goto 103 rfl rfl ?_
          refine j_run 105 3 rfl ?_
          refine j_goto 108 rfl rfl ?_
          exact j_weak (leP_s (leP_n (leP_s (leP_s (leP_s (leP_z)))))) (ih (bor x2 1) (bw (x4 + 1)) _)
      · refine j_run 104 1 rfl ?_
        refine j_run 105 3 rfl ?_
        refine j_goto 108 rfl rfl ?_
        exact j_weak (leP_s (leP_n (leP_s (leP_s (leP_s (leP_z)))))) (ih (bor x2 0) (bw (x4 + 1)) _)
    · refine j_run 109 1 rfl ?_
      refine j_goto 110 rfl rfl ?_
      exact j_weak (leP_s (leP_n (leP_s (leP_s (leP_n (leP_z)))))) (hk118 x2 (bw (x3 + 1)) _)
theorem JX0_settle_L118 {X : Cx} {ads : List Nat} {sk : List Sk} (hA : ads.length = sk.length ∧ sk.length ≤ 1000) (hp0 : ocC sk) {c1 : Nat} (hp1 : ocW sk c1) : ∀ (n : Nat) (x2 : Int) (x3 : Int) (σ : Sg), jX0_settle X ads sk (118, [some (.inr (some 65)), none, some (.inl x2), some (.inl x3), none], [], σ) (fX0_settle_L118 c1 n x2 x3 σ) := by
  intro n
  induction n with
  | zero => intro x2 x3 σ; exact j_none
  | succ n ih =>
    intro x2 x3 σ
    rw [fX0_settle_L118]
    refine j_run 72 2 rfl ?_
    refine jc_icmp_gt 74 rfl rfl (fun h7 => ?_) (fun h7 => ?_)
    · exact j_vret 111 rfl rfl rfl
    · refine j_run 75 1 rfl ?_
      refine jc_if_eq 76 rfl rfl (fun h8 => ?_) (fun h8 => ?_)
      · exact j_vret 111 rfl rfl rfl
      · refine j_run 77 4 rfl ?_
        exact j_weak (leP_s (leP_n (leP_s (leP_s (leP_s (leP_z)))))) (JX0_settle_L134 hA hp0 hp1 x3 _ ih FU 0 0 _)
theorem eX0_settle {X : Cx} {ads : List Nat} {sk : List Sk} (hA : ads.length = sk.length ∧ sk.length ≤ 1000) (hp0 : ocC sk) {c1 : Nat} (hp1 : ocW sk c1) (σ : Sg) : CF X mX0_settle ads sk [.inr (some 65), .inr (some c1)] σ wV (fX0_settle c1 σ) := by
  refine CF.of ⟨pX0_settle_ok, tbX0_ok, hA.1, hA.2⟩ (plainFor_of_name plX0) (Nat.le_of_ble_eq_true rfl) ?_
  show jX0_settle X ads sk (0, [some (.inr (some 65)), some (.inr (some c1)), none, none, none], [], σ) (fX0_settle c1 σ)
  unfold fX0_settle
  refine j_run 0 2 rfl ?_
  refine j_gr 2 9 rfl rfl hp1.1 rfl ?_
  refine j_cv 3 1 1 rfl rfl mwX0_gather hp0.1 rfl rfl (eX0_gather hA hp0 hp1.2.2.2.1 _) rfl rfl (rok rfl rfl) (Nat.le_of_ble_eq_true rfl) (fun s1 _ h1 => ?_)
  refine j_run 4 2 rfl ?_
  refine j_weak (leP_s (leP_s (leP_s (leP_n (leP_n (leP_z)))))) (JX0_settle_L10 hA hp0 hp1 _ (fun s6 => ?_) FU 0 _)
  refine j_run 68 4 rfl ?_
  exact j_weak (leP_s (leP_n (leP_s (leP_s (leP_n (leP_z)))))) (JX0_settle_L118 hA hp0 hp1 FU 1 0 _)
abbrev jX9_foundOf (X : Cx) (ads : List Nat) (sk : List Sk) (ps : PS) (res : Option (Int × Sg)) : Prop := J X mX9_foundOf pX9_foundOf tbX9 (rmD 4 0 0) 0 0 E0 (fun a => FM X mX9_foundOf ads sk (wE a)) ads sk ps res
theorem eX9_foundOf {X : Cx} {ads : List Nat} {sk : List Sk} (hA : ads.length = sk.length ∧ sk.length ≤ 1000) {c0 : Nat} (hp0 : ocW sk c0) (x1 : Int) (x2 : Int) (σ : Sg) : CF X mX9_foundOf ads sk [.inr (some c0), .inl x1, .inl x2] σ wE (fX9_foundOf c0 x1 x2 σ) := by
  refine CF.of ⟨pX9_foundOf_ok, tbX9_ok, hA.1, hA.2⟩ (plainFor_of_name plX9) (Nat.le_of_ble_eq_true rfl) ?_
  show jX9_foundOf X ads sk (0, [some (.inr (some c0)), some (.inl x1), some (.inl x2), none, none], [], σ) (fX9_foundOf c0 x1 x2 σ)
  unfold fX9_foundOf
  refine j_run 0 1 rfl ?_
  refine j_gr 1 1 rfl rfl hp0.1 rfl ?_
  refine j_gr 2 4 rfl rfl hp0.2.2.2.1.1 rfl ?_
  refine j_run 3 1 rfl ?_
  refine j_ald 4 rfl hp0.2.2.2.1.2.2.1 rfl ?_
  refine j_run 5 2 rfl ?_
  refine j_gr 7 1 rfl rfl hp0.1 rfl ?_
  refine j_gr 8 4 rfl rfl hp0.2.2.2.1.1 rfl ?_
  refine j_run 9 1 rfl ?_
  refine j_ald 10 rfl hp0.2.2.2.1.2.2.1 rfl ?_
  refine j_run 11 6 rfl ?_
  refine j_cv 17 5 4 rfl rfl mwX9_matchBy hp0.1 rfl rfl (eX9_matchBy hA hp0 x1 x2 (rd σ (c0 + 5) x1) (rd σ (c0 + 5) x2) _) rfl rfl (rok rfl rfl) (Nat.le_of_ble_eq_true rfl) (fun q1 _ h1 => ?_)
  refine j_run 18 5 rfl ?_
  refine j_cv 23 5 4 rfl rfl mwX9_matchBy hp0.1 rfl rfl (eX9_matchBy hA hp0 x2 x1 (rd σ (c0 + 5) x2) (rd σ (c0 + 5) x1) _) rfl rfl (rok rfl rfl) (Nat.le_of_ble_eq_true rfl) (fun q2 _ h2 => ?_)
  refine j_csT 24 6 2 rfl rfl mwJ9_min_7cf53 (eJ9_min_7cf53 hA q1.1 q2.1 _) rfl rfl (rok rfl rfl) (Nat.le_of_ble_eq_true rfl) (fun h3 => ?_)
  exact j_iret 25 rfl rfl rfl
abbrev jX0_sumWith (X : Cx) (ads : List Nat) (sk : List Sk) (σ : Sg) (ps : PS) (res : Option (Int)) : Prop := J X mX0_sumWith pX0_sumWith tbX0 (rmD 0 0 0) 0 0 E0 (fun a => FM X mX0_sumWith ads sk ((wP σ) a)) ads sk ps res
theorem eX0_sumWith {X : Cx} {ads : List Nat} {sk : List Sk} (hA : ads.length = sk.length ∧ sk.length ≤ 1000) (hp0 : ocC sk) (x1 : Int) (x2 : Int) (x3 : Int) (σ : Sg) : CF X mX0_sumWith ads sk [.inr (some 65), .inl x1, .inl x2, .inl x3] σ (wP σ) (fX0_sumWith x1 x2 x3 σ) := by
  refine CF.of ⟨pX0_sumWith_ok, tbX0_ok, hA.1, hA.2⟩ (plainFor_of_name plX0) (Nat.le_of_ble_eq_true rfl) ?_
  show jX0_sumWith X ads sk σ (0, [some (.inr (some 65)), some (.inl x1), some (.inl x2), some (.inl x3)], [], σ) (fX0_sumWith x1 x2 x3 σ)
  unfold fX0_sumWith
  refine j_run 0 1 rfl ?_
  refine j_gr 1 8 rfl rfl hp0.1 rfl ?_
  refine j_run 2 2 rfl ?_
  refine j_gr 4 6 rfl rfl hp0.1 rfl ?_
  refine j_run 5 1 rfl ?_
  refine j_ald 6 rfl hp0.2.2.2.2.1 rfl ?_
  refine j_run 7 2 rfl ?_
  refine j_gr 9 7 rfl rfl hp0.1 rfl ?_
  refine j_run 10 1 rfl ?_
  refine j_ald 11 rfl hp0.2.2.2.2.2.1 rfl ?_
  refine j_run 12 1 rfl ?_
  refine j_ald 13 rfl hp0.2.2.2.1 rfl ?_
  refine j_run 14 1 rfl ?_
  refine j_gr 15 10 rfl rfl hp0.1 rfl ?_
  refine j_run 16 4 rfl ?_
  refine j_gf 20 1 rfl rfl hp0.1 rfl ?_
  refine j_run 21 7 rfl ?_
  refine j_ald 28 rfl hp0.2.2.2.2.2.2.1 rfl ?_
  refine j_run 29 1 rfl ?_
  exact j_iret 30 rfl rfl rfl
abbrev jX0_greatestSum (X : Cx) (ads : List Nat) (sk : List Sk) (σ : Sg) (ps : PS) (res : Option (Int)) : Prop := J X mX0_greatestSum pX0_greatestSum tbX0 (rmD 1 0 0) 0 0 E0 (fun a => FM X mX0_greatestSum ads sk ((wP σ) a)) ads sk ps res
theorem JX0_greatestSum_L19 {X : Cx} {ads : List Nat} {sk : List Sk} (hA : ads.length = sk.length ∧ sk.length ≤ 1000) (hp0 : ocC sk) (σ : Sg) (x1 : Int) (x2 : Int) : ∀ (n : Nat) (x3 : Int) (x4 : Int), jX0_greatestSum X ads sk σ (19, [some (.inr (some 65)), some (.inl x1), some (.inl x2), some (.inl x3), some (.inl x4)], [], σ) (fX0_greatestSum_L19 σ x1 x2 n x3 x4) := by
  intro n
  induction n with
  | zero => intro x3 x4; exact j_none
  | succ n ih =>
    intro x3 x4
    rw [fX0_greatestSum_L19]
    refine j_run 14 2 rfl ?_
    refine j_gf 16 1 rfl rfl hp0.1 rfl ?_
    refine jc_icmp_ge 17 rfl rfl (fun h1 => ?_) (fun h1 => ?_)
    · refine j_run 18 5 rfl ?_
      refine jc_if_ne 23 rfl rfl (fun h2 => ?_) (fun h2 => ?_)
      · refine j_run 24 5 rfl ?_
        refine j_cv 29 4 3 rfl rfl mwX0_sumWith hp0.1 rfl rfl (eX0_sumWith hA hp0 x1 x4 x2 _) rfl rfl (rok rfl rfl) (Nat.le_of_ble_eq_true rfl) (fun r3 _ h3 => ?_)
        refine j_csT 30 5 2 rfl rfl mwJ9_max_7cf53 (eJ9_max_7cf53 hA x3 r3 _) rfl rfl (rok rfl rfl) (Nat.le_of_ble_eq_true rfl) (fun h4 => ?_)
        refine j_run 31 1 rfl ?_
        refine j_run 32 1 rfl ?_
        refine j_goto 33 rfl rfl ?_
        exact j_weak (leP_s (leP_s (leP_s (leP_s (leP_s (leP_z)))))) (ih (fJ9_max_7cf53 x3 r3) (bw (x4 + 1)))
      · refine j_run 32 1 rfl ?_
        refine j_goto 33 rfl rfl ?_
        exact j_weak (leP_s (leP_s (leP_s (leP_s (leP_s (leP_z)))))) (ih x3 (bw (x4 + 1)))
    · refine j_run 34 1 rfl ?_
      exact j_iret 35 rfl rfl rfl
theorem eX0_greatestSum {X : Cx} {ads : List Nat} {sk : List Sk} (hA : ads.length = sk.length ∧ sk.length ≤ 1000) (hp0 : ocC sk) (x1 : Int) (x2 : Int) (σ : Sg) : CF X mX0_greatestSum ads sk [.inr (some 65), .inl x1, .inl x2] σ (wP σ) (fX0_greatestSum x1 x2 σ) := by
  refine CF.of ⟨pX0_greatestSum_ok, tbX0_ok, hA.1, hA.2⟩ (plainFor_of_name plX0) (Nat.le_of_ble_eq_true rfl) ?_
  show jX0_greatestSum X ads sk σ (0, [some (.inr (some 65)), some (.inl x1), some (.inl x2), none, none], [], σ) (fX0_greatestSum x1 x2 σ)
  unfold fX0_greatestSum
  refine j_run 0 1 rfl ?_
  refine j_gr 1 10 rfl rfl hp0.1 rfl ?_
  refine j_run 2 4 rfl ?_
  refine j_gf 6 1 rfl rfl hp0.1 rfl ?_
  refine j_run 7 3 rfl ?_
  refine j_ald 10 rfl hp0.2.2.2.2.2.2.1 rfl ?_
  refine j_run 11 3 rfl ?_
  exact j_weak (leP_s (leP_s (leP_s (leP_s (leP_s (leP_z)))))) (JX0_greatestSum_L19 hA hp0 σ x1 x2 FU (rd σ 71 (bor (bshl (bw (x1 + 1)) (rd σ 65 6)) x2)) 0)
abbrev jX0_takeFirstWay (X : Cx) (ads : List Nat) (sk : List Sk) (ps : PS) (res : Option (Sg)) : Prop := J X mX0_takeFirstWay pX0_takeFirstWay tbX0 (rmD 1 0 0) 0 0 E0 (fun a => FM X mX0_takeFirstWay ads sk (wV a)) ads sk ps res
theorem JX0_takeFirstWay_L29 {X : Cx} {ads : List Nat} {sk : List Sk} (hA : ads.length = sk.length ∧ sk.length ≤ 1000) (hp0 : ocC sk) (x1 : Int) (x2 : Int) (x3 : Int) (k4 : Int → Int → Sg → Option (Sg)) (hk4 : ∀ (x1 : Int) (x2 : Int) (σ : Sg), jX0_takeFirstWay X ads sk (4, [some (.inr (some 65)), some (.inl x1), some (.inl x2), none, none], [], σ) (k4 x1 x2 σ)) (k59 : Int → Sg → Option (Sg)) (hk59 : ∀ (x4 : Int) (σ : Sg), jX0_takeFirstWay X ads sk (59, [some (.inr (some 65)), some (.inl x1), some (.inl x2), none, some (.inl x4)], [], σ) (k59 x4 σ)) : ∀ (n : Nat) (x4 : Int) (σ : Sg), jX0_takeFirstWay X ads sk (29, [some (.inr (some 65)), some (.inl x1), some (.inl x2), some (.inl x3), some (.inl x4)], [], σ) (fX0_takeFirstWay_L29 k4 k59 x1 x2 x3 n x4 σ) := by
  intro n
  induction n with
  | zero => intro x4 σ; exact j_none
  | succ n ih =>
    intro x4 σ
    rw [fX0_takeFirstWay_L29]
    refine j_run 20 2 rfl ?_
    refine j_gf 22 1 rfl rfl hp0.1 rfl ?_
    refine jc_icmp_ge 23 rfl rfl (fun h2 => ?_) (fun h2 => ?_)
    · refine j_run 24 5 rfl ?_
      refine jc_if_ne 29 rfl rfl (fun h3 => ?_) (fun h3 => ?_)
      · refine j_run 30 4 rfl ?_
        refine j_cv 34 4 3 rfl rfl mwX0_sumWith hp0.1 rfl rfl (eX0_sumWith hA hp0 x2 x4 x1 _) rfl rfl (rok rfl rfl) (Nat.le_of_ble_eq_true rfl) (fun r4 _ h4 => ?_)
        refine j_run 35 1 rfl ?_
        refine jc_icmp_ne 36 rfl rfl (fun h5 => ?_) (fun h5 => ?_)
        · exact j_weak (leP_s (leP_s (leP_s (leP_n (leP_s (leP_z)))))) (hk59 x4 _)
        · refine j_run 66 1 rfl ?_
          refine j_goto 67 rfl rfl ?_
          exact j_weak (leP_s (leP_s (leP_s (leP_s (leP_s (leP_z)))))) (ih (bw (x4 + 1)) _)
      · refine j_run 66 1 rfl ?_
        refine j_goto 67 rfl rfl ?_
        exact j_weak (leP_s (leP_s (leP_s (leP_s (leP_s (leP_z)))))) (ih (bw (x4 + 1)) _)
    · refine j_run 68 1 rfl ?_
      refine j_goto 69 rfl rfl ?_
      exact j_weak (leP_s (leP_s (leP_s (leP_n (leP_n (leP_z)))))) (hk4 x1 (bw (x2 + 1)) _)
theorem JX0_takeFirstWay_L4 {X : Cx} {ads : List Nat} {sk : List Sk} (hA : ads.length = sk.length ∧ sk.length ≤ 1000) (hp0 : ocC sk) : ∀ (n : Nat) (x1 : Int) (x2 : Int) (σ : Sg), jX0_takeFirstWay X ads sk (4, [some (.inr (some 65)), some (.inl x1), some (.inl x2), none, none], [], σ) (fX0_takeFirstWay_L4 n x1 x2 σ) := by
  intro n
  induction n with
  | zero => intro x1 x2 σ; exact j_none
  | succ n ih =>
    intro x1 x2 σ
    rw [fX0_takeFirstWay_L4]
    refine j_run 4 2 rfl ?_
    refine j_gf 6 0 rfl rfl hp0.1 rfl ?_
    refine jc_icmp_ge 7 rfl rfl (fun h1 => ?_) (fun h1 => ?_)
    · refine j_run 8 1 rfl ?_
      refine j_gr 9 10 rfl rfl hp0.1 rfl ?_
      refine j_run 10 2 rfl ?_
      refine j_gf 12 1 rfl rfl hp0.1 rfl ?_
      refine j_run 13 3 rfl ?_
      refine j_ald 16 rfl hp0.2.2.2.2.2.2.1 rfl ?_
      refine j_run 17 3 rfl ?_
      refine j_weak (leP_s (leP_s (leP_s (leP_s (leP_s (leP_z)))))) (JX0_takeFirstWay_L29 hA hp0 x1 x2 (rd σ 71 (bor (bshl x2 (rd σ 65 6)) x1)) _ ih _ (fun v6_4 s6 => ?_) FU 0 _)
      refine j_run 37 1 rfl ?_
      refine j_gr 38 3 rfl rfl hp0.1 rfl ?_
      refine j_run 39 1 rfl ?_
      refine j_gr 40 6 rfl rfl hp0.1 rfl ?_
      refine j_run 41 1 rfl ?_
      refine j_ald 42 rfl hp0.2.2.2.2.1 rfl ?_
      refine j_run 43 1 rfl ?_
      refine j_gr 44 7 rfl rfl hp0.1 rfl ?_
      refine j_run 45 1 rfl ?_
      refine j_ald 46 rfl hp0.2.2.2.2.2.1 rfl ?_
      refine j_ast 47 rfl hp0.2.1 rfl ?_
      refine j_run 48 1 rfl ?_
      refine j_gr 49 3 rfl rfl hp0.1 rfl ?_
      refine j_run 50 1 rfl ?_
      refine j_gr 51 7 rfl rfl hp0.1 rfl ?_
      refine j_run 52 1 rfl ?_
      refine j_ald 53 rfl hp0.2.2.2.2.2.1 rfl ?_
      refine j_run 54 1 rfl ?_
      refine j_gr 55 6 rfl rfl hp0.1 rfl ?_
      refine j_run 56 1 rfl ?_
      refine j_ald 57 rfl hp0.2.2.2.2.1 rfl ?_
      refine j_ast 58 rfl hp0.2.1 rfl ?_
      refine j_run 59 6 rfl ?_
      refine j_goto 65 rfl rfl ?_
      refine j_run 68 1 rfl ?_
      refine j_goto 69 rfl rfl ?_
      exact j_weak (leP_s (leP_s (leP_s (leP_n (leP_n (leP_z)))))) (ih (bor x1 (bshl 1 v6_4)) (bw (x2 + 1)) _)
    · exact j_vret 70 rfl rfl rfl
theorem eX0_takeFirstWay {X : Cx} {ads : List Nat} {sk : List Sk} (hA : ads.length = sk.length ∧ sk.length ≤ 1000) (hp0 : ocC sk) (σ : Sg) : CF X mX0_takeFirstWay ads sk [.inr (some 65)] σ wV (fX0_takeFirstWay σ) := by
  refine CF.of ⟨pX0_takeFirstWay_ok, tbX0_ok, hA.1, hA.2⟩ (plainFor_of_name plX0) (Nat.le_of_ble_eq_true rfl) ?_
  show jX0_takeFirstWay X ads sk (0, [some (.inr (some 65)), none, none, none, none], [], σ) (fX0_takeFirstWay σ)
  unfold fX0_takeFirstWay
  refine j_run 0 4 rfl ?_
  exact j_weak (leP_s (leP_s (leP_s (leP_n (leP_n (leP_z)))))) (JX0_takeFirstWay_L4 hA hp0 FU 0 0 _)
abbrev jX0_pair (X : Cx) (ads : List Nat) (sk : List Sk) (ps : PS) (res : Option (Int × Sg)) : Prop := J X mX0_pair pX0_pair tbX0 (rmD 5 0 0) 0 0 E0 (fun a => FM X mX0_pair ads sk (wE a)) ads sk ps res
theorem JX0_pair_L20 {X : Cx} {ads : List Nat} {sk : List Sk} (hA : ads.length = sk.length ∧ sk.length ≤ 1000) (hp0 : ocC sk) {c1 : Nat} (hp1 : ocW sk c1) (x2 : Int) (k10 : Int → Sg → Option (Int × Sg)) (hk10 : ∀ (x2 : Int) (σ : Sg), jX0_pair X ads sk (10, [some (.inr (some 65)), some (.inr (some c1)), some (.inl x2), none, none], [], σ) (k10 x2 σ)) : ∀ (n : Nat) (x3 : Int) (σ : Sg), jX0_pair X ads sk (20, [some (.inr (some 65)), some (.inr (some c1)), some (.inl x2), some (.inl x3), none], [], σ) (fX0_pair_L20 c1 k10 x2 n x3 σ) := by
  intro n
  induction n with
  | zero => intro x3 σ; exact j_none
  | succ n ih =>
    intro x3 σ
    rw [fX0_pair_L20]
    refine j_run 12 2 rfl ?_
    refine j_gf 14 1 rfl rfl hp0.1 rfl ?_
    refine jc_icmp_ge 15 rfl rfl (fun h3 => ?_) (fun h3 => ?_)
    · refine j_run 16 1 rfl ?_
      refine j_gr 17 8 rfl rfl hp0.1 rfl ?_
      refine j_run 18 2 rfl ?_
      refine j_gr 20 6 rfl rfl hp0.1 rfl ?_
      refine j_run 21 1 rfl ?_
      refine j_ald 22 rfl hp0.2.2.2.2.1 rfl ?_
      refine j_run 23 2 rfl ?_
      refine j_gr 25 7 rfl rfl hp0.1 rfl ?_
      refine j_run 26 1 rfl ?_
      refine j_ald 27 rfl hp0.2.2.2.2.2.1 rfl ?_
      refine j_run 28 3 rfl ?_
      refine j_gr 31 6 rfl rfl hp0.1 rfl ?_
      refine j_run 32 1 rfl ?_
      refine j_ald 33 rfl hp0.2.2.2.2.1 rfl ?_
      refine j_run 34 1 rfl ?_
      refine j_gr 35 7 rfl rfl hp0.1 rfl ?_
      refine j_run 36 1 rfl ?_
      refine j_ald 37 rfl hp0.2.2.2.2.2.1 rfl ?_
      refine j_cv 38 6 2 rfl rfl mwX9_foundOf hp1.1 rfl rfl (eX9_foundOf hA hp1 (rd σ 69 x2) (rd σ 70 x3) _) rfl rfl (rok rfl rfl) (Nat.le_of_ble_eq_true rfl) (fun q4 _ h4 => ?_)
      refine j_ast 39 rfl hp0.2.2.2.1 rfl ?_
      refine j_run 40 1 rfl ?_
      refine j_goto 41 rfl rfl ?_
      exact j_weak (leP_s (leP_s (leP_s (leP_s (leP_n (leP_z)))))) (ih (bw (x3 + 1)) _)
    · refine j_run 42 1 rfl ?_
      refine j_goto 43 rfl rfl ?_
      exact j_weak (leP_s (leP_s (leP_s (leP_n (leP_n (leP_z)))))) (hk10 (bw (x2 + 1)) _)
theorem JX0_pair_L10 {X : Cx} {ads : List Nat} {sk : List Sk} (hA : ads.length = sk.length ∧ sk.length ≤ 1000) (hp0 : ocC sk) {c1 : Nat} (hp1 : ocW sk c1) (k77 : Sg → Option (Int × Sg)) (hk77 : ∀  (σ : Sg), jX0_pair X ads sk (77, [some (.inr (some 65)), none, none, none, none], [], σ) (k77 σ)) : ∀ (n : Nat) (x2 : Int) (σ : Sg), jX0_pair X ads sk (10, [some (.inr (some 65)), some (.inr (some c1)), some (.inl x2), none, none], [], σ) (fX0_pair_L10 c1 k77 n x2 σ) := by
  intro n
  induction n with
  | zero => intro x2 σ; exact j_none
  | succ n ih =>
    intro x2 σ
    rw [fX0_pair_L10]
    refine j_run 6 2 rfl ?_
    refine j_gf 8 0 rfl rfl hp0.1 rfl ?_
    refine jc_icmp_ge 9 rfl rfl (fun h2 => ?_) (fun h2 => ?_)
    · refine j_run 10 2 rfl ?_
      exact j_weak (leP_s (leP_s (leP_s (leP_s (leP_n (leP_z)))))) (JX0_pair_L20 hA hp0 hp1 x2 _ ih FU 0 _)
    · exact j_weak (leP_s (leP_n (leP_n (leP_n (leP_n (leP_z)))))) (hk77 _)
theorem JX0_pair_L86 {X : Cx} {ads : List Nat} {sk : List Sk} (hA : ads.length = sk.length ∧ sk.length ≤ 1000) (hp0 : ocC sk) {c1 : Nat} (hp1 : ocW sk c1) (x2 : Int) (k114 : Sg → Option (Int × Sg)) (hk114 : ∀  (σ : Sg), jX0_pair X ads sk (114, [some (.inr (some 65)), none, some (.inl x2), none, none], [], σ) (k114 σ)) : ∀ (n : Nat) (x3 : Int) (σ : Sg), jX0_pair X ads sk (86, [some (.inr (some 65)), none, some (.inl x2), some (.inl x3), none], [], σ) (fX0_pair_L86 c1 k114 x2 n x3 σ) := by
  intro n
  induction n with
  | zero => intro x3 σ; exact j_none
  | succ n ih =>
    intro x3 σ
    rw [fX0_pair_L86]
    refine j_run 51 2 rfl ?_
    refine jc_icmp_ge 53 rfl rfl (fun h6 => ?_) (fun h6 => ?_)
    · refine j_run 54 1 rfl ?_
      refine j_gr 55 10 rfl rfl hp0.1 rfl ?_
      refine j_run 56 1 rfl ?_
      refine j_gf 57 0 rfl rfl hp0.1 rfl ?_
      refine j_run 58 1 rfl ?_
      refine j_gf 59 1 rfl rfl hp0.1 rfl ?_
      refine j_run 60 4 rfl ?_
      refine j_ast 64 rfl hp0.2.2.2.2.2.2.1 rfl ?_
      refine j_run 65 1 rfl ?_
      refine j_goto 66 rfl rfl ?_
      exact j_weak (leP_s (leP_n (leP_s (leP_s (leP_n (leP_z)))))) (ih (bw (x3 + 1)) _)
    · exact j_weak (leP_s (leP_n (leP_s (leP_n (leP_n (leP_z)))))) (hk114 _)
theorem JX0_pair_L128 {X : Cx} {ads : List Nat} {sk : List Sk} (hA : ads.length = sk.length ∧ sk.length ≤ 1000) (hp0 : ocC sk) {c1 : Nat} (hp1 : ocW sk c1) (x2 : Int) (x3 : Int) (k121 : Int → Sg → Option (Int × Sg)) (hk121 : ∀ (x3 : Int) (σ : Sg), jX0_pair X ads sk (121, [some (.inr (some 65)), none, some (.inl x2), some (.inl x3), none], [], σ) (k121 x3 σ)) : ∀ (n : Nat) (x4 : Int) (σ : Sg), jX0_pair X ads sk (128, [some (.inr (some 65)), none, some (.inl x2), some (.inl x3), some (.inl x4)], [], σ) (fX0_pair_L128 c1 k121 x2 x3 n x4 σ) := by
  intro n
  induction n with
  | zero => intro x4 σ; exact j_none
  | succ n ih =>
    intro x4 σ
    rw [fX0_pair_L128]
    refine j_run 76 2 rfl ?_
    refine jc_icmp_ge 78 rfl rfl (fun h9 => ?_) (fun h9 => ?_)
    · refine j_run 79 1 rfl ?_
      refine j_csT 80 7 1 rfl rfl mwJ6_bitCount_0f7a4 (eJ6_bitCount_0f7a4 hA x4 _) rfl rfl (rok rfl rfl) (Nat.le_of_ble_eq_true rfl) (fun h10 => ?_)
      refine j_run 81 1 rfl ?_
      refine jc_icmp_gt 82 rfl rfl (fun h11 => ?_) (fun h11 => ?_)
      · refine j_run 96 1 rfl ?_
        refine j_goto 97 rfl rfl ?_
        exact j_weak (leP_s (leP_n (leP_s (leP_s (leP_s (leP_z)))))) (ih (bw (x4 + 1)) _)
      · refine j_run 83 1 rfl ?_
        refine j_gr 84 10 rfl rfl hp0.1 rfl ?_
        refine j_run 85 2 rfl ?_
        refine j_gf 87 1 rfl rfl hp0.1 rfl ?_
        refine j_run 88 6 rfl ?_
        refine j_cv 94 8 2 rfl rfl mwX0_greatestSum hp0.1 rfl rfl (eX0_greatestSum hA hp0 x3 x4 _) rfl rfl (rok rfl rfl) (Nat.le_of_ble_eq_true rfl) (fun r12 _ h12 => ?_)
        refine j_ast 95 rfl hp0.2.2.2.2.2.2.1 rfl ?_
        refine j_run 96 1 rfl ?_
        refine j_goto 97 rfl rfl ?_
        exact j_weak (leP_s (leP_n (leP_s (leP_s (leP_s (leP_z)))))) (ih (bw (x4 + 1)) _)
    · refine j_run 98 1 rfl ?_
      refine j_goto 99 rfl rfl ?_
      exact j_weak (leP_s (leP_n (leP_s (leP_s (leP_n (leP_z)))))) (hk121 (bw (x3 + -1)) _)
theorem JX0_pair_L121 {X : Cx} {ads : List Nat} {sk : List Sk} (hA : ads.length = sk.length ∧ sk.length ≤ 1000) (hp0 : ocC sk) {c1 : Nat} (hp1 : ocW sk c1) (x2 : Int) (k176 : Sg → Option (Int × Sg)) (hk176 : ∀  (σ : Sg), jX0_pair X ads sk (176, [some (.inr (some 65)), none, none, none, none], [], σ) (k176 σ)) : ∀ (n : Nat) (x3 : Int) (σ : Sg), jX0_pair X ads sk (121, [some (.inr (some 65)), none, some (.inl x2), some (.inl x3), none], [], σ) (fX0_pair_L121 c1 k176 x2 n x3 σ) := by
  intro n
  induction n with
  | zero => intro x3 σ; exact j_none
  | succ n ih =>
    intro x3 σ
    rw [fX0_pair_L121]
    refine j_run 72 1 rfl ?_
    refine jc_if_lt 73 rfl rfl (fun h8 => ?_) (fun h8 => ?_)
    · exact j_weak (leP_s (leP_n (leP_n (leP_n (leP_n (leP_z)))))) (hk176 _)
    · refine j_run 74 2 rfl ?_
      exact j_weak (leP_s (leP_n (leP_s (leP_s (leP_s (leP_z)))))) (JX0_pair_L128 hA hp0 hp1 x2 x3 _ ih FU 0 _)
theorem eX0_pair {X : Cx} {ads : List Nat} {sk : List Sk} (hA : ads.length = sk.length ∧ sk.length ≤ 1000) (hp0 : ocC sk) {c1 : Nat} (hp1 : ocW sk c1) (σ : Sg) : CF X mX0_pair ads sk [.inr (some 65), .inr (some c1)] σ wE (fX0_pair c1 σ) := by
  refine CF.of ⟨pX0_pair_ok, tbX0_ok, hA.1, hA.2⟩ (plainFor_of_name plX0) (Nat.le_of_ble_eq_true rfl) ?_
  show jX0_pair X ads sk (0, [some (.inr (some 65)), some (.inr (some c1)), none, none, none], [], σ) (fX0_pair c1 σ)
  unfold fX0_pair
  refine j_run 0 2 rfl ?_
  refine j_gr 2 9 rfl rfl hp1.1 rfl ?_
  refine j_cv 3 1 1 rfl rfl mwX0_gather hp0.1 rfl rfl (eX0_gather hA hp0 hp1.2.2.2.1 _) rfl rfl (rok rfl rfl) (Nat.le_of_ble_eq_true rfl) (fun s1 _ h1 => ?_)
  refine j_run 4 2 rfl ?_
  refine j_weak (leP_s (leP_s (leP_s (leP_n (leP_n (leP_z)))))) (JX0_pair_L10 hA hp0 hp1 _ (fun s5 => ?_) FU 0 _)
  refine j_run 44 2 rfl ?_
  refine j_gf 46 1 rfl rfl hp0.1 rfl ?_
  refine j_run 47 4 rfl ?_
  refine j_weak (leP_s (leP_n (leP_s (leP_s (leP_n (leP_z)))))) (JX0_pair_L86 hA hp0 hp1 (bshl 1 (rd s5 65 6)) _ (fun s7 => ?_) FU 0 _)
  refine j_run 67 1 rfl ?_
  refine j_gf 68 0 rfl rfl hp0.1 rfl ?_
  refine j_run 69 3 rfl ?_
  refine j_weak (leP_s (leP_n (leP_s (leP_s (leP_n (leP_z)))))) (JX0_pair_L121 hA hp0 hp1 (bshl 1 (rd s5 65 6)) _ (fun s13 => ?_) FU (bw ((rd s7 65 5) - 1)) _)
  refine j_run 100 1 rfl ?_
  refine j_cv 101 9 0 rfl rfl mwX0_takeFirstWay hp0.1 rfl rfl (eX0_takeFirstWay hA hp0 _) rfl rfl (rok rfl rfl) (Nat.le_of_ble_eq_true rfl) (fun s14 _ h14 => ?_)
  refine j_run 102 1 rfl ?_
  refine j_gr 103 10 rfl rfl hp0.1 rfl ?_
  refine j_run 104 1 rfl ?_
  refine j_ald0 105 rfl hp0.2.2.2.2.2.2.1 (by decide) ?_
  exact j_iret 106 rfl rfl rfl
abbrev jX10_steps (X : Cx) (ads : List Nat) (sk : List Sk) (σ : Sg) (ps : PS) (res : Option (Int)) : Prop := J X mX10_steps pX10_steps tbX10 (rmD 1 0 0) 0 0 E0 (fun a => FM X mX10_steps ads sk ((wP σ) a)) ads sk ps res
theorem eX10_steps {X : Cx} {ads : List Nat} {sk : List Sk} (hA : ads.length = sk.length ∧ sk.length ≤ 1000) (x0 : Int) (x1 : Int) (σ : Sg) : CF X mX10_steps ads sk [.inl x0, .inl x1] σ (wP σ) (some (fX10_steps x0 x1)) := by
  refine CF.of ⟨pX10_steps_ok, tbX10_ok, hA.1, hA.2⟩ (plainFor_of_name plX10) (Nat.le_of_ble_eq_true rfl) ?_
  show jX10_steps X ads sk σ (0, [some (.inl x0), some (.inl x1)], [], σ) (some (fX10_steps x0 x1))
  unfold fX10_steps
  refine j_run 0 7 rfl ?_
  refine j_csT 7 2 1 rfl rfl mwJ9_abs_0f7a4 (eJ9_abs_0f7a4 hA (bw ((band x0 7) - (band x1 7))) _) rfl rfl (rok rfl rfl) (Nat.le_of_ble_eq_true rfl) (fun h1 => ?_)
  refine j_run 8 7 rfl ?_
  refine j_csT 15 2 1 rfl rfl mwJ9_abs_0f7a4 (eJ9_abs_0f7a4 hA (bw ((bshr x0 3) - (bshr x1 3))) _) rfl rfl (rok rfl rfl) (Nat.le_of_ble_eq_true rfl) (fun h2 => ?_)
  refine j_run 16 1 rfl ?_
  exact j_iret 17 rfl rfl rfl
abbrev jX9_hasField (X : Cx) (ads : List Nat) (sk : List Sk) (σ : Sg) (ps : PS) (res : Option (Int)) : Prop := J X mX9_hasField pX9_hasField tbX9 (rmD 0 0 0) 0 0 E0 (fun a => FM X mX9_hasField ads sk ((wP σ) a)) ads sk ps res
theorem eX9_hasField {X : Cx} {ads : List Nat} {sk : List Sk} (hA : ads.length = sk.length ∧ sk.length ≤ 1000) {c0 : Nat} (hp0 : ocW sk c0) (x1 : Int) (σ : Sg) : CF X mX9_hasField ads sk [.inr (some c0), .inl x1] σ (wP σ) (some (fX9_hasField c0 x1 σ)) := by
  refine CF.of ⟨pX9_hasField_ok, tbX9_ok, hA.1, hA.2⟩ (plainFor_of_name plX9) (Nat.le_of_ble_eq_true rfl) ?_
  show jX9_hasField X ads sk σ (0, [some (.inr (some c0)), some (.inl x1)], [], σ) (some (fX9_hasField c0 x1 σ))
  unfold fX9_hasField
  refine j_run 0 1 rfl ?_
  refine jt_if_lt 1 rfl rfl (fun h1 => ?_) (fun h1 => ?_)
  · refine j_run 19 1 rfl ?_
    exact j_zret 20 rfl rfl (by decide) rfl
  · refine j_run 2 2 rfl ?_
    refine jt_icmp_ge 4 rfl rfl (fun h2 => ?_) (fun h2 => ?_)
    · refine j_run 5 4 rfl ?_
      refine j_gf 9 5 rfl rfl hp0.1 rfl ?_
      refine jt_icmp_ge 10 rfl rfl (fun h3 => ?_) (fun h3 => ?_)
      · refine j_run 11 4 rfl ?_
        refine j_gf 15 6 rfl rfl hp0.1 rfl ?_
        refine jt_icmp_ge 16 rfl rfl (fun h4 => ?_) (fun h4 => ?_)
        · refine j_run 17 1 rfl ?_
          refine j_goto 18 rfl rfl ?_
          exact j_zret 20 rfl rfl (by decide) rfl
        · refine j_run 19 1 rfl ?_
          exact j_zret 20 rfl rfl (by decide) rfl
      · refine j_run 19 1 rfl ?_
        exact j_zret 20 rfl rfl (by decide) rfl
    · refine j_run 19 1 rfl ?_
      exact j_zret 20 rfl rfl (by decide) rfl
abbrev jX9_liftOf (X : Cx) (ads : List Nat) (sk : List Sk) (ps : PS) (res : Option (Int × Sg)) : Prop := J X mX9_liftOf pX9_liftOf tbX9 (rmD 3 0 0) 0 0 E0 (fun a => FM X mX9_liftOf ads sk (wE a)) ads sk ps res
theorem JX9_liftOf_J62 {X : Cx} {ads : List Nat} {sk : List Sk} (hA : ads.length = sk.length ∧ sk.length ≤ 1000) {c0 : Nat} (hp0 : ocW sk c0) (x1 : Int) (x2 : Int) (x3 : Int) (x4 : Int) (y0 : Int) (σ : Sg) : jX9_liftOf X ads sk (62, [some (.inr (some c0)), some (.inl x1), some (.inl x2), some (.inl x3), some (.inl x4), none], [.inl y0, .inl 14, .inr (some (c0 + 10))], σ) (fX9_liftOf_J62 c0 x1 x2 x3 x4 y0 σ) := by
  unfold fX9_liftOf_J62
  refine j_cv 30 2 2 rfl rfl mwX2_name hp0.2.2.2.2.1.1 rfl rfl (eX2_name hA hp0.2.2.2.2.1 14 y0 _) rfl rfl (rok rfl rfl) (Nat.le_of_ble_eq_true rfl) (fun s6 _ h6 => ?_)
  refine j_run 31 1 rfl ?_
  refine j_gr 32 0 rfl rfl hp0.1 rfl ?_
  refine j_run 33 2 rfl ?_
  refine j_gr 35 1 rfl rfl hp0.1 rfl ?_
  refine j_gr 36 4 rfl rfl hp0.2.2.2.1.1 rfl ?_
  refine j_run 37 1 rfl ?_
  refine j_ald 38 rfl hp0.2.2.2.1.2.2.1 rfl ?_
  refine j_run 39 1 rfl ?_
  refine j_gr 40 1 rfl rfl hp0.1 rfl ?_
  refine j_gr 41 4 rfl rfl hp0.2.2.2.1.1 rfl ?_
  refine j_run 42 1 rfl ?_
  refine j_ald 43 rfl hp0.2.2.2.1.2.2.1 rfl ?_
  refine j_run 44 1 rfl ?_
  refine j_csT 45 0 1 rfl rfl mwJ9_abs_0f7a4 (eJ9_abs_0f7a4 hA (bw ((rd s6 (c0 + 5) x1) - (rd s6 (c0 + 5) x2))) _) rfl rfl (rok rfl rfl) (Nat.le_of_ble_eq_true rfl) (fun h7 => ?_)
  refine j_cv 46 2 2 rfl rfl mwX2_name hp0.2.2.2.2.1.1 rfl rfl (eX2_name hA hp0.2.2.2.2.1 15 (fJ9_abs_0f7a4 (bw ((rd s6 (c0 + 5) x1) - (rd s6 (c0 + 5) x2)))) _) rfl rfl (rok rfl rfl) (Nat.le_of_ble_eq_true rfl) (fun s8 _ h8 => ?_)
  refine j_run 47 1 rfl ?_
  refine j_gr 48 0 rfl rfl hp0.1 rfl ?_
  refine j_run 49 2 rfl ?_
  refine j_gf 51 3 rfl rfl hp0.1 rfl ?_
  refine j_cv 52 2 2 rfl rfl mwX2_name hp0.2.2.2.2.1.1 rfl rfl (eX2_name hA hp0.2.2.2.2.1 19 (rd s8 c0 6) _) rfl rfl (rok rfl rfl) (Nat.le_of_ble_eq_true rfl) (fun s9 _ h9 => ?_)
  refine j_run 53 1 rfl ?_
  refine j_gr 54 0 rfl rfl hp0.1 rfl ?_
  refine j_run 55 6 rfl ?_
  refine j_cv 61 4 2 rfl rfl mwX2_tell hp0.2.2.2.2.1.1 rfl rfl (eX2_tell hA hp0.2.2.2.2.1 4 (bw ((bw (x3 * 2)) - x4)) _) rfl rfl (rok rfl rfl) (Nat.le_of_ble_eq_true rfl) (fun q10 _ h10 => ?_)
  refine j_run 62 1 rfl ?_
  refine j_csNT 63 0 2 rfl rfl mwX10_held (eX10_held hA q10.1 99 _) rfl rfl (rok rfl rfl) (Nat.le_of_ble_eq_true rfl) (fun h11 => ?_)
  exact j_iret 64 rfl rfl rfl
theorem eX9_liftOf {X : Cx} {ads : List Nat} {sk : List Sk} (hA : ads.length = sk.length ∧ sk.length ≤ 1000) {c0 : Nat} (hp0 : ocW sk c0) (x1 : Int) (x2 : Int) (x3 : Int) (x4 : Int) (x5 : Int) (σ : Sg) : CF X mX9_liftOf ads sk [.inr (some c0), .inl x1, .inl x2, .inl x3, .inl x4, .inl x5] σ wE (fX9_liftOf c0 x1 x2 x3 x4 x5 σ) := by
  refine CF.of ⟨pX9_liftOf_ok, tbX9_ok, hA.1, hA.2⟩ (plainFor_of_name plX9) (Nat.le_of_ble_eq_true rfl) ?_
  show jX9_liftOf X ads sk (0, [some (.inr (some c0)), some (.inl x1), some (.inl x2), some (.inl x3), some (.inl x4), some (.inl x5)], [], σ) (fX9_liftOf c0 x1 x2 x3 x4 x5 σ)
  unfold fX9_liftOf
  refine j_run 0 1 rfl ?_
  refine j_gr 1 0 rfl rfl hp0.1 rfl ?_
  refine j_cv 2 1 0 rfl rfl mwX2_forgetNames hp0.2.2.2.2.1.1 rfl rfl (eX2_forgetNames hA hp0.2.2.2.2.1 _) rfl rfl (rok rfl rfl) (Nat.le_of_ble_eq_true rfl) (fun s1 _ h1 => ?_)
  refine j_run 3 1 rfl ?_
  refine j_gr 4 0 rfl rfl hp0.1 rfl ?_
  refine j_run 5 2 rfl ?_
  refine j_cv 7 2 2 rfl rfl mwX2_name hp0.2.2.2.2.1.1 rfl rfl (eX2_name hA hp0.2.2.2.2.1 18 x3 _) rfl rfl (rok rfl rfl) (Nat.le_of_ble_eq_true rfl) (fun s2 _ h2 => ?_)
  refine j_run 8 1 rfl ?_
  refine j_gr 9 0 rfl rfl hp0.1 rfl ?_
  refine j_run 10 2 rfl ?_
  refine j_cv 12 2 2 rfl rfl mwX2_name hp0.2.2.2.2.1.1 rfl rfl (eX2_name hA hp0.2.2.2.2.1 16 x4 _) rfl rfl (rok rfl rfl) (Nat.le_of_ble_eq_true rfl) (fun s3 _ h3 => ?_)
  refine j_run 13 1 rfl ?_
  refine j_gr 14 0 rfl rfl hp0.1 rfl ?_
  refine j_run 15 2 rfl ?_
  refine j_cv 17 2 2 rfl rfl mwX2_name hp0.2.2.2.2.1.1 rfl rfl (eX2_name hA hp0.2.2.2.2.1 17 x5 _) rfl rfl (rok rfl rfl) (Nat.le_of_ble_eq_true rfl) (fun s4 _ h4 => ?_)
  refine j_run 18 1 rfl ?_
  refine j_gr 19 0 rfl rfl hp0.1 rfl ?_
  refine j_run 20 2 rfl ?_
  refine j_gr 22 1 rfl rfl hp0.1 rfl ?_
  refine j_run 23 2 rfl ?_
  refine j_cv 25 3 2 rfl rfl mwX1_areKin hp0.2.2.2.1.1 rfl rfl (eX1_areKin hA hp0.2.2.2.1 x1 x2 _) rfl rfl (rok rfl rfl) (Nat.le_of_ble_eq_true rfl) (fun r5 _ h5 => ?_)
  refine jc_if_eq 26 rfl rfl (fun h12 => ?_) (fun h12 => ?_)
  · refine j_run 29 1 rfl ?_
    exact j_weak (leP_s (leP_s (leP_s (leP_s (leP_s (leP_n (leP_z))))))) (JX9_liftOf_J62 hA hp0 x1 x2 x3 x4 0 _)
  · refine j_run 27 1 rfl ?_
    refine j_goto 28 rfl rfl ?_
    exact j_weak (leP_s (leP_s (leP_s (leP_s (leP_s (leP_n (leP_z))))))) (JX9_liftOf_J62 hA hp0 x1 x2 x3 x4 1 _)
abbrev jX0_firstBaring (X : Cx) (ads : List Nat) (sk : List Sk) (ps : PS) (res : Option (Int × Sg)) : Prop := J X mX0_firstBaring pX0_firstBaring tbX0 (rmD 4 0 0) 0 0 E0 (fun a => FM X mX0_firstBaring ads sk (wE a)) ads sk ps res
theorem JX0_firstBaring_L3 {X : Cx} {ads : List Nat} {sk : List Sk} (hA : ads.length = sk.length ∧ sk.length ≤ 1000) (hp0 : ocC sk) {c1 : Nat} (hp1 : ocW sk c1) (x2 : Int) (x3 : Int) (x4 : Int) (x5 : Int) (k24 : Sg → Option (Int × Sg)) (hk24 : ∀  (σ : Sg), jX0_firstBaring X ads sk (24, [some (.inr (some 65)), some (.inr (some c1)), some (.inl x2), some (.inl x3), some (.inl x4), some (.inl x5), none, none], [], σ) (k24 σ)) : ∀ (n : Nat) (x6 : Int) (σ : Sg), jX0_firstBaring X ads sk (3, [some (.inr (some 65)), some (.inr (some c1)), some (.inl x2), some (.inl x3), some (.inl x4), some (.inl x5), some (.inl x6), none], [], σ) (fX0_firstBaring_L3 c1 k24 x2 x3 x4 x5 n x6 σ) := by
  intro n
  induction n with
  | zero => intro x6 σ; exact j_none
  | succ n ih =>
    intro x6 σ
    rw [fX0_firstBaring_L3]
    refine j_run 2 2 rfl ?_
    refine jc_icmp_gt 4 rfl rfl (fun h1 => ?_) (fun h1 => ?_)
    · exact j_weak (leP_s (leP_s (leP_s (leP_s (leP_s (leP_s (leP_n (leP_n (leP_z))))))))) (hk24 _)
    · refine j_run 5 1 rfl ?_
      refine j_gr 6 11 rfl rfl hp0.1 rfl ?_
      refine j_run 7 2 rfl ?_
      refine j_ast 9 rfl hp0.2.2.2.2.2.2.2.1 rfl ?_
      refine j_run 10 1 rfl ?_
      refine j_goto 11 rfl rfl ?_
      exact j_weak (leP_s (leP_s (leP_s (leP_s (leP_s (leP_s (leP_s (leP_n (leP_z))))))))) (ih (bw (x6 + 1)) _)
theorem JX0_firstBaring_J97 {X : Cx} {ads : List Nat} {sk : List Sk} (hA : ads.length = sk.length ∧ sk.length ≤ 1000) (hp0 : ocC sk) {c1 : Nat} (hp1 : ocW sk c1) (x2 : Int) (x3 : Int) (x4 : Int) (x5 : Int) (x6 : Int) (x7 : Int) (k27 : Int → Sg → Option (Int × Sg)) (hk27 : ∀ (x6 : Int) (σ : Sg), jX0_firstBaring X ads sk (27, [some (.inr (some 65)), some (.inr (some c1)), some (.inl x2), some (.inl x3), some (.inl x4), some (.inl x5), some (.inl x6), none], [], σ) (k27 x6 σ)) (σ : Sg) : jX0_firstBaring X ads sk (97, [some (.inr (some 65)), some (.inr (some c1)), some (.inl x2), some (.inl x3), some (.inl x4), some (.inl x5), some (.inl x6), some (.inl x7)], [], σ) (fX0_firstBaring_J97 c1 k27 x2 x3 x4 x5 x6 x7 σ) := by
  unfold fX0_firstBaring_J97
  refine j_run 49 1 rfl ?_
  refine j_gr 50 11 rfl rfl hp0.1 rfl ?_
  refine j_run 51 1 rfl ?_
  refine j_ald 52 rfl hp0.2.2.2.2.2.2.2.1 rfl ?_
  refine j_run 53 1 rfl ?_
  refine j_gr 54 12 rfl rfl hp1.1 rfl ?_
  refine j_run 55 1 rfl ?_
  refine j_ald 56 rfl hp1.2.1 rfl ?_
  refine jc_icmp_lt 57 rfl rfl (fun h8 => ?_) (fun h8 => ?_)
  · refine j_run 60 1 rfl ?_
    refine j_goto 61 rfl rfl ?_
    exact j_weak (leP_s (leP_s (leP_s (leP_s (leP_s (leP_s (leP_s (leP_n (leP_z))))))))) (hk27 (bw (x6 + 1)) _)
  · refine j_run 58 1 rfl ?_
    exact j_iret 59 rfl rfl rfl
theorem JX0_firstBaring_L27 {X : Cx} {ads : List Nat} {sk : List Sk} (hA : ads.length = sk.length ∧ sk.length ≤ 1000) (hp0 : ocC sk) {c1 : Nat} (hp1 : ocW sk c1) (x2 : Int) (x3 : Int) (x4 : Int) (x5 : Int) : ∀ (n : Nat) (x6 : Int) (σ : Sg), jX0_firstBaring X ads sk (27, [some (.inr (some 65)), some (.inr (some c1)), some (.inl x2), some (.inl x3), some (.inl x4), some (.inl x5), some (.inl x6), none], [], σ) (fX0_firstBaring_L27 c1 x2 x3 x4 x5 n x6 σ) := by
  intro n
  induction n with
  | zero => intro x6 σ; exact j_none
  | succ n ih =>
    intro x6 σ
    rw [fX0_firstBaring_L27]
    refine j_run 14 2 rfl ?_
    refine jc_icmp_ge 16 rfl rfl (fun h3 => ?_) (fun h3 => ?_)
    · refine j_run 17 2 rfl ?_
      refine j_csNT 19 0 2 rfl rfl mwX10_steps (eX10_steps hA x6 x5 _) rfl rfl (rok rfl rfl) (Nat.le_of_ble_eq_true rfl) (fun h4 => ?_)
      refine j_run 20 3 rfl ?_
      refine j_cvT 23 10 1 rfl rfl mwX9_hasField hp1.1 rfl rfl (eX9_hasField hA hp1 x6 _) rfl rfl (rok rfl rfl) (Nat.le_of_ble_eq_true rfl) (fun h5 => ?_)
      refine jc_if_eq 24 rfl rfl (fun h6 => ?_) (fun h6 => ?_)
      · refine j_run 60 1 rfl ?_
        refine j_goto 61 rfl rfl ?_
        exact j_weak (leP_s (leP_s (leP_s (leP_s (leP_s (leP_s (leP_s (leP_n (leP_z))))))))) (ih (bw (x6 + 1)) _)
      · refine j_run 25 2 rfl ?_
        refine jc_icmp_le 27 rfl rfl (fun h7 => ?_) (fun h7 => ?_)
        · refine j_goto 28 rfl rfl ?_
          refine j_run 60 1 rfl ?_
          refine j_goto 61 rfl rfl ?_
          exact j_weak (leP_s (leP_s (leP_s (leP_s (leP_s (leP_s (leP_s (leP_n (leP_z))))))))) (ih (bw (x6 + 1)) _)
        · refine j_run 29 1 rfl ?_
          refine j_gr 30 11 rfl rfl hp0.1 rfl ?_
          refine j_run 31 1 rfl ?_
          refine j_ald 32 rfl hp0.2.2.2.2.2.2.2.1 rfl ?_
          refine j_run 33 1 rfl ?_
          refine jc_icmp_ne 34 rfl rfl (fun h9 => ?_) (fun h9 => ?_)
          · refine j_run 35 1 rfl ?_
            refine j_gr 36 11 rfl rfl hp0.1 rfl ?_
            refine j_run 37 7 rfl ?_
            refine j_gr 44 12 rfl rfl hp1.1 rfl ?_
            refine j_run 45 1 rfl ?_
            refine j_ald 46 rfl hp1.2.1 rfl ?_
            refine j_cv 47 11 5 rfl rfl mwX9_liftOf hp1.1 rfl rfl (eX9_liftOf hA hp1 x2 x3 x4 (fX10_steps x6 x5) (rd σ (c1 + 1) x5) _) rfl rfl (rok rfl rfl) (Nat.le_of_ble_eq_true rfl) (fun q10 _ h10 => ?_)
            refine j_ast 48 rfl hp0.2.2.2.2.2.2.2.1 rfl ?_
            exact j_weak (leP_s (leP_s (leP_s (leP_s (leP_s (leP_s (leP_s (leP_s (leP_z))))))))) (JX0_firstBaring_J97 hA hp0 hp1 x2 x3 x4 x5 x6 (fX10_steps x6 x5) _ ih _)
          · exact j_weak (leP_s (leP_s (leP_s (leP_s (leP_s (leP_s (leP_s (leP_s (leP_z))))))))) (JX0_firstBaring_J97 hA hp0 hp1 x2 x3 x4 x5 x6 (fX10_steps x6 x5) _ ih _)
    · refine j_run 62 1 rfl ?_
      exact j_iret 63 rfl rfl rfl
theorem eX0_firstBaring {X : Cx} {ads : List Nat} {sk : List Sk} (hA : ads.length = sk.length ∧ sk.length ≤ 1000) (hp0 : ocC sk) {c1 : Nat} (hp1 : ocW sk c1) (x2 : Int) (x3 : Int) (x4 : Int) (x5 : Int) (σ : Sg) : CF X mX0_firstBaring ads sk [.inr (some 65), .inr (some c1), .inl x2, .inl x3, .inl x4, .inl x5] σ wE (fX0_firstBaring c1 x2 x3 x4 x5 σ) := by
  refine CF.of ⟨pX0_firstBaring_ok, tbX0_ok, hA.1, hA.2⟩ (plainFor_of_name plX0) (Nat.le_of_ble_eq_true rfl) ?_
  show jX0_firstBaring X ads sk (0, [some (.inr (some 65)), some (.inr (some c1)), some (.inl x2), some (.inl x3), some (.inl x4), some (.inl x5), none, none], [], σ) (fX0_firstBaring c1 x2 x3 x4 x5 σ)
  unfold fX0_firstBaring
  refine j_run 0 2 rfl ?_
  refine j_weak (leP_s (leP_s (leP_s (leP_s (leP_s (leP_s (leP_s (leP_n (leP_z))))))))) (JX0_firstBaring_L3 hA hp0 hp1 x2 x3 x4 x5 _ (fun s2 => ?_) FU 0 _)
  refine j_run 12 2 rfl ?_
  exact j_weak (leP_s (leP_s (leP_s (leP_s (leP_s (leP_s (leP_s (leP_n (leP_z))))))))) (JX0_firstBaring_L27 hA hp0 hp1 x2 x3 x4 x5 FU 0 _)
abbrev jX0_baring (X : Cx) (ads : List Nat) (sk : List Sk) (ps : PS) (res : Option (Int × Sg)) : Prop := J X mX0_baring pX0_baring tbX0 (rmD 5 0 0) 0 0 E0 (fun a => FM X mX0_baring ads sk (wE a)) ads sk ps res
theorem JX0_baring_J81 {X : Cx} {ads : List Nat} {sk : List Sk} (hA : ads.length = sk.length ∧ sk.length ≤ 1000) (hp0 : ocC sk) {c1 : Nat} (hp1 : ocW sk c1) (x2 : Int) (x3 : Int) (x4 : Int) (k21 : Int → Sg → Option (Int × Sg)) (hk21 : ∀ (x4 : Int) (σ : Sg), jX0_baring X ads sk (21, [some (.inr (some 65)), some (.inr (some c1)), some (.inl x2), some (.inl x3), some (.inl x4), none, none], [], σ) (k21 x4 σ)) (k89 : Int → Int → Int → Sg → Option (Int × Sg)) (hk89 : ∀ (x3 : Int) (x4 : Int) (x6 : Int) (σ : Sg), jX0_baring X ads sk (89, [some (.inr (some 65)), none, none, some (.inl x3), some (.inl x4), none, some (.inl x6)], [], σ) (k89 x3 x4 x6 σ)) (y0 : Int) (σ : Sg) : jX0_baring X ads sk (81, [some (.inr (some 65)), some (.inr (some c1)), some (.inl x2), some (.inl x3), some (.inl x4), none, none], [.inl y0], σ) (fX0_baring_J81 c1 k21 k89 x2 x3 x4 y0 σ) := by
  unfold fX0_baring_J81
  refine j_run 45 3 rfl ?_
  refine jc_icmp_eq 48 rfl rfl (fun h5 => ?_) (fun h5 => ?_)
  · refine j_run 65 1 rfl ?_
    refine j_goto 66 rfl rfl ?_
    exact j_weak (leP_s (leP_s (leP_s (leP_s (leP_s (leP_n (leP_n (leP_z)))))))) (hk21 (bw (x4 + 1)) _)
  · exact j_weak (leP_s (leP_n (leP_n (leP_s (leP_s (leP_n (leP_s (leP_z)))))))) (hk89 x3 x4 y0 _)
theorem JX0_baring_L21 {X : Cx} {ads : List Nat} {sk : List Sk} (hA : ads.length = sk.length ∧ sk.length ≤ 1000) (hp0 : ocC sk) {c1 : Nat} (hp1 : ocW sk c1) (x2 : Int) (x3 : Int) (k10 : Int → Sg → Option (Int × Sg)) (hk10 : ∀ (x3 : Int) (σ : Sg), jX0_baring X ads sk (10, [some (.inr (some 65)), some (.inr (some c1)), some (.inl x2), some (.inl x3), none, none, none], [], σ) (k10 x3 σ)) (k89 : Int → Int → Int → Sg → Option (Int × Sg)) (hk89 : ∀ (x3 : Int) (x4 : Int) (x6 : Int) (σ : Sg), jX0_baring X ads sk (89, [some (.inr (some 65)), none, none, some (.inl x3), some (.inl x4), none, some (.inl x6)], [], σ) (k89 x3 x4 x6 σ)) : ∀ (n : Nat) (x4 : Int) (σ : Sg), jX0_baring X ads sk (21, [some (.inr (some 65)), some (.inr (some c1)), some (.inl x2), some (.inl x3), some (.inl x4), none, none], [], σ) (fX0_baring_L21 c1 k10 k89 x2 x3 n x4 σ) := by
  intro n
  induction n with
  | zero => intro x4 σ; exact j_none
  | succ n ih =>
    intro x4 σ
    rw [fX0_baring_L21]
    refine j_run 12 2 rfl ?_
    refine j_gf 14 1 rfl rfl hp0.1 rfl ?_
    refine jc_icmp_ge 15 rfl rfl (fun h3 => ?_) (fun h3 => ?_)
    · refine j_run 16 2 rfl ?_
      refine j_gr 18 6 rfl rfl hp0.1 rfl ?_
      refine j_run 19 1 rfl ?_
      refine j_ald 20 rfl hp0.2.2.2.2.1 rfl ?_
      refine j_run 21 1 rfl ?_
      refine j_gr 22 7 rfl rfl hp0.1 rfl ?_
      refine j_run 23 1 rfl ?_
      refine j_ald 24 rfl hp0.2.2.2.2.2.1 rfl ?_
      refine j_cv 25 6 2 rfl rfl mwX9_foundOf hp1.1 rfl rfl (eX9_foundOf hA hp1 (rd σ 69 x3) (rd σ 70 x4) _) rfl rfl (rok rfl rfl) (Nat.le_of_ble_eq_true rfl) (fun q4 _ h4 => ?_)
      refine j_run 26 3 rfl ?_
      refine jc_icmp_ge 29 rfl rfl (fun h6 => ?_) (fun h6 => ?_)
      · refine j_run 30 1 rfl ?_
        refine j_goto 31 rfl rfl ?_
        exact j_weak (leP_s (leP_s (leP_s (leP_s (leP_s (leP_n (leP_n (leP_z)))))))) (JX0_baring_J81 hA hp0 hp1 x2 x3 x4 _ ih _ hk89 (-1) _)
      · refine j_run 32 3 rfl ?_
        refine j_gr 35 6 rfl rfl hp0.1 rfl ?_
        refine j_run 36 1 rfl ?_
        refine j_ald 37 rfl hp0.2.2.2.2.1 rfl ?_
        refine j_run 38 1 rfl ?_
        refine j_gr 39 7 rfl rfl hp0.1 rfl ?_
        refine j_run 40 1 rfl ?_
        refine j_ald 41 rfl hp0.2.2.2.2.2.1 rfl ?_
        refine j_run 42 2 rfl ?_
        refine j_cv 44 12 5 rfl rfl mwX0_firstBaring hp0.1 rfl rfl (eX0_firstBaring hA hp0 hp1 (rd q4.2 69 x3) (rd q4.2 70 x4) q4.1 x2 _) rfl rfl (rok rfl rfl) (Nat.le_of_ble_eq_true rfl) (fun q7 _ h7 => ?_)
        exact j_weak (leP_s (leP_s (leP_s (leP_s (leP_s (leP_n (leP_n (leP_z)))))))) (JX0_baring_J81 hA hp0 hp1 x2 x3 x4 _ ih _ hk89 q7.1 _)
    · refine j_run 67 1 rfl ?_
      refine j_goto 68 rfl rfl ?_
      exact j_weak (leP_s (leP_s (leP_s (leP_s (leP_n (leP_n (leP_n (leP_z)))))))) (hk10 (bw (x3 + 1)) _)
theorem JX0_baring_L10 {X : Cx} {ads : List Nat} {sk : List Sk} (hA : ads.length = sk.length ∧ sk.length ≤ 1000) (hp0 : ocC sk) {c1 : Nat} (hp1 : ocW sk c1) (x2 : Int) (k89 : Int → Int → Int → Sg → Option (Int × Sg)) (hk89 : ∀ (x3 : Int) (x4 : Int) (x6 : Int) (σ : Sg), jX0_baring X ads sk (89, [some (.inr (some 65)), none, none, some (.inl x3), some (.inl x4), none, some (.inl x6)], [], σ) (k89 x3 x4 x6 σ)) : ∀ (n : Nat) (x3 : Int) (σ : Sg), jX0_baring X ads sk (10, [some (.inr (some 65)), some (.inr (some c1)), some (.inl x2), some (.inl x3), none, none, none], [], σ) (fX0_baring_L10 c1 k89 x2 n x3 σ) := by
  intro n
  induction n with
  | zero => intro x3 σ; exact j_none
  | succ n ih =>
    intro x3 σ
    rw [fX0_baring_L10]
    refine j_run 6 2 rfl ?_
    refine j_gf 8 0 rfl rfl hp0.1 rfl ?_
    refine jc_icmp_ge 9 rfl rfl (fun h2 => ?_) (fun h2 => ?_)
    · refine j_run 10 2 rfl ?_
      exact j_weak (leP_s (leP_s (leP_s (leP_s (leP_s (leP_n (leP_n (leP_z)))))))) (JX0_baring_L21 hA hp0 hp1 x2 x3 _ ih _ hk89 FU 0 _)
    · refine j_run 69 1 rfl ?_
      exact j_iret 70 rfl rfl rfl
theorem eX0_baring {X : Cx} {ads : List Nat} {sk : List Sk} (hA : ads.length = sk.length ∧ sk.length ≤ 1000) (hp0 : ocC sk) {c1 : Nat} (hp1 : ocW sk c1) (x2 : Int) (σ : Sg) : CF X mX0_baring ads sk [.inr (some 65), .inr (some c1), .inl x2] σ wE (fX0_baring c1 x2 σ) := by
  refine CF.of ⟨pX0_baring_ok, tbX0_ok, hA.1, hA.2⟩ (plainFor_of_name plX0) (Nat.le_of_ble_eq_true rfl) ?_
  show jX0_baring X ads sk (0, [some (.inr (some 65)), some (.inr (some c1)), some (.inl x2), none, none, none, none], [], σ) (fX0_baring c1 x2 σ)
  unfold fX0_baring
  refine j_run 0 2 rfl ?_
  refine j_gr 2 9 rfl rfl hp1.1 rfl ?_
  refine j_cv 3 1 1 rfl rfl mwX0_gather hp0.1 rfl rfl (eX0_gather hA hp0 hp1.2.2.2.1 _) rfl rfl (rok rfl rfl) (Nat.le_of_ble_eq_true rfl) (fun s1 _ h1 => ?_)
  refine j_run 4 2 rfl ?_
  refine j_weak (leP_s (leP_s (leP_s (leP_s (leP_n (leP_n (leP_n (leP_z)))))))) (JX0_baring_L10 hA hp0 hp1 x2 _ (fun v8_3 v8_4 v8_6 s8 => ?_) FU 0 _)
  refine j_run 49 2 rfl ?_
  refine j_gr 51 6 rfl rfl hp0.1 rfl ?_
  refine j_run 52 1 rfl ?_
  refine j_ald 53 rfl hp0.2.2.2.2.1 rfl ?_
  refine j_run 54 2 rfl ?_
  refine j_gr 56 7 rfl rfl hp0.1 rfl ?_
  refine j_run 57 1 rfl ?_
  refine j_ald 58 rfl hp0.2.2.2.2.2.1 rfl ?_
  refine j_run 59 5 rfl ?_
  exact j_iret 64 rfl rfl rfl
abbrev jX0_mostAlike (X : Cx) (ads : List Nat) (sk : List Sk) (ps : PS) (res : Option (Int × Sg)) : Prop := J X mX0_mostAlike pX0_mostAlike tbX0 (rmD 5 0 0) 0 0 E0 (fun a => FM X mX0_mostAlike ads sk (wE a)) ads sk ps res
theorem JX0_mostAlike_L3 {X : Cx} {ads : List Nat} {sk : List Sk} (hA : ads.length = sk.length ∧ sk.length ≤ 1000) (hp0 : ocC sk) {c1 : Nat} (hp1 : ocW sk c1) (x2 : Int) (x3 : Int) (k24 : Sg → Option (Int × Sg)) (hk24 : ∀  (σ : Sg), jX0_mostAlike X ads sk (24, [some (.inr (some 65)), some (.inr (some c1)), some (.inl x2), some (.inl x3), none, none, none], [], σ) (k24 σ)) : ∀ (n : Nat) (x4 : Int) (σ : Sg), jX0_mostAlike X ads sk (3, [some (.inr (some 65)), some (.inr (some c1)), some (.inl x2), some (.inl x3), some (.inl x4), none, none], [], σ) (fX0_mostAlike_L3 c1 k24 x2 x3 n x4 σ) := by
  intro n
  induction n with
  | zero => intro x4 σ; exact j_none
  | succ n ih =>
    intro x4 σ
    rw [fX0_mostAlike_L3]
    refine j_run 2 2 rfl ?_
    refine jc_icmp_ge 4 rfl rfl (fun h1 => ?_) (fun h1 => ?_)
    · refine j_run 5 1 rfl ?_
      refine j_gr 6 13 rfl rfl hp0.1 rfl ?_
      refine j_run 7 2 rfl ?_
      refine j_ast 9 rfl hp0.2.2.2.2.2.2.2.2 rfl ?_
      refine j_run 10 1 rfl ?_
      refine j_goto 11 rfl rfl ?_
      exact j_weak (leP_s (leP_s (leP_s (leP_s (leP_s (leP_n (leP_n (leP_z)))))))) (ih (bw (x4 + 1)) _)
    · exact j_weak (leP_s (leP_s (leP_s (leP_s (leP_n (leP_n (leP_n (leP_z)))))))) (hk24 _)
theorem JX0_mostAlike_L30 {X : Cx} {ads : List Nat} {sk : List Sk} (hA : ads.length = sk.length ∧ sk.length ≤ 1000) (hp0 : ocC sk) {c1 : Nat} (hp1 : ocW sk c1) (x2 : Int) (x3 : Int) : ∀ (n : Nat) (x4 : Int) (x5 : Int) (σ : Sg), jX0_mostAlike X ads sk (30, [some (.inr (some 65)), some (.inr (some c1)), some (.inl x2), some (.inl x3), some (.inl x4), some (.inl x5), none], [], σ) (fX0_mostAlike_L30 c1 x2 x3 n x4 x5 σ) := by
  intro n
  induction n with
  | zero => intro x4 x5 σ; exact j_none
  | succ n ih =>
    intro x4 x5 σ
    rw [fX0_mostAlike_L30]
    refine j_run 16 2 rfl ?_
    refine j_gr 18 9 rfl rfl hp1.1 rfl ?_
    refine j_gf 19 2 rfl rfl hp1.2.2.2.1.1 rfl ?_
    refine jc_icmp_ge 20 rfl rfl (fun h3 => ?_) (fun h3 => ?_)
    · refine j_run 21 6 rfl ?_
      refine jc_icmp_ne 27 rfl rfl (fun h4 => ?_) (fun h4 => ?_)
      · refine j_run 28 3 rfl ?_
        refine j_cv 31 6 2 rfl rfl mwX9_foundOf hp1.1 rfl rfl (eX9_foundOf hA hp1 x2 x5 _) rfl rfl (rok rfl rfl) (Nat.le_of_ble_eq_true rfl) (fun q5 _ h5 => ?_)
        refine j_run 32 1 rfl ?_
        refine j_csNT 33 1 2 rfl rfl mwX10_held (eX10_held hA q5.1 9 _) rfl rfl (rok rfl rfl) (Nat.le_of_ble_eq_true rfl) (fun h6 => ?_)
        refine j_run 34 2 rfl ?_
        refine j_gr 36 13 rfl rfl hp0.1 rfl ?_
        refine j_run 37 2 rfl ?_
        refine j_ald 39 rfl hp0.2.2.2.2.2.2.2.2 rfl ?_
        refine j_run 40 2 rfl ?_
        refine j_ast 42 rfl hp0.2.2.2.2.2.2.2.2 rfl ?_
        refine j_run 43 2 rfl ?_
        refine j_gr 45 13 rfl rfl hp0.1 rfl ?_
        refine j_run 46 1 rfl ?_
        refine j_ald 47 rfl hp0.2.2.2.2.2.2.2.2 rfl ?_
        refine j_csT 48 5 2 rfl rfl mwJ9_max_7cf53 (eJ9_max_7cf53 hA x4 (rd (wr q5.2 73 (fX10_held q5.1 9) (bw ((rd q5.2 73 (fX10_held q5.1 9)) + 1))) 73 (fX10_held q5.1 9)) _) rfl rfl (rok rfl rfl) (Nat.le_of_ble_eq_true rfl) (fun h7 => ?_)
        refine j_run 49 1 rfl ?_
        refine j_run 50 1 rfl ?_
        refine j_goto 51 rfl rfl ?_
        exact j_weak (leP_s (leP_s (leP_s (leP_s (leP_s (leP_s (leP_n (leP_z)))))))) (ih (fJ9_max_7cf53 x4 (rd (wr q5.2 73 (fX10_held q5.1 9) (bw ((rd q5.2 73 (fX10_held q5.1 9)) + 1))) 73 (fX10_held q5.1 9))) (bw (x5 + 1)) _)
      · refine j_run 50 1 rfl ?_
        refine j_goto 51 rfl rfl ?_
        exact j_weak (leP_s (leP_s (leP_s (leP_s (leP_s (leP_s (leP_n (leP_z)))))))) (ih x4 (bw (x5 + 1)) _)
    · refine j_run 52 1 rfl ?_
      exact j_iret 53 rfl rfl rfl
theorem eX0_mostAlike {X : Cx} {ads : List Nat} {sk : List Sk} (hA : ads.length = sk.length ∧ sk.length ≤ 1000) (hp0 : ocC sk) {c1 : Nat} (hp1 : ocW sk c1) (x2 : Int) (x3 : Int) (σ : Sg) : CF X mX0_mostAlike ads sk [.inr (some 65), .inr (some c1), .inl x2, .inl x3] σ wE (fX0_mostAlike c1 x2 x3 σ) := by
  refine CF.of ⟨pX0_mostAlike_ok, tbX0_ok, hA.1, hA.2⟩ (plainFor_of_name plX0) (Nat.le_of_ble_eq_true rfl) ?_
  show jX0_mostAlike X ads sk (0, [some (.inr (some 65)), some (.inr (some c1)), some (.inl x2), some (.inl x3), none, none, none], [], σ) (fX0_mostAlike c1 x2 x3 σ)
  unfold fX0_mostAlike
  refine j_run 0 2 rfl ?_
  refine j_weak (leP_s (leP_s (leP_s (leP_s (leP_s (leP_n (leP_n (leP_z)))))))) (JX0_mostAlike_L3 hA hp0 hp1 x2 x3 _ (fun s2 => ?_) FU 0 _)
  refine j_run 12 4 rfl ?_
  exact j_weak (leP_s (leP_s (leP_s (leP_s (leP_s (leP_s (leP_n (leP_z)))))))) (JX0_mostAlike_L30 hA hp0 hp1 x2 x3 FU 0 0 _)
abbrev jX0_nextToPass (X : Cx) (ads : List Nat) (sk : List Sk) (ps : PS) (res : Option (Int × Sg)) : Prop := J X mX0_nextToPass pX0_nextToPass tbX0 (rmD 6 0 0) 0 0 E0 (fun a => FM X mX0_nextToPass ads sk (wE a)) ads sk ps res
theorem JX0_nextToPass_L10 {X : Cx} {ads : List Nat} {sk : List Sk} (hA : ads.length = sk.length ∧ sk.length ≤ 1000) (hp0 : ocC sk) {c1 : Nat} (hp1 : ocW sk c1) (x2 : Int) (x3 : Int) : ∀ (n : Nat) (x4 : Int) (x5 : Int) (x6 : Int) (σ : Sg), jX0_nextToPass X ads sk (10, [some (.inr (some 65)), some (.inr (some c1)), some (.inl x2), some (.inl x3), some (.inl x4), some (.inl x5), some (.inl x6), none], [], σ) (fX0_nextToPass_L10 c1 x2 x3 n x4 x5 x6 σ) := by
  intro n
  induction n with
  | zero => intro x4 x5 x6 σ; exact j_none
  | succ n ih =>
    intro x4 x5 x6 σ
    rw [fX0_nextToPass_L10]
    refine j_run 6 2 rfl ?_
    refine j_gr 8 9 rfl rfl hp1.1 rfl ?_
    refine j_gf 9 2 rfl rfl hp1.2.2.2.1.1 rfl ?_
    refine jc_icmp_ge 10 rfl rfl (fun h1 => ?_) (fun h1 => ?_)
    · refine j_run 11 2 rfl ?_
      refine jc_icmp_eq 13 rfl rfl (fun h2 => ?_) (fun h2 => ?_)
      · refine j_run 39 1 rfl ?_
        refine j_goto 40 rfl rfl ?_
        exact j_weak (leP_s (leP_s (leP_s (leP_s (leP_s (leP_s (leP_s (leP_n (leP_z))))))))) (ih x4 x5 (bw (x6 + 1)) _)
      · refine j_run 14 1 rfl ?_
        refine j_gr 15 9 rfl rfl hp1.1 rfl ?_
        refine j_gr 16 5 rfl rfl hp1.2.2.2.1.1 rfl ?_
        refine j_run 17 1 rfl ?_
        refine j_ald 18 rfl hp1.2.2.2.1.2.1 rfl ?_
        refine j_run 19 1 rfl ?_
        refine j_gr 20 9 rfl rfl hp1.1 rfl ?_
        refine j_gr 21 5 rfl rfl hp1.2.2.2.1.1 rfl ?_
        refine j_run 22 1 rfl ?_
        refine j_ald 23 rfl hp1.2.2.2.1.2.1 rfl ?_
        refine jc_icmp_eq 24 rfl rfl (fun h3 => ?_) (fun h3 => ?_)
        · refine j_run 26 4 rfl ?_
          refine j_cv 30 13 3 rfl rfl mwX0_mostAlike hp0.1 rfl rfl (eX0_mostAlike hA hp0 hp1 x6 x3 _) rfl rfl (rok rfl rfl) (Nat.le_of_ble_eq_true rfl) (fun q4 _ h4 => ?_)
          refine j_run 31 3 rfl ?_
          refine jc_icmp_ge 34 rfl rfl (fun h5 => ?_) (fun h5 => ?_)
          · refine j_run 35 4 rfl ?_
            refine j_run 39 1 rfl ?_
            refine j_goto 40 rfl rfl ?_
            exact j_weak (leP_s (leP_s (leP_s (leP_s (leP_s (leP_s (leP_s (leP_n (leP_z))))))))) (ih x6 q4.1 (bw (x6 + 1)) _)
          · refine j_run 39 1 rfl ?_
            refine j_goto 40 rfl rfl ?_
            exact j_weak (leP_s (leP_s (leP_s (leP_s (leP_s (leP_s (leP_s (leP_n (leP_z))))))))) (ih x4 x5 (bw (x6 + 1)) _)
        · refine j_goto 25 rfl rfl ?_
          refine j_run 39 1 rfl ?_
          refine j_goto 40 rfl rfl ?_
          exact j_weak (leP_s (leP_s (leP_s (leP_s (leP_s (leP_s (leP_s (leP_n (leP_z))))))))) (ih x4 x5 (bw (x6 + 1)) _)
    · refine j_run 41 1 rfl ?_
      exact j_iret 42 rfl rfl rfl
theorem eX0_nextToPass {X : Cx} {ads : List Nat} {sk : List Sk} (hA : ads.length = sk.length ∧ sk.length ≤ 1000) (hp0 : ocC sk) {c1 : Nat} (hp1 : ocW sk c1) (x2 : Int) (x3 : Int) (σ : Sg) : CF X mX0_nextToPass ads sk [.inr (some 65), .inr (some c1), .inl x2, .inl x3] σ wE (fX0_nextToPass c1 x2 x3 σ) := by
  refine CF.of ⟨pX0_nextToPass_ok, tbX0_ok, hA.1, hA.2⟩ (plainFor_of_name plX0) (Nat.le_of_ble_eq_true rfl) ?_
  show jX0_nextToPass X ads sk (0, [some (.inr (some 65)), some (.inr (some c1)), some (.inl x2), some (.inl x3), none, none, none, none], [], σ) (fX0_nextToPass c1 x2 x3 σ)
  unfold fX0_nextToPass
  refine j_run 0 6 rfl ?_
  exact j_weak (leP_s (leP_s (leP_s (leP_s (leP_s (leP_s (leP_s (leP_n (leP_z))))))))) (JX0_nextToPass_L10 hA hp0 hp1 x2 x3 FU (-1) 13 0 _)
abbrev jX1_add (X : Cx) (ads : List Nat) (sk : List Sk) (ps : PS) (res : Option (Int × Sg)) : Prop := J X mX1_add pX1_add tbX1 (rmD 0 0 0) 0 0 E0 (fun a => FM X mX1_add ads sk (wE a)) ads sk ps res
theorem eX1_add {X : Cx} {ads : List Nat} {sk : List Sk} (hA : ads.length = sk.length ∧ sk.length ≤ 1000) {c0 : Nat} (hp0 : ocF sk c0) (x1 : Int) (x2 : Int) (x3 : Int) (x4 : Int) (σ : Sg) : CF X mX1_add ads sk [.inr (some c0), .inl x1, .inl x2, .inl x3, .inl x4] σ wE (fX1_add c0 x1 x2 x3 x4 σ) := by
  refine CF.of ⟨pX1_add_ok, tbX1_ok, hA.1, hA.2⟩ (plainFor_of_name plX1) (Nat.le_of_ble_eq_true rfl) ?_
  show jX1_add X ads sk (0, [some (.inr (some c0)), some (.inl x1), some (.inl x2), some (.inl x3), some (.inl x4)], [], σ) (fX1_add c0 x1 x2 x3 x4 σ)
  unfold fX1_add
  refine j_run 0 1 rfl ?_
  refine j_gf 1 0 rfl rfl hp0.1 rfl ?_
  refine j_run 2 1 rfl ?_
  refine jc_icmp_lt 3 rfl rfl (fun h1 => ?_) (fun h1 => ?_)
  · refine j_run 6 1 rfl ?_
    refine j_gr 7 3 rfl rfl hp0.1 rfl ?_
    refine j_run 8 1 rfl ?_
    refine j_gf 9 0 rfl rfl hp0.1 rfl ?_
    refine j_run 10 1 rfl ?_
    refine j_ast 11 rfl hp0.2.1 rfl ?_
    refine j_run 12 1 rfl ?_
    refine j_gr 13 4 rfl rfl hp0.1 rfl ?_
    refine j_run 14 1 rfl ?_
    refine j_gf 15 0 rfl rfl hp0.1 rfl ?_
    refine j_run 16 1 rfl ?_
    refine j_ast 17 rfl hp0.2.2.1 rfl ?_
    refine j_run 18 1 rfl ?_
    refine j_gr 19 5 rfl rfl hp0.1 rfl ?_
    refine j_run 20 1 rfl ?_
    refine j_gf 21 0 rfl rfl hp0.1 rfl ?_
    refine j_run 22 1 rfl ?_
    refine j_ast 23 rfl hp0.2.2.2.1 rfl ?_
    refine j_run 24 1 rfl ?_
    refine j_gr 25 6 rfl rfl hp0.1 rfl ?_
    refine j_run 26 1 rfl ?_
    refine j_gf 27 0 rfl rfl hp0.1 rfl ?_
    refine j_run 28 1 rfl ?_
    refine j_ast 29 rfl hp0.2.2.2.2.1 rfl ?_
    refine j_run 30 1 rfl ?_
    refine j_gr 31 1 rfl rfl hp0.1 rfl ?_
    refine j_run 32 1 rfl ?_
    refine j_gf 33 0 rfl rfl hp0.1 rfl ?_
    refine j_run 34 1 rfl ?_
    refine j_ast 35 rfl hp0.2.2.2.2.2.1 rfl ?_
    refine j_run 36 1 rfl ?_
    refine j_gr 37 2 rfl rfl hp0.1 rfl ?_
    refine j_run 38 1 rfl ?_
    refine j_gf 39 0 rfl rfl hp0.1 rfl ?_
    refine j_run 40 1 rfl ?_
    refine j_ast 41 rfl hp0.2.2.2.2.2.2 rfl ?_
    refine j_run 42 2 rfl ?_
    refine j_gf 44 0 rfl rfl hp0.1 rfl ?_
    refine j_run 45 2 rfl ?_
    refine j_pf 47 0 rfl rfl hp0.1 rfl rfl (Or.inl rfl) ?_
    refine j_run 48 1 rfl ?_
    refine j_gf 49 0 rfl rfl hp0.1 rfl ?_
    refine j_run 50 2 rfl ?_
    exact j_iret 52 rfl rfl rfl
  · refine j_run 4 1 rfl ?_
    exact j_iret 5 rfl rfl rfl
abbrev jX1_areTwo (X : Cx) (ads : List Nat) (sk : List Sk) (σ : Sg) (ps : PS) (res : Option (Int)) : Prop := J X mX1_areTwo pX1_areTwo tbX1 (rmD 1 0 0) 0 0 E0 (fun a => FM X mX1_areTwo ads sk ((wP σ) a)) ads sk ps res
theorem eX1_areTwo {X : Cx} {ads : List Nat} {sk : List Sk} (hA : ads.length = sk.length ∧ sk.length ≤ 1000) {c0 : Nat} (hp0 : ocF sk c0) (x1 : Int) (x2 : Int) (σ : Sg) : CF X mX1_areTwo ads sk [.inr (some c0), .inl x1, .inl x2] σ (wP σ) (some (fX1_areTwo c0 x1 x2 σ)) := by
  refine CF.of ⟨pX1_areTwo_ok, tbX1_ok, hA.1, hA.2⟩ (plainFor_of_name plX1) (Nat.le_of_ble_eq_true rfl) ?_
  show jX1_areTwo X ads sk σ (0, [some (.inr (some c0)), some (.inl x1), some (.inl x2)], [], σ) (some (fX1_areTwo c0 x1 x2 σ))
  unfold fX1_areTwo
  refine j_run 0 2 rfl ?_
  refine j_cvT 2 0 1 rfl rfl mwX1_has hp0.1 rfl rfl (eX1_has hA hp0 x1 _) rfl rfl (rok rfl rfl) (Nat.le_of_ble_eq_true rfl) (fun h1 => ?_)
  refine jt_if_eq 3 rfl rfl (fun h2 => ?_) (fun h2 => ?_)
  · refine j_run 13 1 rfl ?_
    exact j_zret 14 rfl rfl (by decide) rfl
  · refine j_run 4 2 rfl ?_
    refine j_cvT 6 0 1 rfl rfl mwX1_has hp0.1 rfl rfl (eX1_has hA hp0 x2 _) rfl rfl (rok rfl rfl) (Nat.le_of_ble_eq_true rfl) (fun h3 => ?_)
    refine jt_if_eq 7 rfl rfl (fun h4 => ?_) (fun h4 => ?_)
    · refine j_run 13 1 rfl ?_
      exact j_zret 14 rfl rfl (by decide) rfl
    · refine j_run 8 2 rfl ?_
      refine jt_icmp_eq 10 rfl rfl (fun h5 => ?_) (fun h5 => ?_)
      · refine j_run 13 1 rfl ?_
        exact j_zret 14 rfl rfl (by decide) rfl
      · refine j_run 11 1 rfl ?_
        refine j_goto 12 rfl rfl ?_
        exact j_zret 14 rfl rfl (by decide) rfl
abbrev jX1_canWed (X : Cx) (ads : List Nat) (sk : List Sk) (σ : Sg) (ps : PS) (res : Option (Int)) : Prop := J X mX1_canWed pX1_canWed tbX1 (rmD 2 0 0) 0 0 E0 (fun a => FM X mX1_canWed ads sk ((wP σ) a)) ads sk ps res
theorem eX1_canWed {X : Cx} {ads : List Nat} {sk : List Sk} (hA : ads.length = sk.length ∧ sk.length ≤ 1000) {c0 : Nat} (hp0 : ocF sk c0) (x1 : Int) (x2 : Int) (σ : Sg) : CF X mX1_canWed ads sk [.inr (some c0), .inl x1, .inl x2] σ (wP σ) (fX1_canWed c0 x1 x2 σ) := by
  refine CF.of ⟨pX1_canWed_ok, tbX1_ok, hA.1, hA.2⟩ (plainFor_of_name plX1) (Nat.le_of_ble_eq_true rfl) ?_
  show jX1_canWed X ads sk σ (0, [some (.inr (some c0)), some (.inl x1), some (.inl x2)], [], σ) (fX1_canWed c0 x1 x2 σ)
  unfold fX1_canWed
  refine j_run 0 2 rfl ?_
  refine j_cv 2 1 1 rfl rfl mwX1_isFree hp0.1 rfl rfl (eX1_isFree hA hp0 x1 _) rfl rfl (rok rfl rfl) (Nat.le_of_ble_eq_true rfl) (fun r1 _ h1 => ?_)
  refine jc_if_eq 3 rfl rfl (fun h2 => ?_) (fun h2 => ?_)
  · refine j_run 19 1 rfl ?_
    exact j_zret 20 rfl rfl (by decide) rfl
  · refine j_run 4 2 rfl ?_
    refine j_cv 6 1 1 rfl rfl mwX1_isFree hp0.1 rfl rfl (eX1_isFree hA hp0 x2 _) rfl rfl (rok rfl rfl) (Nat.le_of_ble_eq_true rfl) (fun r3 _ h3 => ?_)
    refine jc_if_eq 7 rfl rfl (fun h4 => ?_) (fun h4 => ?_)
    · refine j_run 19 1 rfl ?_
      exact j_zret 20 rfl rfl (by decide) rfl
    · refine j_run 8 1 rfl ?_
      refine j_gr 9 3 rfl rfl hp0.1 rfl ?_
      refine j_run 10 1 rfl ?_
      refine j_ald 11 rfl hp0.2.1 rfl ?_
      refine j_run 12 1 rfl ?_
      refine j_gr 13 3 rfl rfl hp0.1 rfl ?_
      refine j_run 14 1 rfl ?_
      refine j_ald 15 rfl hp0.2.1 rfl ?_
      refine jc_icmp_eq 16 rfl rfl (fun h5 => ?_) (fun h5 => ?_)
      · refine j_run 19 1 rfl ?_
        exact j_zret 20 rfl rfl (by decide) rfl
      · refine j_run 17 1 rfl ?_
        refine j_goto 18 rfl rfl ?_
        exact j_zret 20 rfl rfl (by decide) rfl
abbrev jX1_makeKin (X : Cx) (ads : List Nat) (sk : List Sk) (ps : PS) (res : Option (Sg)) : Prop := J X mX1_makeKin pX1_makeKin tbX1 (rmD 0 0 0) 0 0 E0 (fun a => FM X mX1_makeKin ads sk (wV a)) ads sk ps res
theorem eX1_makeKin {X : Cx} {ads : List Nat} {sk : List Sk} (hA : ads.length = sk.length ∧ sk.length ≤ 1000) {c0 : Nat} (hp0 : ocF sk c0) (x1 : Int) (x2 : Int) (x3 : Int) (σ : Sg) : CF X mX1_makeKin ads sk [.inr (some c0), .inl x1, .inl x2, .inl x3] σ wV (fX1_makeKin c0 x1 x2 x3 σ) := by
  refine CF.of ⟨pX1_makeKin_ok, tbX1_ok, hA.1, hA.2⟩ (plainFor_of_name plX1) (Nat.le_of_ble_eq_true rfl) ?_
  show jX1_makeKin X ads sk (0, [some (.inr (some c0)), some (.inl x1), some (.inl x2), some (.inl x3)], [], σ) (fX1_makeKin c0 x1 x2 x3 σ)
  unfold fX1_makeKin
  refine j_run 0 1 rfl ?_
  refine jc_if_eq 1 rfl rfl (fun h1 => ?_) (fun h1 => ?_)
  · refine j_run 23 1 rfl ?_
    refine j_gr 24 2 rfl rfl hp0.1 rfl ?_
    refine j_run 25 2 rfl ?_
    refine j_ald 27 rfl hp0.2.2.2.2.2.2 rfl ?_
    refine j_run 28 6 rfl ?_
    refine j_ast 34 rfl hp0.2.2.2.2.2.2 rfl ?_
    refine j_run 35 1 rfl ?_
    refine j_gr 36 2 rfl rfl hp0.1 rfl ?_
    refine j_run 37 2 rfl ?_
    refine j_ald 39 rfl hp0.2.2.2.2.2.2 rfl ?_
    refine j_run 40 6 rfl ?_
    refine j_ast 46 rfl hp0.2.2.2.2.2.2 rfl ?_
    exact j_vret 47 rfl rfl rfl
  · refine j_run 2 1 rfl ?_
    refine j_gr 3 2 rfl rfl hp0.1 rfl ?_
    refine j_run 4 2 rfl ?_
    refine j_ald 6 rfl hp0.2.2.2.2.2.2 rfl ?_
    refine j_run 7 4 rfl ?_
    refine j_ast 11 rfl hp0.2.2.2.2.2.2 rfl ?_
    refine j_run 12 1 rfl ?_
    refine j_gr 13 2 rfl rfl hp0.1 rfl ?_
    refine j_run 14 2 rfl ?_
    refine j_ald 16 rfl hp0.2.2.2.2.2.2 rfl ?_
    refine j_run 17 4 rfl ?_
    refine j_ast 21 rfl hp0.2.2.2.2.2.2 rfl ?_
    refine j_goto 22 rfl rfl ?_
    exact j_vret 47 rfl rfl rfl
abbrev jX1_wedSet (X : Cx) (ads : List Nat) (sk : List Sk) (σ : Sg) (ps : PS) (res : Option (Int)) : Prop := J X mX1_wedSet pX1_wedSet tbX1 (rmD 0 0 0) 0 0 E0 (fun a => FM X mX1_wedSet ads sk ((wP σ) a)) ads sk ps res
theorem JX1_wedSet_L4 {X : Cx} {ads : List Nat} {sk : List Sk} (hA : ads.length = sk.length ∧ sk.length ≤ 1000) {c0 : Nat} (hp0 : ocF sk c0) (σ : Sg) : ∀ (n : Nat) (x1 : Int) (x2 : Int), jX1_wedSet X ads sk σ (4, [some (.inr (some c0)), some (.inl x1), some (.inl x2)], [], σ) (fX1_wedSet_L4 c0 σ n x1 x2) := by
  intro n
  induction n with
  | zero => intro x1 x2; exact j_none
  | succ n ih =>
    intro x1 x2
    rw [fX1_wedSet_L4]
    refine j_run 4 2 rfl ?_
    refine j_gf 6 0 rfl rfl hp0.1 rfl ?_
    refine jc_icmp_ge 7 rfl rfl (fun h1 => ?_) (fun h1 => ?_)
    · refine j_run 8 1 rfl ?_
      refine j_gr 9 1 rfl rfl hp0.1 rfl ?_
      refine j_run 10 1 rfl ?_
      refine j_ald 11 rfl hp0.2.2.2.2.2.1 rfl ?_
      refine j_run 12 1 rfl ?_
      refine jc_icmp_eq 13 rfl rfl (fun h2 => ?_) (fun h2 => ?_)
      · refine j_run 20 1 rfl ?_
        refine j_goto 21 rfl rfl ?_
        exact j_weak (leP_s (leP_s (leP_s (leP_z)))) (ih x1 (bw (x2 + 1)))
      · refine j_run 14 6 rfl ?_
        refine j_run 20 1 rfl ?_
        refine j_goto 21 rfl rfl ?_
        exact j_weak (leP_s (leP_s (leP_s (leP_z)))) (ih (bor x1 (bshl 1 x2)) (bw (x2 + 1)))
    · refine j_run 22 1 rfl ?_
      exact j_iret 23 rfl rfl rfl
theorem eX1_wedSet {X : Cx} {ads : List Nat} {sk : List Sk} (hA : ads.length = sk.length ∧ sk.length ≤ 1000) {c0 : Nat} (hp0 : ocF sk c0) (σ : Sg) : CF X mX1_wedSet ads sk [.inr (some c0)] σ (wP σ) (fX1_wedSet c0 σ) := by
  refine CF.of ⟨pX1_wedSet_ok, tbX1_ok, hA.1, hA.2⟩ (plainFor_of_name plX1) (Nat.le_of_ble_eq_true rfl) ?_
  show jX1_wedSet X ads sk σ (0, [some (.inr (some c0)), none, none], [], σ) (fX1_wedSet c0 σ)
  unfold fX1_wedSet
  refine j_run 0 4 rfl ?_
  exact j_weak (leP_s (leP_s (leP_s (leP_z)))) (JX1_wedSet_L4 hA hp0 σ FU 0 0)
abbrev jX1_allKinOf (X : Cx) (ads : List Nat) (sk : List Sk) (σ : Sg) (ps : PS) (res : Option (Int)) : Prop := J X mX1_allKinOf pX1_allKinOf tbX1 (rmD 0 0 0) 0 0 E0 (fun a => FM X mX1_allKinOf ads sk ((wP σ) a)) ads sk ps res
theorem JX1_allKinOf_L17 {X : Cx} {ads : List Nat} {sk : List Sk} (hA : ads.length = sk.length ∧ sk.length ≤ 1000) {c0 : Nat} (hp0 : ocF sk c0) (σ : Sg) (x3 : Int) (k6 : Int → Int → Option (Int)) (hk6 : ∀ (x2 : Int) (x3 : Int), jX1_allKinOf X ads sk σ (6, [some (.inr (some c0)), none, some (.inl x2), some (.inl x3), none], [], σ) (k6 x2 x3)) : ∀ (n : Nat) (x2 : Int) (x4 : Int), jX1_allKinOf X ads sk σ (17, [some (.inr (some c0)), none, some (.inl x2), some (.inl x3), some (.inl x4)], [], σ) (fX1_allKinOf_L17 c0 σ k6 x3 n x2 x4) := by
  intro n
  induction n with
  | zero => intro x2 x4; exact j_none
  | succ n ih =>
    intro x2 x4
    rw [fX1_allKinOf_L17]
    refine j_run 12 2 rfl ?_
    refine j_gf 14 0 rfl rfl hp0.1 rfl ?_
    refine jc_icmp_ge 15 rfl rfl (fun h2 => ?_) (fun h2 => ?_)
    · refine j_run 16 6 rfl ?_
      refine jc_icmp_ne 22 rfl rfl (fun h3 => ?_) (fun h3 => ?_)
      · refine j_run 23 2 rfl ?_
        refine j_gr 25 2 rfl rfl hp0.1 rfl ?_
        refine j_run 26 1 rfl ?_
        refine j_ald 27 rfl hp0.2.2.2.2.2.2 rfl ?_
        refine j_run 28 2 rfl ?_
        refine j_run 30 1 rfl ?_
        refine j_goto 31 rfl rfl ?_
        exact j_weak (leP_s (leP_n (leP_s (leP_s (leP_s (leP_z)))))) (ih (bor x2 (rd σ (c0 + 6) x4)) (bw (x4 + 1)))
      · refine j_run 30 1 rfl ?_
        refine j_goto 31 rfl rfl ?_
        exact j_weak (leP_s (leP_n (leP_s (leP_s (leP_s (leP_z)))))) (ih x2 (bw (x4 + 1)))
    · refine j_run 32 1 rfl ?_
      refine j_goto 33 rfl rfl ?_
      exact j_weak (leP_s (leP_n (leP_s (leP_s (leP_n (leP_z)))))) (hk6 x2 (bw (x3 + 1)))
theorem JX1_allKinOf_L6 {X : Cx} {ads : List Nat} {sk : List Sk} (hA : ads.length = sk.length ∧ sk.length ≤ 1000) {c0 : Nat} (hp0 : ocF sk c0) (σ : Sg) : ∀ (n : Nat) (x2 : Int) (x3 : Int), jX1_allKinOf X ads sk σ (6, [some (.inr (some c0)), none, some (.inl x2), some (.inl x3), none], [], σ) (fX1_allKinOf_L6 c0 σ n x2 x3) := by
  intro n
  induction n with
  | zero => intro x2 x3; exact j_none
  | succ n ih =>
    intro x2 x3
    rw [fX1_allKinOf_L6]
    refine j_run 6 2 rfl ?_
    refine j_gf 8 0 rfl rfl hp0.1 rfl ?_
    refine jc_icmp_ge 9 rfl rfl (fun h1 => ?_) (fun h1 => ?_)
    · refine j_run 10 2 rfl ?_
      exact j_weak (leP_s (leP_n (leP_s (leP_s (leP_s (leP_z)))))) (JX1_allKinOf_L17 hA hp0 σ x3 _ ih FU x2 0)
    · refine j_run 34 1 rfl ?_
      exact j_iret 35 rfl rfl rfl
theorem eX1_allKinOf {X : Cx} {ads : List Nat} {sk : List Sk} (hA : ads.length = sk.length ∧ sk.length ≤ 1000) {c0 : Nat} (hp0 : ocF sk c0) (x1 : Int) (σ : Sg) : CF X mX1_allKinOf ads sk [.inr (some c0), .inl x1] σ (wP σ) (fX1_allKinOf c0 x1 σ) := by
  refine CF.of ⟨pX1_allKinOf_ok, tbX1_ok, hA.1, hA.2⟩ (plainFor_of_name plX1) (Nat.le_of_ble_eq_true rfl) ?_
  show jX1_allKinOf X ads sk σ (0, [some (.inr (some c0)), some (.inl x1), none, none, none], [], σ) (fX1_allKinOf c0 x1 σ)
  unfold fX1_allKinOf
  refine j_run 0 6 rfl ?_
  exact j_weak (leP_s (leP_n (leP_s (leP_s (leP_n (leP_z)))))) (JX1_allKinOf_L6 hA hp0 σ FU (bshl 1 x1) 0)
abbrev jX1_hopeAmong (X : Cx) (ads : List Nat) (sk : List Sk) (e : Nat) (σ : Sg) (ps : PS) (res : Option (Int)) : Prop := J X (mX1_hopeAmong e) pX1_hopeAmong tbX1 (rmD e 0 0) 0 0 E0 (fun a => FM X (mX1_hopeAmong e) ads sk ((wP σ) a)) ads sk ps res
theorem JX1_hopeAmong_J36 {X : Cx} {ads : List Nat} {sk : List Sk} (hA : ads.length = sk.length ∧ sk.length ≤ 1000) {c0 : Nat} (hp0 : ocF sk c0) {e e2 : Nat} (he : e2 + 1 ≤ e) (hb : 1 ≤ e) {r_hopeAmong : Nat → Int → Int → Sg → Option (Int)} (hr_hopeAmong : ∀ (c0 : Nat) (hc0 : ocF sk c0) (x1 : Int) (x2 : Int) (σ : Sg), CF X (mX1_hopeAmong e2) ads sk [.inr (some c0), .inl x1, .inl x2] σ (wP σ) (r_hopeAmong c0 x1 x2 σ)) (σ : Sg) (x2 : Int) (x3 : Int) : jX1_hopeAmong X ads sk e σ (36, [some (.inr (some c0)), none, some (.inl x2), some (.inl x3), none], [], σ) (fX1_hopeAmong_J36 c0 r_hopeAmong σ x2 x3) := by
  unfold fX1_hopeAmong_J36
  refine j_run 23 5 rfl ?_
  refine j_cs 28 2 3 rfl rfl (mwX1_hopeAmong _) (hr_hopeAmong _ hp0 x3 (bw (x2 - 1)) _) rfl rfl (rokS he (Nat.le_of_ble_eq_true rfl)) (Nat.le_of_ble_eq_true rfl) (fun r3 _ h3 => ?_)
  exact j_iret 29 rfl rfl rfl
theorem egX1_hopeAmong {X : Cx} {ads : List Nat} {sk : List Sk} (hA : ads.length = sk.length ∧ sk.length ≤ 1000) {c0 : Nat} (hp0 : ocF sk c0) {e e2 : Nat} (he : e2 + 1 ≤ e) (hb : 1 ≤ e) {r_hopeAmong : Nat → Int → Int → Sg → Option (Int)} (hr_hopeAmong : ∀ (c0 : Nat) (hc0 : ocF sk c0) (x1 : Int) (x2 : Int) (σ : Sg), CF X (mX1_hopeAmong e2) ads sk [.inr (some c0), .inl x1, .inl x2] σ (wP σ) (r_hopeAmong c0 x1 x2 σ)) (x1 : Int) (x2 : Int) (σ : Sg) : CF X (mX1_hopeAmong e) ads sk [.inr (some c0), .inl x1, .inl x2] σ (wP σ) (gX1_hopeAmong c0 r_hopeAmong x1 x2 σ) := by
  refine CF.of ⟨pX1_hopeAmong_ok, tbX1_ok, hA.1, hA.2⟩ (plainFor_of_name plX1) (Nat.le_of_ble_eq_true rfl) ?_
  show jX1_hopeAmong X ads sk e σ (0, [some (.inr (some c0)), some (.inl x1), some (.inl x2), none, none], [], σ) (gX1_hopeAmong c0 r_hopeAmong x1 x2 σ)
  unfold gX1_hopeAmong
  refine j_run 0 1 rfl ?_
  refine jc_if_lt 1 rfl rfl (fun h1 => ?_) (fun h1 => ?_)
  · refine j_run 5 1 rfl ?_
    exact j_iret 6 rfl rfl rfl
  · refine j_run 2 2 rfl ?_
    refine jc_icmp_lt 4 rfl rfl (fun h2 => ?_) (fun h2 => ?_)
    · refine j_run 7 10 rfl ?_
      refine jc_icmp_eq 17 rfl rfl (fun h4 => ?_) (fun h4 => ?_)
      · exact j_weak (leP_s (leP_n (leP_s (leP_s (leP_n (leP_z)))))) (JX1_hopeAmong_J36 hA hp0 he hb hr_hopeAmong σ x2 (band x1 (bxor (bshl 1 x2) (-1))))
      · refine j_run 18 1 rfl ?_
        refine j_gr 19 5 rfl rfl hp0.1 rfl ?_
        refine j_run 20 1 rfl ?_
        refine j_ald 21 rfl hp0.2.2.2.1 rfl ?_
        refine jc_if_ne 22 rfl rfl (fun h5 => ?_) (fun h5 => ?_)
        · exact j_weak (leP_s (leP_n (leP_s (leP_s (leP_n (leP_z)))))) (JX1_hopeAmong_J36 hA hp0 he hb hr_hopeAmong σ x2 (band x1 (bxor (bshl 1 x2) (-1))))
        · refine j_run 30 1 rfl ?_
          refine j_gr 31 5 rfl rfl hp0.1 rfl ?_
          refine j_run 32 1 rfl ?_
          refine j_ald 33 rfl hp0.2.2.2.1 rfl ?_
          refine j_run 34 9 rfl ?_
          refine j_gr 43 2 rfl rfl hp0.1 rfl ?_
          refine j_run 44 1 rfl ?_
          refine j_ald 45 rfl hp0.2.2.2.2.2.2 rfl ?_
          refine j_run 46 6 rfl ?_
          refine j_cs 52 2 3 rfl rfl (mwX1_hopeAmong _) (hr_hopeAmong _ hp0 (band (band x1 (bxor (bshl 1 x2) (-1))) (bxor (rd σ (c0 + 6) x2) (-1))) (bw (x2 - 1)) _) rfl rfl (rokS he (Nat.le_of_ble_eq_true rfl)) (Nat.le_of_ble_eq_true rfl) (fun r6 _ h6 => ?_)
          refine j_run 53 3 rfl ?_
          refine j_gr 56 2 rfl rfl hp0.1 rfl ?_
          refine j_run 57 1 rfl ?_
          refine j_ald 58 rfl hp0.2.2.2.2.2.2 rfl ?_
          refine j_run 59 2 rfl ?_
          refine jc_if_ne 61 rfl rfl (fun h7 => ?_) (fun h7 => ?_)
          · refine j_run 62 1 rfl ?_
            refine j_goto 63 rfl rfl ?_
            exact j_iret 72 rfl rfl rfl
          · refine j_run 64 6 rfl ?_
            refine j_cs 70 2 3 rfl rfl (mwX1_hopeAmong _) (hr_hopeAmong _ hp0 (band x1 (bxor (bshl 1 x2) (-1))) (bw (x2 - 1)) _) rfl rfl (rokS he (Nat.le_of_ble_eq_true rfl)) (Nat.le_of_ble_eq_true rfl) (fun r8 _ h8 => ?_)
            refine j_csT 71 3 2 rfl rfl mwJ9_max_7cf53 (eJ9_max_7cf53 hA (bw ((bw ((bshl (rd σ (c0 + 3) x2) 12) - (bshl 1 x2))) + r6)) r8 _) rfl rfl (rokS (Nat.le_trans (Nat.le_of_ble_eq_true (rfl : Nat.ble (0 + 1) 1 = true)) hb) (Nat.le_of_ble_eq_true rfl)) (Nat.le_of_ble_eq_true rfl) (fun h9 => ?_)
            exact j_iret 72 rfl rfl rfl
    · refine j_run 5 1 rfl ?_
      exact j_iret 6 rfl rfl rfl
theorem et_X1_hopeAmong {X : Cx} {ads : List Nat} {sk : List Sk} (hA : ads.length = sk.length ∧ sk.length ≤ 1000) : ∀ n : Nat, (∀ (c0 : Nat) (hc0 : ocF sk c0) (x1 : Int) (x2 : Int) (σ : Sg), CF X (mX1_hopeAmong (1 + n)) ads sk [.inr (some c0), .inl x1, .inl x2] σ (wP σ) ((rg_X1_hopeAmong n) c0 x1 x2 σ))
  | 0 => by intros; intro a ha; cases ha
  | n + 1 => by
    have ih := et_X1_hopeAmong (X := X) hA n
    exact ((by intros; exact egX1_hopeAmong hA (by assumption) (e := 1 + (n + 1)) (e2 := 1 + n) (by omega) (by omega) (ih) _ _ _))
theorem eX1_hopeAmong_n {X : Cx} {ads : List Nat} {sk : List Sk} (hA : ads.length = sk.length ∧ sk.length ≤ 1000) {c0 : Nat} (hp0 : ocF sk c0) (n : Nat) (x1 : Int) (x2 : Int) (σ : Sg) : CF X (mX1_hopeAmong (1 + n)) ads sk [.inr (some c0), .inl x1, .inl x2] σ (wP σ) (fX1_hopeAmong n c0 x1 x2 σ) := (et_X1_hopeAmong hA n) c0 hp0 x1 x2 σ
abbrev jX1_copy (X : Cx) (ads : List Nat) (sk : List Sk) (ps : PS) (res : Option (Sg)) : Prop := J X mX1_copy pX1_copy tbX1 (rmD 1 0 0) 0 0 E0 (fun a => FM X mX1_copy ads sk (wV a)) ads sk ps res
theorem eX1_copy {X : Cx} {ads : List Nat} {sk : List Sk} (hA : ads.length = sk.length ∧ sk.length ≤ 1000) {c0 : Nat} (hp0 : ocF sk c0) {c1 : Nat} (hp1 : ocF sk c1) (σ : Sg) : CF X mX1_copy ads sk [.inr (some c0), .inr (some c1)] σ wV (fX1_copy c0 c1 σ) := by
  refine CF.of ⟨pX1_copy_ok, tbX1_ok, hA.1, hA.2⟩ (plainFor_of_name plX1) (Nat.le_of_ble_eq_true rfl) ?_
  show jX1_copy X ads sk (0, [some (.inr (some c0)), some (.inr (some c1))], [], σ) (fX1_copy c0 c1 σ)
  unfold fX1_copy
  refine j_run 0 2 rfl ?_
  refine j_gf 2 0 rfl rfl hp1.1 rfl ?_
  refine j_pf 3 0 rfl rfl hp0.1 rfl rfl (Or.inl rfl) ?_
  refine j_run 4 1 rfl ?_
  refine j_gr 5 3 rfl rfl hp1.1 rfl ?_
  refine j_run 6 2 rfl ?_
  refine j_gr 8 3 rfl rfl hp0.1 rfl ?_
  refine j_run 9 2 rfl ?_
  refine j_copyE (d := 1) 11 4 rfl rfl hp1.2.1 hp0.2.1 rfl rfl rfl ?_
  refine j_run 12 1 rfl ?_
  refine j_gr 13 4 rfl rfl hp1.1 rfl ?_
  refine j_run 14 2 rfl ?_
  refine j_gr 16 4 rfl rfl hp0.1 rfl ?_
  refine j_run 17 2 rfl ?_
  refine j_copyE (d := 1) 19 4 rfl rfl hp1.2.2.1 hp0.2.2.1 rfl rfl rfl ?_
  refine j_run 20 1 rfl ?_
  refine j_gr 21 5 rfl rfl hp1.1 rfl ?_
  refine j_run 22 2 rfl ?_
  refine j_gr 24 5 rfl rfl hp0.1 rfl ?_
  refine j_run 25 2 rfl ?_
  refine j_copyE (d := 1) 27 4 rfl rfl hp1.2.2.2.1 hp0.2.2.2.1 rfl rfl rfl ?_
  refine j_run 28 1 rfl ?_
  refine j_gr 29 6 rfl rfl hp1.1 rfl ?_
  refine j_run 30 2 rfl ?_
  refine j_gr 32 6 rfl rfl hp0.1 rfl ?_
  refine j_run 33 2 rfl ?_
  refine j_copyE (d := 1) 35 4 rfl rfl hp1.2.2.2.2.1 hp0.2.2.2.2.1 rfl rfl rfl ?_
  refine j_run 36 1 rfl ?_
  refine j_gr 37 1 rfl rfl hp1.1 rfl ?_
  refine j_run 38 2 rfl ?_
  refine j_gr 40 1 rfl rfl hp0.1 rfl ?_
  refine j_run 41 2 rfl ?_
  refine j_copyE (d := 1) 43 4 rfl rfl hp1.2.2.2.2.2.1 hp0.2.2.2.2.2.1 rfl rfl rfl ?_
  refine j_run 44 1 rfl ?_
  refine j_gr 45 2 rfl rfl hp1.1 rfl ?_
  refine j_run 46 2 rfl ?_
  refine j_gr 48 2 rfl rfl hp0.1 rfl ?_
  refine j_run 49 2 rfl ?_
  refine j_copyE (d := 1) 51 4 rfl rfl hp1.2.2.2.2.2.2 hp0.2.2.2.2.2.2 rfl rfl rfl ?_
  exact j_vret 52 rfl rfl rfl
abbrev jX2_clear (X : Cx) (ads : List Nat) (sk : List Sk) (ps : PS) (res : Option (Sg)) : Prop := J X mX2_clear pX2_clear tbX2 (rmD 0 0 0) 0 0 E0 (fun a => FM X mX2_clear ads sk (wV a)) ads sk ps res
theorem eX2_clear {X : Cx} {ads : List Nat} {sk : List Sk} (hA : ads.length = sk.length ∧ sk.length ≤ 1000) {c0 : Nat} (hp0 : ocL sk c0) (σ : Sg) : CF X mX2_clear ads sk [.inr (some c0)] σ wV (fX2_clear c0 σ) := by
  refine CF.of ⟨pX2_clear_ok, tbX2_ok, hA.1, hA.2⟩ (plainFor_of_name plX2) (Nat.le_of_ble_eq_true rfl) ?_
  show jX2_clear X ads sk (0, [some (.inr (some c0))], [], σ) (fX2_clear c0 σ)
  unfold fX2_clear
  refine j_run 0 2 rfl ?_
  refine j_pf 2 3 rfl rfl hp0.1 rfl rfl (Or.inl rfl) ?_
  refine j_run 3 2 rfl ?_
  refine j_pf 5 7 rfl rfl hp0.1 rfl rfl (Or.inl rfl) ?_
  refine j_run 6 1 rfl ?_
  refine j_gr 7 6 rfl rfl hp0.1 rfl ?_
  refine j_run 8 2 rfl ?_
  refine j_ast0 10 rfl hp0.2.2.2.1 (by decide) ?_
  exact j_vret 11 rfl rfl rfl
abbrev jX2_codeOfName (X : Cx) (ads : List Nat) (sk : List Sk) (σ : Sg) (ps : PS) (res : Option (Int)) : Prop := J X mX2_codeOfName pX2_codeOfName tbX2 (rmD 0 0 0) 0 0 E0 (fun a => FM X mX2_codeOfName ads sk ((wP σ) a)) ads sk ps res
theorem eX2_codeOfName {X : Cx} {ads : List Nat} {sk : List Sk} (hA : ads.length = sk.length ∧ sk.length ≤ 1000) (x0 : Int) (σ : Sg) : CF X mX2_codeOfName ads sk [.inl x0] σ (wP σ) (some (fX2_codeOfName x0)) := by
  refine CF.of ⟨pX2_codeOfName_ok, tbX2_ok, hA.1, hA.2⟩ (plainFor_of_name plX2) (Nat.le_of_ble_eq_true rfl) ?_
  show jX2_codeOfName X ads sk σ (0, [some (.inl x0)], [], σ) (some (fX2_codeOfName x0))
  unfold fX2_codeOfName
  refine j_run 0 5 rfl ?_
  exact j_iret 5 rfl rfl rfl
abbrev jX2_codeOfJoint (X : Cx) (ads : List Nat) (sk : List Sk) (σ : Sg) (ps : PS) (res : Option (Int)) : Prop := J X mX2_codeOfJoint pX2_codeOfJoint tbX2 (rmD 0 0 0) 0 0 E0 (fun a => FM X mX2_codeOfJoint ads sk ((wP σ) a)) ads sk ps res
theorem eX2_codeOfJoint {X : Cx} {ads : List Nat} {sk : List Sk} (hA : ads.length = sk.length ∧ sk.length ≤ 1000) (x0 : Int) (σ : Sg) : CF X mX2_codeOfJoint ads sk [.inl x0] σ (wP σ) (some (fX2_codeOfJoint x0)) := by
  refine CF.of ⟨pX2_codeOfJoint_ok, tbX2_ok, hA.1, hA.2⟩ (plainFor_of_name plX2) (Nat.le_of_ble_eq_true rfl) ?_
  show jX2_codeOfJoint X ads sk σ (0, [some (.inl x0)], [], σ) (some (fX2_codeOfJoint x0))
  unfold fX2_codeOfJoint
  refine j_run 0 3 rfl ?_
  exact j_iret 3 rfl rfl rfl
abbrev jX2_put (X : Cx) (ads : List Nat) (sk : List Sk) (ps : PS) (res : Option (Sg)) : Prop := J X mX2_put pX2_put tbX2 (rmD 0 0 0) 0 0 E0 (fun a => FM X mX2_put ads sk (wV a)) ads sk ps res
theorem eX2_put {X : Cx} {ads : List Nat} {sk : List Sk} (hA : ads.length = sk.length ∧ sk.length ≤ 1000) {c0 : Nat} (hp0 : ocL sk c0) (x1 : Int) (σ : Sg) : CF X mX2_put ads sk [.inr (some c0), .inl x1] σ wV (fX2_put c0 x1 σ) := by
  refine CF.of ⟨pX2_put_ok, tbX2_ok, hA.1, hA.2⟩ (plainFor_of_name plX2) (Nat.le_of_ble_eq_true rfl) ?_
  show jX2_put X ads sk (0, [some (.inr (some c0)), some (.inl x1)], [], σ) (fX2_put c0 x1 σ)
  unfold fX2_put
  refine j_run 0 1 rfl ?_
  refine j_gf 1 7 rfl rfl hp0.1 rfl ?_
  refine j_run 2 1 rfl ?_
  refine jc_icmp_ge 3 rfl rfl (fun h1 => ?_) (fun h1 => ?_)
  · refine j_run 4 1 rfl ?_
    refine j_gr 5 1 rfl rfl hp0.1 rfl ?_
    refine j_run 6 1 rfl ?_
    refine j_gf 7 7 rfl rfl hp0.1 rfl ?_
    refine j_run 8 1 rfl ?_
    refine j_ast 9 rfl hp0.2.1 rfl ?_
    refine j_run 10 2 rfl ?_
    refine j_gf 12 7 rfl rfl hp0.1 rfl ?_
    refine j_run 13 2 rfl ?_
    refine j_pf 15 7 rfl rfl hp0.1 rfl rfl (Or.inl rfl) ?_
    exact j_vret 16 rfl rfl rfl
  · exact j_vret 16 rfl rfl rfl
