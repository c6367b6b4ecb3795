/-! each method does what its function says -/
abbrev jX11_match (X : Cx) (ads : List Nat) (sk : List Sk) (ps : PS) (res : Option (Int × Sg)) : Prop := J X mX11_match pX11_match tbX11 (rmD 6 0 0) 0 0 E0 (fun a => FM X mX11_match ads sk (wE a)) ads sk ps res
theorem eX11_match {X : Cx} {ads : List Nat} {sk : List Sk} (hA : ads.length = sk.length ∧ sk.length ≤ 1000) (hp0 : ocM sk) (x1 : Int) (x2 : Int) (x3 : Int) (σ : Sg) : CF X mX11_match ads sk [.inr (some 84), .inl x1, .inl x2, .inl x3] σ wE (fX11_match x1 x2 x3 σ) := by
  refine CF.of ⟨pX11_match_ok, tbX11_ok, hA.1, hA.2⟩ (plainFor_of_name plX11) (Nat.le_of_ble_eq_true rfl) ?_
  show jX11_match X ads sk (0, [some (.inr (some 84)), some (.inl x1), some (.inl x2), some (.inl x3)], [], σ) (fX11_match x1 x2 x3 σ)
  unfold fX11_match
  refine j_run 0 2 rfl ?_
  refine j_cvT 2 3 1 rfl rfl mwX11_isPerson hp0.1 rfl rfl (eX11_isPerson hA hp0 x1 _) rfl rfl (rok rfl rfl) (Nat.le_of_ble_eq_true rfl) (fun h1 => ?_)
  refine jc_if_eq 3 rfl rfl (fun h2 => ?_) (fun h2 => ?_)
  · refine j_run 11 1 rfl ?_
    exact j_iret 12 rfl rfl rfl
  · refine j_run 4 2 rfl ?_
    refine j_cvT 6 3 1 rfl rfl mwX11_isPerson hp0.1 rfl rfl (eX11_isPerson hA hp0 x2 _) rfl rfl (rok rfl rfl) (Nat.le_of_ble_eq_true rfl) (fun h3 => ?_)
    refine jc_if_eq 7 rfl rfl (fun h4 => ?_) (fun h4 => ?_)
    · refine j_run 11 1 rfl ?_
      exact j_iret 12 rfl rfl rfl
    · refine j_run 8 2 rfl ?_
      refine jc_icmp_ne 10 rfl rfl (fun h5 => ?_) (fun h5 => ?_)
      · refine j_run 11 1 rfl ?_
        exact j_iret 12 rfl rfl rfl
      · refine j_run 13 1 rfl ?_
        refine jc_if_eq 14 rfl rfl (fun h6 => ?_) (fun h6 => ?_)
        · refine j_run 20 3 rfl ?_
          refine j_cv 23 54 2 rfl rfl mwX11_matchOf hp0.1 rfl rfl (eX11_matchOf hA hp0 x1 x2 _) rfl rfl (rok rfl rfl) (Nat.le_of_ble_eq_true rfl) (fun q7 _ h7 => ?_)
          exact j_iret 24 rfl rfl rfl
        · refine j_run 15 3 rfl ?_
          refine j_cv 18 55 2 rfl rfl mwX11_foundOf hp0.1 rfl rfl (eX11_foundOf hA hp0 x1 x2 _) rfl rfl (rok rfl rfl) (Nat.le_of_ble_eq_true rfl) (fun q8 _ h8 => ?_)
          refine j_goto 19 rfl rfl ?_
          exact j_iret 24 rfl rfl rfl
abbrev jX11_at (X : Cx) (ads : List Nat) (sk : List Sk) (ps : PS) (res : Option (Int × Sg)) : Prop := J X mX11_at pX11_at tbX11 (rmD 5 0 0) 0 0 E0 (fun a => FM X mX11_at ads sk (wE a)) ads sk ps res
theorem eX11_at {X : Cx} {ads : List Nat} {sk : List Sk} (hA : ads.length = sk.length ∧ sk.length ≤ 1000) (hp0 : ocM sk) (x1 : Int) (x2 : Int) (σ : Sg) : CF X mX11_at ads sk [.inr (some 84), .inl x1, .inl x2] σ wE (fX11_at x1 x2 σ) := by
  refine CF.of ⟨pX11_at_ok, tbX11_ok, hA.1, hA.2⟩ (plainFor_of_name plX11) (Nat.le_of_ble_eq_true rfl) ?_
  show jX11_at X ads sk (0, [some (.inr (some 84)), some (.inl x1), some (.inl x2)], [], σ) (fX11_at x1 x2 σ)
  unfold fX11_at
  refine j_run 0 2 rfl ?_
  refine j_cvT 2 2 1 rfl rfl mwX11_isField hp0.1 rfl rfl (eX11_isField hA hp0 x1 _) rfl rfl (rok rfl rfl) (Nat.le_of_ble_eq_true rfl) (fun h1 => ?_)
  refine jc_if_eq 3 rfl rfl (fun h2 => ?_) (fun h2 => ?_)
  · refine j_run 9 1 rfl ?_
    exact j_iret 10 rfl rfl rfl
  · refine j_run 4 3 rfl ?_
    refine j_csT 7 0 3 rfl rfl mwX11_isIn (eX11_isIn hA x2 0 1 _) rfl rfl (rok rfl rfl) (Nat.le_of_ble_eq_true rfl) (fun h3 => ?_)
    refine jc_if_ne 8 rfl rfl (fun h4 => ?_) (fun h4 => ?_)
    · refine j_run 9 1 rfl ?_
      exact j_iret 10 rfl rfl rfl
    · refine j_run 11 1 rfl ?_
      refine jc_if_ne 12 rfl rfl (fun h5 => ?_) (fun h5 => ?_)
      · refine j_run 13 1 rfl ?_
        refine j_gr 14 0 rfl rfl hp0.1 rfl ?_
        refine j_run 15 3 rfl ?_
        refine j_ald 18 rfl hp0.2.1 rfl ?_
        refine j_goto 19 rfl rfl ?_
        exact j_iret 23 rfl rfl rfl
      · refine j_run 20 2 rfl ?_
        refine j_cv 22 73 1 rfl rfl mwX11_meltOf hp0.1 rfl rfl (eX11_meltOf hA hp0 x1 _) rfl rfl (rok rfl rfl) (Nat.le_of_ble_eq_true rfl) (fun q6 _ h6 => ?_)
        exact j_iret 23 rfl rfl rfl
abbrev jX11_lift (X : Cx) (ads : List Nat) (sk : List Sk) (ps : PS) (res : Option (Int × Sg)) : Prop := J X mX11_lift pX11_lift tbX11 (rmD 7 0 0) 0 0 E0 (fun a => FM X mX11_lift ads sk (wE a)) ads sk ps res
theorem eX11_lift {X : Cx} {ads : List Nat} {sk : List Sk} (hA : ads.length = sk.length ∧ sk.length ≤ 1000) (hp0 : ocM sk) (x1 : Int) (x2 : Int) (x3 : Int) (x4 : Int) (σ : Sg) : CF X mX11_lift ads sk [.inr (some 84), .inl x1, .inl x2, .inl x3, .inl x4] σ wE (fX11_lift x1 x2 x3 x4 σ) := by
  refine CF.of ⟨pX11_lift_ok, tbX11_ok, hA.1, hA.2⟩ (plainFor_of_name plX11) (Nat.le_of_ble_eq_true rfl) ?_
  show jX11_lift X ads sk (0, [some (.inr (some 84)), some (.inl x1), some (.inl x2), some (.inl x3), some (.inl x4)], [], σ) (fX11_lift x1 x2 x3 x4 σ)
  unfold fX11_lift
  refine j_run 0 2 rfl ?_
  refine j_cvT 2 3 1 rfl rfl mwX11_isPerson hp0.1 rfl rfl (eX11_isPerson hA hp0 x1 _) rfl rfl (rok rfl rfl) (Nat.le_of_ble_eq_true rfl) (fun h1 => ?_)
  refine jc_if_eq 3 rfl rfl (fun h2 => ?_) (fun h2 => ?_)
  · refine j_run 26 1 rfl ?_
    exact j_iret 27 rfl rfl rfl
  · refine j_run 4 2 rfl ?_
    refine j_cvT 6 3 1 rfl rfl mwX11_isPerson hp0.1 rfl rfl (eX11_isPerson hA hp0 x2 _) rfl rfl (rok rfl rfl) (Nat.le_of_ble_eq_true rfl) (fun h3 => ?_)
    refine jc_if_eq 7 rfl rfl (fun h4 => ?_) (fun h4 => ?_)
    · refine j_run 26 1 rfl ?_
      exact j_iret 27 rfl rfl rfl
    · refine j_run 8 2 rfl ?_
      refine jc_icmp_eq 10 rfl rfl (fun h5 => ?_) (fun h5 => ?_)
      · refine j_run 26 1 rfl ?_
        exact j_iret 27 rfl rfl rfl
      · refine j_run 11 2 rfl ?_
        refine j_cvT 13 2 1 rfl rfl mwX11_isField hp0.1 rfl rfl (eX11_isField hA hp0 x3 _) rfl rfl (rok rfl rfl) (Nat.le_of_ble_eq_true rfl) (fun h6 => ?_)
        refine jc_if_eq 14 rfl rfl (fun h7 => ?_) (fun h7 => ?_)
        · refine j_run 26 1 rfl ?_
          exact j_iret 27 rfl rfl rfl
        · refine j_run 15 2 rfl ?_
          refine j_cvT 17 2 1 rfl rfl mwX11_isField hp0.1 rfl rfl (eX11_isField hA hp0 x4 _) rfl rfl (rok rfl rfl) (Nat.le_of_ble_eq_true rfl) (fun h8 => ?_)
          refine jc_if_eq 18 rfl rfl (fun h9 => ?_) (fun h9 => ?_)
          · refine j_run 26 1 rfl ?_
            exact j_iret 27 rfl rfl rfl
          · refine j_run 19 5 rfl ?_
            refine j_cv 24 58 4 rfl rfl mwX11_liftOf hp0.1 rfl rfl (eX11_liftOf hA hp0 x1 x2 x3 x4 _) rfl rfl (rok rfl rfl) (Nat.le_of_ble_eq_true rfl) (fun q10 _ h10 => ?_)
            refine j_goto 25 rfl rfl ?_
            exact j_iret 27 rfl rfl rfl
abbrev jX11_weather (X : Cx) (ads : List Nat) (sk : List Sk) (σ : Sg) (ps : PS) (res : Option (Int)) : Prop := J X mX11_weather pX11_weather tbX11 (rmD 1 0 0) 0 0 E0 (fun a => FM X mX11_weather ads sk ((wP σ) a)) ads sk ps res
theorem eX11_weather {X : Cx} {ads : List Nat} {sk : List Sk} (hA : ads.length = sk.length ∧ sk.length ≤ 1000) (hp0 : ocM sk) (x1 : Int) (σ : Sg) : CF X mX11_weather ads sk [.inr (some 84), .inl x1] σ (wP σ) (fX11_weather x1 σ) := by
  refine CF.of ⟨pX11_weather_ok, tbX11_ok, hA.1, hA.2⟩ (plainFor_of_name plX11) (Nat.le_of_ble_eq_true rfl) ?_
  show jX11_weather X ads sk σ (0, [some (.inr (some 84)), some (.inl x1)], [], σ) (fX11_weather x1 σ)
  unfold fX11_weather
  refine j_run 0 3 rfl ?_
  refine j_csT 3 0 3 rfl rfl mwX11_isIn (eX11_isIn hA x1 0 9999 _) rfl rfl (rok rfl rfl) (Nat.le_of_ble_eq_true rfl) (fun h1 => ?_)
  refine jc_if_eq 4 rfl rfl (fun h2 => ?_) (fun h2 => ?_)
  · refine j_run 9 1 rfl ?_
    exact j_iret 10 rfl rfl rfl
  · refine j_run 5 2 rfl ?_
    refine j_cv 7 67 1 rfl rfl mwX11_weatherOf hp0.1 rfl rfl (eX11_weatherOf hA hp0 x1 _) rfl rfl (rok rfl rfl) (Nat.le_of_ble_eq_true rfl) (fun r3 _ h3 => ?_)
    refine j_goto 8 rfl rfl ?_
    exact j_iret 10 rfl rfl rfl
abbrev jX11_book (X : Cx) (ads : List Nat) (sk : List Sk) (σ : Sg) (ps : PS) (res : Option (Int)) : Prop := J X mX11_book pX11_book tbX11 (rmD 1 0 0) 0 0 E0 (fun a => FM X mX11_book ads sk ((wP σ) a)) ads sk ps res
theorem eX11_book {X : Cx} {ads : List Nat} {sk : List Sk} (hA : ads.length = sk.length ∧ sk.length ≤ 1000) (hp0 : ocM sk) (x1 : Int) (x2 : Int) (σ : Sg) : CF X mX11_book ads sk [.inr (some 84), .inl x1, .inl x2] σ (wP σ) (fX11_book x1 x2 σ) := by
  refine CF.of ⟨pX11_book_ok, tbX11_ok, hA.1, hA.2⟩ (plainFor_of_name plX11) (Nat.le_of_ble_eq_true rfl) ?_
  show jX11_book X ads sk σ (0, [some (.inr (some 84)), some (.inl x1), some (.inl x2)], [], σ) (fX11_book x1 x2 σ)
  unfold fX11_book
  refine j_run 0 3 rfl ?_
  refine j_gr 3 0 rfl rfl hp0.1 rfl ?_
  refine j_run 4 1 rfl ?_
  refine j_ald0 5 rfl hp0.2.1 (by decide) ?_
  refine j_run 6 2 rfl ?_
  refine j_csT 8 0 3 rfl rfl mwX11_isIn (eX11_isIn hA x1 0 (bw ((rd σ 85 3) - 1)) _) rfl rfl (rok rfl rfl) (Nat.le_of_ble_eq_true rfl) (fun h1 => ?_)
  refine jc_if_eq 9 rfl rfl (fun h2 => ?_) (fun h2 => ?_)
  · refine j_run 26 1 rfl ?_
    exact j_iret 27 rfl rfl rfl
  · refine j_run 10 3 rfl ?_
    refine j_csT 13 0 3 rfl rfl mwX11_isIn (eX11_isIn hA x2 0 3 _) rfl rfl (rok rfl rfl) (Nat.le_of_ble_eq_true rfl) (fun h3 => ?_)
    refine jc_if_eq 14 rfl rfl (fun h4 => ?_) (fun h4 => ?_)
    · refine j_run 26 1 rfl ?_
      exact j_iret 27 rfl rfl rfl
    · refine j_run 15 1 rfl ?_
      refine j_gr 16 0 rfl rfl hp0.1 rfl ?_
      refine j_run 17 7 rfl ?_
      refine j_ald 24 rfl hp0.2.1 rfl ?_
      refine j_goto 25 rfl rfl ?_
      exact j_iret 27 rfl rfl rfl
abbrev jX11_lays (X : Cx) (ads : List Nat) (sk : List Sk) (ps : PS) (res : Option (Sg)) : Prop := J X mX11_lays pX11_lays tbX11 (rmD 0 0 0) 0 0 E0 (fun a => FM X mX11_lays ads sk (wV a)) ads sk ps res
theorem JX11_lays_L2 {X : Cx} {ads : List Nat} {sk : List Sk} (hA : ads.length = sk.length ∧ sk.length ≤ 1000) (hp0 : ocM sk) : ∀ (n : Nat) (x1 : Int) (σ : Sg), jX11_lays X ads sk (2, [some (.inr (some 84)), some (.inl x1)], [], σ) (fX11_lays_L2 n x1 σ) := by
  intro n
  induction n with
  | zero => intro x1 σ; exact j_none
  | succ n ih =>
    intro x1 σ
    rw [fX11_lays_L2]
    refine j_run 2 2 rfl ?_
    refine jc_icmp_ge 4 rfl rfl (fun h1 => ?_) (fun h1 => ?_)
    · refine j_run 5 1 rfl ?_
      refine j_gr 6 26 rfl rfl hp0.1 rfl ?_
      refine j_run 7 2 rfl ?_
      refine j_gr 9 0 rfl rfl hp0.1 rfl ?_
      refine j_run 10 1 rfl ?_
      refine j_ald 11 rfl hp0.2.1 rfl ?_
      refine j_ast 12 rfl hp0.2.2.2.2.1 rfl ?_
      refine j_run 13 1 rfl ?_
      refine j_goto 14 rfl rfl ?_
      exact j_weak (leP_s (leP_s (leP_z))) (ih (bw (x1 + 1)) _)
    · refine j_run 15 2 rfl ?_
      refine j_pf 17 23 rfl rfl hp0.1 rfl rfl (Or.inr ⟨rfl, by decide⟩) ?_
      refine j_run 18 2 rfl ?_
      refine j_pf 20 25 rfl rfl hp0.1 rfl rfl (Or.inl rfl) ?_
      exact j_vret 21 rfl rfl rfl
theorem eX11_lays {X : Cx} {ads : List Nat} {sk : List Sk} (hA : ads.length = sk.length ∧ sk.length ≤ 1000) (hp0 : ocM sk) (σ : Sg) : CF X mX11_lays ads sk [.inr (some 84)] σ wV (fX11_lays σ) := by
  refine CF.of ⟨pX11_lays_ok, tbX11_ok, hA.1, hA.2⟩ (plainFor_of_name plX11) (Nat.le_of_ble_eq_true rfl) ?_
  show jX11_lays X ads sk (0, [some (.inr (some 84)), none], [], σ) (fX11_lays σ)
  unfold fX11_lays
  refine j_run 0 2 rfl ?_
  exact j_weak (leP_s (leP_s (leP_z))) (JX11_lays_L2 hA hp0 FU 0 _)
abbrev jX11_putsBack (X : Cx) (ads : List Nat) (sk : List Sk) (ps : PS) (res : Option (Sg)) : Prop := J X mX11_putsBack pX11_putsBack tbX11 (rmD 0 0 0) 0 0 E0 (fun a => FM X mX11_putsBack ads sk (wV a)) ads sk ps res
theorem JX11_putsBack_L2 {X : Cx} {ads : List Nat} {sk : List Sk} (hA : ads.length = sk.length ∧ sk.length ≤ 1000) (hp0 : ocM sk) : ∀ (n : Nat) (x1 : Int) (σ : Sg), jX11_putsBack X ads sk (2, [some (.inr (some 84)), some (.inl x1)], [], σ) (fX11_putsBack_L2 n x1 σ) := by
  intro n
  induction n with
  | zero => intro x1 σ; exact j_none
  | succ n ih =>
    intro x1 σ
    rw [fX11_putsBack_L2]
    refine j_run 2 2 rfl ?_
    refine jc_icmp_ge 4 rfl rfl (fun h1 => ?_) (fun h1 => ?_)
    · refine j_run 5 1 rfl ?_
      refine j_gr 6 0 rfl rfl hp0.1 rfl ?_
      refine j_run 7 2 rfl ?_
      refine j_gr 9 26 rfl rfl hp0.1 rfl ?_
      refine j_run 10 1 rfl ?_
      refine j_ald 11 rfl hp0.2.2.2.2.1 rfl ?_
      refine j_ast 12 rfl hp0.2.1 rfl ?_
      refine j_run 13 1 rfl ?_
      refine j_goto 14 rfl rfl ?_
      exact j_weak (leP_s (leP_s (leP_z))) (ih (bw (x1 + 1)) _)
    · exact j_vret 15 rfl rfl rfl
theorem eX11_putsBack {X : Cx} {ads : List Nat} {sk : List Sk} (hA : ads.length = sk.length ∧ sk.length ≤ 1000) (hp0 : ocM sk) (σ : Sg) : CF X mX11_putsBack ads sk [.inr (some 84)] σ wV (fX11_putsBack σ) := by
  refine CF.of ⟨pX11_putsBack_ok, tbX11_ok, hA.1, hA.2⟩ (plainFor_of_name plX11) (Nat.le_of_ble_eq_true rfl) ?_
  show jX11_putsBack X ads sk (0, [some (.inr (some 84)), none], [], σ) (fX11_putsBack σ)
  unfold fX11_putsBack
  refine j_run 0 2 rfl ?_
  exact j_weak (leP_s (leP_s (leP_z))) (JX11_putsBack_L2 hA hp0 FU 0 _)
abbrev jX11_lies (X : Cx) (ads : List Nat) (sk : List Sk) (ps : PS) (res : Option (Int × Sg)) : Prop := J X mX11_lies pX11_lies tbX11 (rmD 12 0 0) 0 0 E0 (fun a => FM X mX11_lies ads sk (wE a)) ads sk ps res
theorem JX11_lies_L26 {X : Cx} {ads : List Nat} {sk : List Sk} (hA : ads.length = sk.length ∧ sk.length ≤ 1000) (hp0 : ocM sk) (x1 : Int) (x2 : Int) (k42 : Sg → Option (Int × Sg)) (hk42 : ∀  (σ : Sg), jX11_lies X ads sk (42, [some (.inr (some 84)), some (.inl x1), none, none], [], σ) (k42 σ)) : ∀ (n : Nat) (x3 : Int) (σ : Sg), jX11_lies X ads sk (26, [some (.inr (some 84)), some (.inl x1), some (.inl x2), some (.inl x3)], [], σ) (fX11_lies_L26 k42 x1 x2 n x3 σ) := by
  intro n
  induction n with
  | zero => intro x3 σ; exact j_none
  | succ n ih =>
    intro x3 σ
    rw [fX11_lies_L26]
    refine j_run 15 2 rfl ?_
    refine jc_icmp_ge 17 rfl rfl (fun h6 => ?_) (fun h6 => ?_)
    · refine j_run 18 1 rfl ?_
      refine j_cv 19 74 0 rfl rfl mwX11_aDay hp0.1 rfl rfl (eX11_aDay hA hp0 _) rfl rfl (rok rfl rfl) (Nat.le_of_ble_eq_true rfl) (fun q7 _ h7 => ?_)
      refine j_run 20 2 rfl ?_
      refine j_goto 22 rfl rfl ?_
      exact j_weak (leP_s (leP_s (leP_s (leP_s (leP_z))))) (ih (bw (x3 + 1)) _)
    · exact j_weak (leP_s (leP_s (leP_n (leP_n (leP_z))))) (hk42 _)
theorem eX11_lies {X : Cx} {ads : List Nat} {sk : List Sk} (hA : ads.length = sk.length ∧ sk.length ≤ 1000) (hp0 : ocM sk) (x1 : Int) (x2 : Int) (σ : Sg) : CF X mX11_lies ads sk [.inr (some 84), .inl x1, .inl x2] σ wE (fX11_lies x1 x2 σ) := by
  refine CF.of ⟨pX11_lies_ok, tbX11_ok, hA.1, hA.2⟩ (plainFor_of_name plX11) (Nat.le_of_ble_eq_true rfl) ?_
  show jX11_lies X ads sk (0, [some (.inr (some 84)), some (.inl x1), some (.inl x2), none], [], σ) (fX11_lies x1 x2 σ)
  unfold fX11_lies
  refine j_run 0 2 rfl ?_
  refine j_cvT 2 2 1 rfl rfl mwX11_isField hp0.1 rfl rfl (eX11_isField hA hp0 x1 _) rfl rfl (rok rfl rfl) (Nat.le_of_ble_eq_true rfl) (fun h1 => ?_)
  refine jc_if_eq 3 rfl rfl (fun h2 => ?_) (fun h2 => ?_)
  · refine j_run 9 1 rfl ?_
    exact j_iret 10 rfl rfl rfl
  · refine j_run 4 3 rfl ?_
    refine j_csT 7 0 3 rfl rfl mwX11_isIn (eX11_isIn hA x2 0 60 _) rfl rfl (rok rfl rfl) (Nat.le_of_ble_eq_true rfl) (fun h3 => ?_)
    refine jc_if_ne 8 rfl rfl (fun h4 => ?_) (fun h4 => ?_)
    · refine j_run 9 1 rfl ?_
      exact j_iret 10 rfl rfl rfl
    · refine j_run 11 1 rfl ?_
      refine j_cv 12 75 0 rfl rfl mwX11_lays hp0.1 rfl rfl (eX11_lays hA hp0 _) rfl rfl (rok rfl rfl) (Nat.le_of_ble_eq_true rfl) (fun s5 _ h5 => ?_)
      refine j_run 13 2 rfl ?_
      refine j_weak (leP_s (leP_s (leP_s (leP_s (leP_z))))) (JX11_lies_L26 hA hp0 x1 x2 _ (fun s8 => ?_) FU 0 _)
      refine j_run 23 1 rfl ?_
      refine j_gr 24 0 rfl rfl hp0.1 rfl ?_
      refine j_run 25 3 rfl ?_
      refine j_ald 28 rfl hp0.2.1 rfl ?_
      refine j_run 29 2 rfl ?_
      refine j_cv 31 76 0 rfl rfl mwX11_putsBack hp0.1 rfl rfl (eX11_putsBack hA hp0 _) rfl rfl (rok rfl rfl) (Nat.le_of_ble_eq_true rfl) (fun s9 _ h9 => ?_)
      refine j_run 32 1 rfl ?_
      exact j_iret 33 rfl rfl rfl
abbrev jX11_lastOf (X : Cx) (ads : List Nat) (sk : List Sk) (σ : Sg) (ps : PS) (res : Option (Int)) : Prop := J X mX11_lastOf pX11_lastOf tbX11 (rmD 1 0 0) 0 0 E0 (fun a => FM X mX11_lastOf ads sk ((wP σ) a)) ads sk ps res
theorem JX11_lastOf_L6 {X : Cx} {ads : List Nat} {sk : List Sk} (hA : ads.length = sk.length ∧ sk.length ≤ 1000) (hp0 : ocM sk) (σ : Sg) (x1 : Int) (x2 : Int) (x3 : Int) : ∀ (n : Nat) (x4 : Int) (x5 : Int), jX11_lastOf X ads sk σ (6, [some (.inr (some 84)), some (.inl x1), some (.inl x2), some (.inl x3), some (.inl x4), some (.inl x5)], [], σ) (fX11_lastOf_L6 σ x1 x2 x3 n x4 x5) := by
  intro n
  induction n with
  | zero => intro x4 x5; exact j_none
  | succ n ih =>
    intro x4 x5
    rw [fX11_lastOf_L6]
    refine j_run 4 2 rfl ?_
    refine j_gr 6 0 rfl rfl hp0.1 rfl ?_
    refine j_run 7 1 rfl ?_
    refine j_ald 8 rfl hp0.2.1 rfl ?_
    refine jc_icmp_ge 9 rfl rfl (fun h1 => ?_) (fun h1 => ?_)
    · refine j_run 10 2 rfl ?_
      refine j_gr 12 0 rfl rfl hp0.1 rfl ?_
      refine j_run 13 5 rfl ?_
      refine j_ald 18 rfl hp0.2.1 rfl ?_
      refine j_csT 19 50 2 rfl rfl mwX11_greater (eX11_greater hA x4 (rd σ 85 (bw (x2 + (bw (x3 * x5))))) _) rfl rfl (rok rfl rfl) (Nat.le_of_ble_eq_true rfl) (fun h2 => ?_)
      refine j_run 20 2 rfl ?_
      refine j_goto 22 rfl rfl ?_
      exact j_weak (leP_s (leP_s (leP_s (leP_s (leP_s (leP_s (leP_z))))))) (ih (fX11_greater x4 (rd σ 85 (bw (x2 + (bw (x3 * x5)))))) (bw (x5 + 1)))
    · refine j_run 23 1 rfl ?_
      exact j_iret 24 rfl rfl rfl
theorem eX11_lastOf {X : Cx} {ads : List Nat} {sk : List Sk} (hA : ads.length = sk.length ∧ sk.length ≤ 1000) (hp0 : ocM sk) (x1 : Int) (x2 : Int) (x3 : Int) (σ : Sg) : CF X mX11_lastOf ads sk [.inr (some 84), .inl x1, .inl x2, .inl x3] σ (wP σ) (fX11_lastOf x1 x2 x3 σ) := by
  refine CF.of ⟨pX11_lastOf_ok, tbX11_ok, hA.1, hA.2⟩ (plainFor_of_name plX11) (Nat.le_of_ble_eq_true rfl) ?_
  show jX11_lastOf X ads sk σ (0, [some (.inr (some 84)), some (.inl x1), some (.inl x2), some (.inl x3), none, none], [], σ) (fX11_lastOf x1 x2 x3 σ)
  unfold fX11_lastOf
  refine j_run 0 4 rfl ?_
  exact j_weak (leP_s (leP_s (leP_s (leP_s (leP_s (leP_s (leP_z))))))) (JX11_lastOf_L6 hA hp0 σ x1 x2 x3 FU (-1) 0)
abbrev jX11_meetsWants (X : Cx) (ads : List Nat) (sk : List Sk) (ps : PS) (res : Option (Int × Sg)) : Prop := J X mX11_meetsWants pX11_meetsWants tbX11 (rmD 12 0 0) 0 0 E0 (fun a => FM X mX11_meetsWants ads sk (wE a)) ads sk ps res
theorem JX11_meetsWants_J128 {X : Cx} {ads : List Nat} {sk : List Sk} (hA : ads.length = sk.length ∧ sk.length ≤ 1000) (hp0 : ocM sk) (x1 : Int) (x2 : Int) (x4 : Int) (x5 : Int) (x6 : Int) (x8 : Int) (z0 : Int) (k46 : Int → Int → Int → Sg → Option (Int × Sg)) (hk46 : ∀ (x3 : Int) (x4 : Int) (x6 : Int) (σ : Sg), jX11_meetsWants X ads sk (46, [some (.inr (some 84)), some (.inl x1), some (.inl x2), some (.inl x3), some (.inl x4), some (.inl x5), some (.inl x6), none, none], [], σ) (k46 x3 x4 x6 σ)) (y0 : Int) (σ : Sg) : jX11_meetsWants X ads sk (128, [some (.inr (some 84)), some (.inl x1), some (.inl x2), none, some (.inl x4), some (.inl x5), some (.inl x6), none, some (.inl x8)], [.inl y0, .inl z0], σ) (fX11_meetsWants_J128 k46 x1 x2 x4 x5 x6 x8 z0 y0 σ) := by
  unfold fX11_meetsWants_J128
  refine j_run 74 3 rfl ?_
  refine jc_if_ne 77 rfl rfl (fun h7 => ?_) (fun h7 => ?_)
  · refine j_run 78 2 rfl ?_
    refine jc_icmp_eq 80 rfl rfl (fun h8 => ?_) (fun h8 => ?_)
    · refine j_run 83 1 rfl ?_
      refine j_run 84 1 rfl ?_
      refine j_run 85 1 rfl ?_
      refine j_goto 86 rfl rfl ?_
      exact j_weak (leP_s (leP_s (leP_s (leP_s (leP_s (leP_s (leP_s (leP_n (leP_n (leP_z)))))))))) (hk46 (bw (z0 + y0)) x6 (bw (x6 + 1)) _)
    · refine j_run 81 1 rfl ?_
      refine j_goto 82 rfl rfl ?_
      refine j_run 84 1 rfl ?_
      refine j_run 85 1 rfl ?_
      refine j_goto 86 rfl rfl ?_
      exact j_weak (leP_s (leP_s (leP_s (leP_s (leP_s (leP_s (leP_s (leP_n (leP_n (leP_z)))))))))) (hk46 (bw (z0 + y0)) x4 (bw (x6 + 1)) _)
  · refine j_run 81 1 rfl ?_
    refine j_goto 82 rfl rfl ?_
    refine j_run 84 1 rfl ?_
    refine j_run 85 1 rfl ?_
    refine j_goto 86 rfl rfl ?_
    exact j_weak (leP_s (leP_s (leP_s (leP_s (leP_s (leP_s (leP_s (leP_n (leP_n (leP_z)))))))))) (hk46 (bw (z0 + y0)) x4 (bw (x6 + 1)) _)
theorem JX11_meetsWants_J107 {X : Cx} {ads : List Nat} {sk : List Sk} (hA : ads.length = sk.length ∧ sk.length ≤ 1000) (hp0 : ocM sk) (x1 : Int) (x2 : Int) (x3 : Int) (x4 : Int) (x5 : Int) (x6 : Int) (x7 : Int) (k46 : Int → Int → Int → Sg → Option (Int × Sg)) (hk46 : ∀ (x3 : Int) (x4 : Int) (x6 : Int) (σ : Sg), jX11_meetsWants X ads sk (46, [some (.inr (some 84)), some (.inl x1), some (.inl x2), some (.inl x3), some (.inl x4), some (.inl x5), some (.inl x6), none, none], [], σ) (k46 x3 x4 x6 σ)) (y0 : Int) (σ : Sg) : jX11_meetsWants X ads sk (107, [some (.inr (some 84)), some (.inl x1), some (.inl x2), some (.inl x3), some (.inl x4), some (.inl x5), some (.inl x6), some (.inl x7), none], [.inl y0], σ) (fX11_meetsWants_J107 k46 x1 x2 x3 x4 x5 x6 x7 y0 σ) := by
  unfold fX11_meetsWants_J107
  refine j_run 62 3 rfl ?_
  refine jc_if_eq 65 rfl rfl (fun h9 => ?_) (fun h9 => ?_)
  · refine j_run 73 1 rfl ?_
    exact j_weak (leP_s (leP_s (leP_s (leP_n (leP_s (leP_s (leP_s (leP_n (leP_s (leP_z)))))))))) (JX11_meetsWants_J128 hA hp0 x1 x2 x4 x5 x6 y0 x3 _ hk46 0 _)
  · refine j_run 66 1 rfl ?_
    refine j_gr 67 0 rfl rfl hp0.1 rfl ?_
    refine j_run 68 3 rfl ?_
    refine j_ald 71 rfl hp0.2.1 rfl ?_
    refine j_goto 72 rfl rfl ?_
    exact j_weak (leP_s (leP_s (leP_s (leP_n (leP_s (leP_s (leP_s (leP_n (leP_s (leP_z)))))))))) (JX11_meetsWants_J128 hA hp0 x1 x2 x4 x5 x6 y0 x3 _ hk46 (rd σ 85 (bw (x7 + 2))) _)
theorem JX11_meetsWants_L46 {X : Cx} {ads : List Nat} {sk : List Sk} (hA : ads.length = sk.length ∧ sk.length ≤ 1000) (hp0 : ocM sk) (x1 : Int) (x2 : Int) (x5 : Int) (k20 : Int → Int → Sg → Option (Int × Sg)) (hk20 : ∀ (x3 : Int) (x4 : Int) (σ : Sg), jX11_meetsWants X ads sk (20, [some (.inr (some 84)), some (.inl x1), some (.inl x2), some (.inl x3), some (.inl x4), none, none, none, none], [], σ) (k20 x3 x4 σ)) : ∀ (n : Nat) (x3 : Int) (x4 : Int) (x6 : Int) (σ : Sg), jX11_meetsWants X ads sk (46, [some (.inr (some 84)), some (.inl x1), some (.inl x2), some (.inl x3), some (.inl x4), some (.inl x5), some (.inl x6), none, none], [], σ) (fX11_meetsWants_L46 k20 x1 x2 x5 n x3 x4 x6 σ) := by
  intro n
  induction n with
  | zero => intro x3 x4 x6 σ; exact j_none
  | succ n ih =>
    intro x3 x4 x6 σ
    rw [fX11_meetsWants_L46]
    refine j_run 28 2 rfl ?_
    refine j_gr 30 0 rfl rfl hp0.1 rfl ?_
    refine j_run 31 1 rfl ?_
    refine j_ald0 32 rfl hp0.2.1 (by decide) ?_
    refine jc_icmp_ge 33 rfl rfl (fun h5 => ?_) (fun h5 => ?_)
    · refine j_run 34 7 rfl ?_
      refine j_gr 41 0 rfl rfl hp0.1 rfl ?_
      refine j_run 42 3 rfl ?_
      refine j_ald 45 rfl hp0.2.1 rfl ?_
      refine j_run 46 1 rfl ?_
      refine jc_icmp_eq 47 rfl rfl (fun h6 => ?_) (fun h6 => ?_)
      · refine j_run 49 1 rfl ?_
        refine j_gr 50 0 rfl rfl hp0.1 rfl ?_
        refine j_run 51 2 rfl ?_
        refine j_gr 53 0 rfl rfl hp0.1 rfl ?_
        refine j_run 54 1 rfl ?_
        refine j_ald 55 rfl hp0.2.1 rfl ?_
        refine j_run 56 1 rfl ?_
        refine j_ald 57 rfl hp0.2.1 rfl ?_
        refine jc_if_ne 58 rfl rfl (fun h10 => ?_) (fun h10 => ?_)
        · refine j_run 59 1 rfl ?_
          refine j_goto 60 rfl rfl ?_
          exact j_weak (leP_s (leP_s (leP_s (leP_s (leP_s (leP_s (leP_s (leP_s (leP_n (leP_z)))))))))) (JX11_meetsWants_J107 hA hp0 x1 x2 x3 x4 x5 x6 (bw (239 + (bw (3 * x6)))) _ ih 1 _)
        · refine j_run 61 1 rfl ?_
          exact j_weak (leP_s (leP_s (leP_s (leP_s (leP_s (leP_s (leP_s (leP_s (leP_n (leP_z)))))))))) (JX11_meetsWants_J107 hA hp0 x1 x2 x3 x4 x5 x6 (bw (239 + (bw (3 * x6)))) _ ih 0 _)
      · refine j_goto 48 rfl rfl ?_
        refine j_run 85 1 rfl ?_
        refine j_goto 86 rfl rfl ?_
        exact j_weak (leP_s (leP_s (leP_s (leP_s (leP_s (leP_s (leP_s (leP_n (leP_n (leP_z)))))))))) (ih x3 x4 (bw (x6 + 1)) _)
    · refine j_goto 87 rfl rfl ?_
      exact j_weak (leP_s (leP_s (leP_s (leP_s (leP_s (leP_n (leP_n (leP_n (leP_n (leP_z)))))))))) (hk20 x3 x4 _)
theorem JX11_meetsWants_L20 {X : Cx} {ads : List Nat} {sk : List Sk} (hA : ads.length = sk.length ∧ sk.length ≤ 1000) (hp0 : ocM sk) (x1 : Int) (x2 : Int) (k159 : Int → Int → Sg → Option (Int × Sg)) (hk159 : ∀ (x3 : Int) (x4 : Int) (σ : Sg), jX11_meetsWants X ads sk (159, [some (.inr (some 84)), some (.inl x1), none, some (.inl x3), some (.inl x4), none, none, none, none], [], σ) (k159 x3 x4 σ)) : ∀ (n : Nat) (x3 : Int) (x4 : Int) (σ : Sg), jX11_meetsWants X ads sk (20, [some (.inr (some 84)), some (.inl x1), some (.inl x2), some (.inl x3), some (.inl x4), none, none, none, none], [], σ) (fX11_meetsWants_L20 k159 x1 x2 n x3 x4 σ) := by
  intro n
  induction n with
  | zero => intro x3 x4 σ; exact j_none
  | succ n ih =>
    intro x3 x4 σ
    rw [fX11_meetsWants_L20]
    refine j_run 12 1 rfl ?_
    refine j_gr 13 0 rfl rfl hp0.1 rfl ?_
    refine j_run 14 1 rfl ?_
    refine j_ald0 15 rfl hp0.2.1 (by decide) ?_
    refine j_run 16 1 rfl ?_
    refine jc_icmp_gt 17 rfl rfl (fun h3 => ?_) (fun h3 => ?_)
    · exact j_weak (leP_s (leP_s (leP_n (leP_s (leP_s (leP_n (leP_n (leP_n (leP_n (leP_z)))))))))) (hk159 x3 x4 _)
    · refine j_run 18 1 rfl ?_
      refine j_gr 19 0 rfl rfl hp0.1 rfl ?_
      refine j_run 20 1 rfl ?_
      refine j_ald0 21 rfl hp0.2.1 (by decide) ?_
      refine j_run 22 2 rfl ?_
      refine j_cv 24 74 0 rfl rfl mwX11_aDay hp0.1 rfl rfl (eX11_aDay hA hp0 _) rfl rfl (rok rfl rfl) (Nat.le_of_ble_eq_true rfl) (fun q4 _ h4 => ?_)
      refine j_run 25 3 rfl ?_
      exact j_weak (leP_s (leP_s (leP_s (leP_s (leP_s (leP_s (leP_s (leP_n (leP_n (leP_z)))))))))) (JX11_meetsWants_L46 hA hp0 x1 x2 (rd σ 85 0) _ ih FU x3 x4 0 _)
theorem eX11_meetsWants {X : Cx} {ads : List Nat} {sk : List Sk} (hA : ads.length = sk.length ∧ sk.length ≤ 1000) (hp0 : ocM sk) (x1 : Int) (σ : Sg) : CF X mX11_meetsWants ads sk [.inr (some 84), .inl x1] σ wE (fX11_meetsWants x1 σ) := by
  refine CF.of ⟨pX11_meetsWants_ok, tbX11_ok, hA.1, hA.2⟩ (plainFor_of_name plX11) (Nat.le_of_ble_eq_true rfl) ?_
  show jX11_meetsWants X ads sk (0, [some (.inr (some 84)), some (.inl x1), none, none, none, none, none, none, none], [], σ) (fX11_meetsWants x1 σ)
  unfold fX11_meetsWants
  refine j_run 0 4 rfl ?_
  refine j_cv 4 77 3 rfl rfl mwX11_lastOf hp0.1 rfl rfl (eX11_lastOf hA hp0 89 240 3 _) rfl rfl (rok rfl rfl) (Nat.le_of_ble_eq_true rfl) (fun r1 _ h1 => ?_)
  refine j_run 5 6 rfl ?_
  refine j_cv 11 75 0 rfl rfl mwX11_lays hp0.1 rfl rfl (eX11_lays hA hp0 _) rfl rfl (rok rfl rfl) (Nat.le_of_ble_eq_true rfl) (fun s2 _ h2 => ?_)
  refine j_weak (leP_s (leP_s (leP_s (leP_s (leP_s (leP_n (leP_n (leP_n (leP_n (leP_z)))))))))) (JX11_meetsWants_L20 hA hp0 x1 r1 _ (fun v11_3 v11_4 s11 => ?_) FU 0 (-1) _)
  refine j_run 88 1 rfl ?_
  refine j_cv 89 76 0 rfl rfl mwX11_putsBack hp0.1 rfl rfl (eX11_putsBack hA hp0 _) rfl rfl (rok rfl rfl) (Nat.le_of_ble_eq_true rfl) (fun s12 _ h12 => ?_)
  refine j_run 90 1 rfl ?_
  refine jc_if_ne 91 rfl rfl (fun h13 => ?_) (fun h13 => ?_)
  · refine j_run 92 1 rfl ?_
    refine j_goto 93 rfl rfl ?_
    exact j_iret 95 rfl rfl rfl
  · refine j_run 94 1 rfl ?_
    exact j_iret 95 rfl rfl rfl
abbrev jX11_meets (X : Cx) (ads : List Nat) (sk : List Sk) (ps : PS) (res : Option (Int × Sg)) : Prop := J X mX11_meets pX11_meets tbX11 (rmD 13 0 0) 0 0 E0 (fun a => FM X mX11_meets ads sk (wE a)) ads sk ps res
theorem JX11_meets_L37 {X : Cx} {ads : List Nat} {sk : List Sk} (hA : ads.length = sk.length ∧ sk.length ≤ 1000) (hp0 : ocM sk) (x2 : Int) (k63 : Sg → Option (Int × Sg)) (hk63 : ∀  (σ : Sg), jX11_meets X ads sk (63, [some (.inr (some 84)), none, none], [], σ) (k63 σ)) : ∀ (n : Nat) (σ : Sg), jX11_meets X ads sk (37, [some (.inr (some 84)), none, some (.inl x2)], [], σ) (fX11_meets_L37 k63 x2 n σ) := by
  intro n
  induction n with
  | zero => intro σ; exact j_none
  | succ n ih =>
    intro σ
    rw [fX11_meets_L37]
    refine j_run 22 1 rfl ?_
    refine j_gr 23 0 rfl rfl hp0.1 rfl ?_
    refine j_run 24 1 rfl ?_
    refine j_ald0 25 rfl hp0.2.1 (by decide) ?_
    refine j_run 26 1 rfl ?_
    refine jc_icmp_gt 27 rfl rfl (fun h7 => ?_) (fun h7 => ?_)
    · exact j_weak (leP_s (leP_n (leP_n (leP_z)))) (hk63 _)
    · refine j_run 28 1 rfl ?_
      refine j_gf 29 25 rfl rfl hp0.1 rfl ?_
      refine j_run 30 1 rfl ?_
      refine jc_icmp_ne 31 rfl rfl (fun h8 => ?_) (fun h8 => ?_)
      · refine j_run 32 1 rfl ?_
        refine j_cv 33 74 0 rfl rfl mwX11_aDay hp0.1 rfl rfl (eX11_aDay hA hp0 _) rfl rfl (rok rfl rfl) (Nat.le_of_ble_eq_true rfl) (fun q9 _ h9 => ?_)
        refine j_run 34 1 rfl ?_
        refine j_goto 35 rfl rfl ?_
        exact j_weak (leP_s (leP_n (leP_s (leP_z)))) (ih _)
      · exact j_weak (leP_s (leP_n (leP_n (leP_z)))) (hk63 _)
theorem eX11_meets {X : Cx} {ads : List Nat} {sk : List Sk} (hA : ads.length = sk.length ∧ sk.length ≤ 1000) (hp0 : ocM sk) (x1 : Int) (σ : Sg) : CF X mX11_meets ads sk [.inr (some 84), .inl x1] σ wE (fX11_meets x1 σ) := by
  refine CF.of ⟨pX11_meets_ok, tbX11_ok, hA.1, hA.2⟩ (plainFor_of_name plX11) (Nat.le_of_ble_eq_true rfl) ?_
  show jX11_meets X ads sk (0, [some (.inr (some 84)), some (.inl x1), none], [], σ) (fX11_meets x1 σ)
  unfold fX11_meets
  refine j_run 0 3 rfl ?_
  refine j_csT 3 0 3 rfl rfl mwX11_isIn (eX11_isIn hA x1 0 2 _) rfl rfl (rok rfl rfl) (Nat.le_of_ble_eq_true rfl) (fun h1 => ?_)
  refine jc_if_ne 4 rfl rfl (fun h2 => ?_) (fun h2 => ?_)
  · refine j_run 5 1 rfl ?_
    exact j_iret 6 rfl rfl rfl
  · refine j_run 7 2 rfl ?_
    refine jc_icmp_ge 9 rfl rfl (fun h3 => ?_) (fun h3 => ?_)
    · refine j_run 10 2 rfl ?_
      refine j_cv 12 78 1 rfl rfl mwX11_meetsWants hp0.1 rfl rfl (eX11_meetsWants hA hp0 x1 _) rfl rfl (rok rfl rfl) (Nat.le_of_ble_eq_true rfl) (fun q4 _ h4 => ?_)
      exact j_iret 13 rfl rfl rfl
    · refine j_run 14 4 rfl ?_
      refine j_cv 18 77 3 rfl rfl mwX11_lastOf hp0.1 rfl rfl (eX11_lastOf hA hp0 87 151 4 _) rfl rfl (rok rfl rfl) (Nat.le_of_ble_eq_true rfl) (fun r5 _ h5 => ?_)
      refine j_run 19 2 rfl ?_
      refine j_cv 21 75 0 rfl rfl mwX11_lays hp0.1 rfl rfl (eX11_lays hA hp0 _) rfl rfl (rok rfl rfl) (Nat.le_of_ble_eq_true rfl) (fun s6 _ h6 => ?_)
      refine j_weak (leP_s (leP_n (leP_s (leP_z)))) (JX11_meets_L37 hA hp0 r5 _ (fun s10 => ?_) FU _)
      refine j_run 36 1 rfl ?_
      refine j_cv 37 76 0 rfl rfl mwX11_putsBack hp0.1 rfl rfl (eX11_putsBack hA hp0 _) rfl rfl (rok rfl rfl) (Nat.le_of_ble_eq_true rfl) (fun s11 _ h11 => ?_)
      refine j_run 38 1 rfl ?_
      refine j_gf 39 25 rfl rfl hp0.1 rfl ?_
      exact j_iret 40 rfl rfl rfl
abbrev jX11_nextAsked (X : Cx) (ads : List Nat) (sk : List Sk) (ps : PS) (res : Option (Int × Sg)) : Prop := J X mX11_nextAsked pX11_nextAsked tbX11 (rmD 5 0 0) 0 0 E0 (fun a => FM X mX11_nextAsked ads sk (wE a)) ads sk ps res
theorem JX11_nextAsked_L4 {X : Cx} {ads : List Nat} {sk : List Sk} (hA : ads.length = sk.length ∧ sk.length ≤ 1000) (hp0 : ocM sk) (x1 : Int) : ∀ (n : Nat) (x2 : Int) (x3 : Int) (σ : Sg), jX11_nextAsked X ads sk (4, [some (.inr (some 84)), some (.inl x1), some (.inl x2), some (.inl x3)], [], σ) (fX11_nextAsked_L4 x1 n x2 x3 σ) := by
  intro n
  induction n with
  | zero => intro x2 x3 σ; exact j_none
  | succ n ih =>
    intro x2 x3 σ
    rw [fX11_nextAsked_L4]
    refine j_run 4 2 rfl ?_
    refine j_gr 6 0 rfl rfl hp0.1 rfl ?_
    refine j_run 7 1 rfl ?_
    refine j_ald0 8 rfl hp0.2.1 (by decide) ?_
    refine jc_icmp_ge 9 rfl rfl (fun h1 => ?_) (fun h1 => ?_)
    · refine j_run 10 3 rfl ?_
      refine j_cv 13 36 2 rfl rfl mwX11_areUnlike hp0.1 rfl rfl (eX11_areUnlike hA hp0 x1 x3 _) rfl rfl (rok rfl rfl) (Nat.le_of_ble_eq_true rfl) (fun r2 _ h2 => ?_)
      refine jc_if_eq 14 rfl rfl (fun h3 => ?_) (fun h3 => ?_)
      · refine j_run 49 1 rfl ?_
        refine j_goto 50 rfl rfl ?_
        exact j_weak (leP_s (leP_s (leP_s (leP_s (leP_z))))) (ih x2 (bw (x3 + 1)) _)
      · refine j_run 15 2 rfl ?_
        refine j_cv 17 57 1 rfl rfl mwX11_isFree hp0.1 rfl rfl (eX11_isFree hA hp0 x3 _) rfl rfl (rok rfl rfl) (Nat.le_of_ble_eq_true rfl) (fun r4 _ h4 => ?_)
        refine jc_if_eq 18 rfl rfl (fun h5 => ?_) (fun h5 => ?_)
        · refine j_run 49 1 rfl ?_
          refine j_goto 50 rfl rfl ?_
          exact j_weak (leP_s (leP_s (leP_s (leP_s (leP_z))))) (ih x2 (bw (x3 + 1)) _)
        · refine j_run 19 1 rfl ?_
          refine j_gr 20 27 rfl rfl hp0.1 rfl ?_
          refine j_run 21 1 rfl ?_
          refine j_ald 22 rfl hp0.2.2.2.2.2.2.2.2.2.2.2.2.2.1 rfl ?_
          refine j_run 23 5 rfl ?_
          refine jc_icmp_eq 28 rfl rfl (fun h6 => ?_) (fun h6 => ?_)
          · refine j_run 49 1 rfl ?_
            refine j_goto 50 rfl rfl ?_
            exact j_weak (leP_s (leP_s (leP_s (leP_s (leP_z))))) (ih x2 (bw (x3 + 1)) _)
          · refine j_run 29 3 rfl ?_
            refine j_cv 32 54 2 rfl rfl mwX11_matchOf hp0.1 rfl rfl (eX11_matchOf hA hp0 x1 x3 _) rfl rfl (rok rfl rfl) (Nat.le_of_ble_eq_true rfl) (fun q7 _ h7 => ?_)
            refine jc_if_ne 33 rfl rfl (fun h8 => ?_) (fun h8 => ?_)
            · refine j_goto 34 rfl rfl ?_
              refine j_run 49 1 rfl ?_
              refine j_goto 50 rfl rfl ?_
              exact j_weak (leP_s (leP_s (leP_s (leP_s (leP_z))))) (ih x2 (bw (x3 + 1)) _)
            · refine j_run 35 2 rfl ?_
              refine jc_icmp_eq 37 rfl rfl (fun h9 => ?_) (fun h9 => ?_)
              · refine j_run 47 2 rfl ?_
                refine j_run 49 1 rfl ?_
                refine j_goto 50 rfl rfl ?_
                exact j_weak (leP_s (leP_s (leP_s (leP_s (leP_z))))) (ih x3 (bw (x3 + 1)) _)
              · refine j_run 38 3 rfl ?_
                refine j_cv 41 54 2 rfl rfl mwX11_matchOf hp0.1 rfl rfl (eX11_matchOf hA hp0 x1 x3 _) rfl rfl (rok rfl rfl) (Nat.le_of_ble_eq_true rfl) (fun q10 _ h10 => ?_)
                refine j_run 42 3 rfl ?_
                refine j_cv 45 54 2 rfl rfl mwX11_matchOf hp0.1 rfl rfl (eX11_matchOf hA hp0 x1 x2 _) rfl rfl (rok rfl rfl) (Nat.le_of_ble_eq_true rfl) (fun q11 _ h11 => ?_)
                refine jc_icmp_le 46 rfl rfl (fun h12 => ?_) (fun h12 => ?_)
                · refine j_run 47 2 rfl ?_
                  refine j_run 49 1 rfl ?_
                  refine j_goto 50 rfl rfl ?_
                  exact j_weak (leP_s (leP_s (leP_s (leP_s (leP_z))))) (ih x3 (bw (x3 + 1)) _)
                · refine j_run 49 1 rfl ?_
                  refine j_goto 50 rfl rfl ?_
                  exact j_weak (leP_s (leP_s (leP_s (leP_s (leP_z))))) (ih x2 (bw (x3 + 1)) _)
    · refine j_run 51 1 rfl ?_
      exact j_iret 52 rfl rfl rfl
theorem eX11_nextAsked {X : Cx} {ads : List Nat} {sk : List Sk} (hA : ads.length = sk.length ∧ sk.length ≤ 1000) (hp0 : ocM sk) (x1 : Int) (σ : Sg) : CF X mX11_nextAsked ads sk [.inr (some 84), .inl x1] σ wE (fX11_nextAsked x1 σ) := by
  refine CF.of ⟨pX11_nextAsked_ok, tbX11_ok, hA.1, hA.2⟩ (plainFor_of_name plX11) (Nat.le_of_ble_eq_true rfl) ?_
  show jX11_nextAsked X ads sk (0, [some (.inr (some 84)), some (.inl x1), none, none], [], σ) (fX11_nextAsked x1 σ)
  unfold fX11_nextAsked
  refine j_run 0 4 rfl ?_
  exact j_weak (leP_s (leP_s (leP_s (leP_s (leP_z))))) (JX11_nextAsked_L4 hA hp0 x1 FU (-1) 0 _)
abbrev jX11_keepsFor (X : Cx) (ads : List Nat) (sk : List Sk) (ps : PS) (res : Option (Int × Sg)) : Prop := J X mX11_keepsFor pX11_keepsFor tbX11 (rmD 5 0 0) 0 0 E0 (fun a => FM X mX11_keepsFor ads sk (wE a)) ads sk ps res
theorem eX11_keepsFor {X : Cx} {ads : List Nat} {sk : List Sk} (hA : ads.length = sk.length ∧ sk.length ≤ 1000) (hp0 : ocM sk) (x1 : Int) (x2 : Int) (σ : Sg) : CF X mX11_keepsFor ads sk [.inr (some 84), .inl x1, .inl x2] σ wE (fX11_keepsFor x1 x2 σ) := by
  refine CF.of ⟨pX11_keepsFor_ok, tbX11_ok, hA.1, hA.2⟩ (plainFor_of_name plX11) (Nat.le_of_ble_eq_true rfl) ?_
  show jX11_keepsFor X ads sk (0, [some (.inr (some 84)), some (.inl x1), some (.inl x2), none], [], σ) (fX11_keepsFor x1 x2 σ)
  unfold fX11_keepsFor
  refine j_run 0 3 rfl ?_
  refine j_cv 3 54 2 rfl rfl mwX11_matchOf hp0.1 rfl rfl (eX11_matchOf hA hp0 x1 x2 _) rfl rfl (rok rfl rfl) (Nat.le_of_ble_eq_true rfl) (fun q1 _ h1 => ?_)
  refine jc_if_ne 4 rfl rfl (fun h2 => ?_) (fun h2 => ?_)
  · refine j_run 5 1 rfl ?_
    exact j_zret 6 rfl rfl (by decide) rfl
  · refine j_run 7 1 rfl ?_
    refine j_gr 8 28 rfl rfl hp0.1 rfl ?_
    refine j_run 9 1 rfl ?_
    refine j_ald 10 rfl hp0.2.2.2.2.2.2.2.2.2.2.2.2.1 rfl ?_
    refine j_run 11 1 rfl ?_
    refine jc_icmp_ne 12 rfl rfl (fun h3 => ?_) (fun h3 => ?_)
    · refine j_run 13 1 rfl ?_
      exact j_zret 14 rfl rfl (by decide) rfl
    · refine j_run 15 3 rfl ?_
      refine j_cv 18 54 2 rfl rfl mwX11_matchOf hp0.1 rfl rfl (eX11_matchOf hA hp0 x1 x2 _) rfl rfl (rok rfl rfl) (Nat.le_of_ble_eq_true rfl) (fun q4 _ h4 => ?_)
      refine j_run 19 3 rfl ?_
      refine j_gr 22 28 rfl rfl hp0.1 rfl ?_
      refine j_run 23 1 rfl ?_
      refine j_ald 24 rfl hp0.2.2.2.2.2.2.2.2.2.2.2.2.1 rfl ?_
      refine j_cv 25 54 2 rfl rfl mwX11_matchOf hp0.1 rfl rfl (eX11_matchOf hA hp0 x1 (rd q4.2 96 x1) _) rfl rfl (rok rfl rfl) (Nat.le_of_ble_eq_true rfl) (fun q5 _ h5 => ?_)
      refine j_run 26 3 rfl ?_
      refine jc_if_gt 29 rfl rfl (fun h6 => ?_) (fun h6 => ?_)
      · refine j_run 38 1 rfl ?_
        refine j_goto 39 rfl rfl ?_
        exact j_zret 41 rfl rfl (by decide) rfl
      · refine j_run 30 1 rfl ?_
        refine jc_if_ne 31 rfl rfl (fun h7 => ?_) (fun h7 => ?_)
        · refine j_run 32 2 rfl ?_
          refine j_gr 34 28 rfl rfl hp0.1 rfl ?_
          refine j_run 35 1 rfl ?_
          refine j_ald 36 rfl hp0.2.2.2.2.2.2.2.2.2.2.2.2.1 rfl ?_
          refine jc_icmp_ge 37 rfl rfl (fun h8 => ?_) (fun h8 => ?_)
          · refine j_run 38 1 rfl ?_
            refine j_goto 39 rfl rfl ?_
            exact j_zret 41 rfl rfl (by decide) rfl
          · refine j_run 40 1 rfl ?_
            exact j_zret 41 rfl rfl (by decide) rfl
        · refine j_run 40 1 rfl ?_
          exact j_zret 41 rfl rfl (by decide) rfl
abbrev jX11_asksOn (X : Cx) (ads : List Nat) (sk : List Sk) (ps : PS) (res : Option (Sg)) : Prop := J X mX11_asksOn pX11_asksOn tbX11 (rmD 6 0 0) 0 0 E0 (fun a => FM X mX11_asksOn ads sk (wV a)) ads sk ps res
theorem JX11_asksOn_L2 {X : Cx} {ads : List Nat} {sk : List Sk} (hA : ads.length = sk.length ∧ sk.length ≤ 1000) (hp0 : ocM sk) : ∀ (n : Nat) (x2 : Int) (σ : Sg), jX11_asksOn X ads sk (2, [some (.inr (some 84)), none, some (.inl x2), none, none], [], σ) (fX11_asksOn_L2 n x2 σ) := by
  intro n
  induction n with
  | zero => intro x2 σ; exact j_none
  | succ n ih =>
    intro x2 σ
    rw [fX11_asksOn_L2]
    refine j_run 2 2 rfl ?_
    refine jc_icmp_eq 4 rfl rfl (fun h1 => ?_) (fun h1 => ?_)
    · exact j_vret 55 rfl rfl rfl
    · refine j_run 5 2 rfl ?_
      refine j_cv 7 79 1 rfl rfl mwX11_nextAsked hp0.1 rfl rfl (eX11_nextAsked hA hp0 x2 _) rfl rfl (rok rfl rfl) (Nat.le_of_ble_eq_true rfl) (fun q2 _ h2 => ?_)
      refine j_run 8 3 rfl ?_
      refine jc_icmp_ne 11 rfl rfl (fun h3 => ?_) (fun h3 => ?_)
      · exact j_vret 12 rfl rfl rfl
      · refine j_run 13 1 rfl ?_
        refine j_gr 14 27 rfl rfl hp0.1 rfl ?_
        refine j_run 15 2 rfl ?_
        refine j_ald 17 rfl hp0.2.2.2.2.2.2.2.2.2.2.2.2.2.1 rfl ?_
        refine j_run 18 4 rfl ?_
        refine j_ast 22 rfl hp0.2.2.2.2.2.2.2.2.2.2.2.2.2.1 rfl ?_
        refine j_run 23 3 rfl ?_
        refine j_cv 26 80 2 rfl rfl mwX11_keepsFor hp0.1 rfl rfl (eX11_keepsFor hA hp0 q2.1 x2 _) rfl rfl (rok rfl rfl) (Nat.le_of_ble_eq_true rfl) (fun q4 _ h4 => ?_)
        refine jc_if_ne 27 rfl rfl (fun h5 => ?_) (fun h5 => ?_)
        · refine j_goto 28 rfl rfl ?_
          exact j_weak (leP_s (leP_n (leP_s (leP_n (leP_n (leP_z)))))) (ih x2 _)
        · refine j_run 29 1 rfl ?_
          refine j_gr 30 28 rfl rfl hp0.1 rfl ?_
          refine j_run 31 1 rfl ?_
          refine j_ald 32 rfl hp0.2.2.2.2.2.2.2.2.2.2.2.2.1 rfl ?_
          refine j_run 33 2 rfl ?_
          refine j_gr 35 28 rfl rfl hp0.1 rfl ?_
          refine j_run 36 2 rfl ?_
          refine j_ast 38 rfl hp0.2.2.2.2.2.2.2.2.2.2.2.2.1 rfl ?_
          refine j_run 39 1 rfl ?_
          refine j_gr 40 28 rfl rfl hp0.1 rfl ?_
          refine j_run 41 2 rfl ?_
          refine j_ast 43 rfl hp0.2.2.2.2.2.2.2.2.2.2.2.2.1 rfl ?_
          refine j_run 44 2 rfl ?_
          refine jc_icmp_eq 46 rfl rfl (fun h6 => ?_) (fun h6 => ?_)
          · refine j_run 52 2 rfl ?_
            refine j_goto 54 rfl rfl ?_
            exact j_weak (leP_s (leP_n (leP_s (leP_n (leP_n (leP_z)))))) (ih (rd q4.2 96 q2.1) _)
          · refine j_run 47 1 rfl ?_
            refine j_gr 48 28 rfl rfl hp0.1 rfl ?_
            refine j_run 49 2 rfl ?_
            refine j_ast 51 rfl hp0.2.2.2.2.2.2.2.2.2.2.2.2.1 rfl ?_
            refine j_run 52 2 rfl ?_
            refine j_goto 54 rfl rfl ?_
            exact j_weak (leP_s (leP_n (leP_s (leP_n (leP_n (leP_z)))))) (ih (rd q4.2 96 q2.1) _)
theorem eX11_asksOn {X : Cx} {ads : List Nat} {sk : List Sk} (hA : ads.length = sk.length ∧ sk.length ≤ 1000) (hp0 : ocM sk) (x1 : Int) (σ : Sg) : CF X mX11_asksOn ads sk [.inr (some 84), .inl x1] σ wV (fX11_asksOn x1 σ) := by
  refine CF.of ⟨pX11_asksOn_ok, tbX11_ok, hA.1, hA.2⟩ (plainFor_of_name plX11) (Nat.le_of_ble_eq_true rfl) ?_
  show jX11_asksOn X ads sk (0, [some (.inr (some 84)), some (.inl x1), none, none, none], [], σ) (fX11_asksOn x1 σ)
  unfold fX11_asksOn
  refine j_run 0 2 rfl ?_
  exact j_weak (leP_s (leP_n (leP_s (leP_n (leP_n (leP_z)))))) (JX11_asksOn_L2 hA hp0 FU x1 _)
abbrev jX11_stable (X : Cx) (ads : List Nat) (sk : List Sk) (ps : PS) (res : Option (Int × Sg)) : Prop := J X mX11_stable pX11_stable tbX11 (rmD 7 0 0) 0 0 E0 (fun a => FM X mX11_stable ads sk (wE a)) ads sk ps res
theorem JX11_stable_L20 {X : Cx} {ads : List Nat} {sk : List Sk} (hA : ads.length = sk.length ∧ sk.length ≤ 1000) (hp0 : ocM sk) (x1 : Int) (k46 : Sg → Option (Int × Sg)) (hk46 : ∀  (σ : Sg), jX11_stable X ads sk (46, [some (.inr (some 84)), some (.inl x1), none], [], σ) (k46 σ)) : ∀ (n : Nat) (x2 : Int) (σ : Sg), jX11_stable X ads sk (20, [some (.inr (some 84)), some (.inl x1), some (.inl x2)], [], σ) (fX11_stable_L20 k46 x1 n x2 σ) := by
  intro n
  induction n with
  | zero => intro x2 σ; exact j_none
  | succ n ih =>
    intro x2 σ
    rw [fX11_stable_L20]
    refine j_run 12 2 rfl ?_
    refine jc_icmp_ge 14 rfl rfl (fun h5 => ?_) (fun h5 => ?_)
    · refine j_run 15 1 rfl ?_
      refine j_gr 16 28 rfl rfl hp0.1 rfl ?_
      refine j_run 17 2 rfl ?_
      refine j_ast 19 rfl hp0.2.2.2.2.2.2.2.2.2.2.2.2.1 rfl ?_
      refine j_run 20 1 rfl ?_
      refine j_gr 21 27 rfl rfl hp0.1 rfl ?_
      refine j_run 22 2 rfl ?_
      refine j_ast 24 rfl hp0.2.2.2.2.2.2.2.2.2.2.2.2.2.1 rfl ?_
      refine j_run 25 1 rfl ?_
      refine j_goto 26 rfl rfl ?_
      exact j_weak (leP_s (leP_s (leP_s (leP_z)))) (ih (bw (x2 + 1)) _)
    · exact j_weak (leP_s (leP_s (leP_n (leP_z)))) (hk46 _)
theorem JX11_stable_L48 {X : Cx} {ads : List Nat} {sk : List Sk} (hA : ads.length = sk.length ∧ sk.length ≤ 1000) (hp0 : ocM sk) (x1 : Int) : ∀ (n : Nat) (x2 : Int) (σ : Sg), jX11_stable X ads sk (48, [some (.inr (some 84)), some (.inl x1), some (.inl x2)], [], σ) (fX11_stable_L48 x1 n x2 σ) := by
  intro n
  induction n with
  | zero => intro x2 σ; exact j_none
  | succ n ih =>
    intro x2 σ
    rw [fX11_stable_L48]
    refine j_run 29 2 rfl ?_
    refine j_gr 31 0 rfl rfl hp0.1 rfl ?_
    refine j_run 32 1 rfl ?_
    refine j_ald0 33 rfl hp0.2.1 (by decide) ?_
    refine jc_icmp_ge 34 rfl rfl (fun h7 => ?_) (fun h7 => ?_)
    · refine j_run 35 1 rfl ?_
      refine j_gr 36 0 rfl rfl hp0.1 rfl ?_
      refine j_run 37 3 rfl ?_
      refine j_ald 40 rfl hp0.2.1 rfl ?_
      refine jc_if_ne 41 rfl rfl (fun h8 => ?_) (fun h8 => ?_)
      · refine j_run 42 2 rfl ?_
        refine j_cv 44 57 1 rfl rfl mwX11_isFree hp0.1 rfl rfl (eX11_isFree hA hp0 x2 _) rfl rfl (rok rfl rfl) (Nat.le_of_ble_eq_true rfl) (fun r9 _ h9 => ?_)
        refine jc_if_eq 45 rfl rfl (fun h10 => ?_) (fun h10 => ?_)
        · refine j_run 49 1 rfl ?_
          refine j_goto 50 rfl rfl ?_
          exact j_weak (leP_s (leP_s (leP_s (leP_z)))) (ih (bw (x2 + 1)) _)
        · refine j_run 46 2 rfl ?_
          refine j_cv 48 81 1 rfl rfl mwX11_asksOn hp0.1 rfl rfl (eX11_asksOn hA hp0 x2 _) rfl rfl (rok rfl rfl) (Nat.le_of_ble_eq_true rfl) (fun s11 _ h11 => ?_)
          refine j_run 49 1 rfl ?_
          refine j_goto 50 rfl rfl ?_
          exact j_weak (leP_s (leP_s (leP_s (leP_z)))) (ih (bw (x2 + 1)) _)
      · refine j_run 49 1 rfl ?_
        refine j_goto 50 rfl rfl ?_
        exact j_weak (leP_s (leP_s (leP_s (leP_z)))) (ih (bw (x2 + 1)) _)
    · refine j_run 51 1 rfl ?_
      refine j_gr 52 28 rfl rfl hp0.1 rfl ?_
      refine j_run 53 1 rfl ?_
      refine j_ald 54 rfl hp0.2.2.2.2.2.2.2.2.2.2.2.2.1 rfl ?_
      exact j_iret 55 rfl rfl rfl
theorem eX11_stable {X : Cx} {ads : List Nat} {sk : List Sk} (hA : ads.length = sk.length ∧ sk.length ≤ 1000) (hp0 : ocM sk) (x1 : Int) (σ : Sg) : CF X mX11_stable ads sk [.inr (some 84), .inl x1] σ wE (fX11_stable x1 σ) := by
  refine CF.of ⟨pX11_stable_ok, tbX11_ok, hA.1, hA.2⟩ (plainFor_of_name plX11) (Nat.le_of_ble_eq_true rfl) ?_
  show jX11_stable X ads sk (0, [some (.inr (some 84)), some (.inl x1), none], [], σ) (fX11_stable x1 σ)
  unfold fX11_stable
  refine j_run 0 2 rfl ?_
  refine j_cvT 2 3 1 rfl rfl mwX11_isPerson hp0.1 rfl rfl (eX11_isPerson hA hp0 x1 _) rfl rfl (rok rfl rfl) (Nat.le_of_ble_eq_true rfl) (fun h1 => ?_)
  refine jc_if_eq 3 rfl rfl (fun h2 => ?_) (fun h2 => ?_)
  · refine j_run 8 1 rfl ?_
    exact j_iret 9 rfl rfl rfl
  · refine j_run 4 2 rfl ?_
    refine j_cv 6 57 1 rfl rfl mwX11_isFree hp0.1 rfl rfl (eX11_isFree hA hp0 x1 _) rfl rfl (rok rfl rfl) (Nat.le_of_ble_eq_true rfl) (fun r3 _ h3 => ?_)
    refine jc_if_ne 7 rfl rfl (fun h4 => ?_) (fun h4 => ?_)
    · refine j_run 8 1 rfl ?_
      exact j_iret 9 rfl rfl rfl
    · refine j_run 10 2 rfl ?_
      refine j_weak (leP_s (leP_s (leP_s (leP_z)))) (JX11_stable_L20 hA hp0 x1 _ (fun s6 => ?_) FU 0 _)
      refine j_run 27 2 rfl ?_
      exact j_weak (leP_s (leP_s (leP_s (leP_z)))) (JX11_stable_L48 hA hp0 x1 FU 0 _)
abbrev jX11_canHave (X : Cx) (ads : List Nat) (sk : List Sk) (σ : Sg) (ps : PS) (res : Option (Int)) : Prop := J X mX11_canHave pX11_canHave tbX11 (rmD 1 0 0) 0 0 E0 (fun a => FM X mX11_canHave ads sk ((wP σ) a)) ads sk ps res
theorem eX11_canHave {X : Cx} {ads : List Nat} {sk : List Sk} (hA : ads.length = sk.length ∧ sk.length ≤ 1000) (hp0 : ocM sk) (x1 : Int) (x2 : Int) (x3 : Int) (σ : Sg) : CF X mX11_canHave ads sk [.inr (some 84), .inl x1, .inl x2, .inl x3] σ (wP σ) (fX11_canHave x1 x2 x3 σ) := by
  refine CF.of ⟨pX11_canHave_ok, tbX11_ok, hA.1, hA.2⟩ (plainFor_of_name plX11) (Nat.le_of_ble_eq_true rfl) ?_
  show jX11_canHave X ads sk σ (0, [some (.inr (some 84)), some (.inl x1), some (.inl x2), some (.inl x3)], [], σ) (fX11_canHave x1 x2 x3 σ)
  unfold fX11_canHave
  refine j_run 0 6 rfl ?_
  refine jc_icmp_ne 6 rfl rfl (fun h1 => ?_) (fun h1 => ?_)
  · refine j_run 7 1 rfl ?_
    refine j_gr 8 0 rfl rfl hp0.1 rfl ?_
    refine j_run 9 3 rfl ?_
    refine j_ald 12 rfl hp0.2.1 rfl ?_
    refine jc_if_ne 13 rfl rfl (fun h2 => ?_) (fun h2 => ?_)
    · refine j_run 14 1 rfl ?_
      refine j_gr 15 0 rfl rfl hp0.1 rfl ?_
      refine j_run 16 3 rfl ?_
      refine j_ald 19 rfl hp0.2.1 rfl ?_
      refine j_run 20 1 rfl ?_
      refine jc_icmp_ne 21 rfl rfl (fun h3 => ?_) (fun h3 => ?_)
      · refine j_run 22 2 rfl ?_
        refine j_cv 24 57 1 rfl rfl mwX11_isFree hp0.1 rfl rfl (eX11_isFree hA hp0 x1 _) rfl rfl (rok rfl rfl) (Nat.le_of_ble_eq_true rfl) (fun r4 _ h4 => ?_)
        refine jc_if_eq 25 rfl rfl (fun h5 => ?_) (fun h5 => ?_)
        · refine j_run 32 1 rfl ?_
          exact j_zret 33 rfl rfl (by decide) rfl
        · refine j_run 26 2 rfl ?_
          refine j_cv 28 57 1 rfl rfl mwX11_isFree hp0.1 rfl rfl (eX11_isFree hA hp0 x2 _) rfl rfl (rok rfl rfl) (Nat.le_of_ble_eq_true rfl) (fun r6 _ h6 => ?_)
          refine jc_if_eq 29 rfl rfl (fun h7 => ?_) (fun h7 => ?_)
          · refine j_run 32 1 rfl ?_
            exact j_zret 33 rfl rfl (by decide) rfl
          · refine j_run 30 1 rfl ?_
            refine j_goto 31 rfl rfl ?_
            exact j_zret 33 rfl rfl (by decide) rfl
      · refine j_run 32 1 rfl ?_
        exact j_zret 33 rfl rfl (by decide) rfl
    · refine j_run 32 1 rfl ?_
      exact j_zret 33 rfl rfl (by decide) rfl
  · refine j_run 32 1 rfl ?_
    exact j_zret 33 rfl rfl (by decide) rfl
abbrev jX11_laysBest (X : Cx) (ads : List Nat) (sk : List Sk) (ps : PS) (res : Option (Sg)) : Prop := J X mX11_laysBest pX11_laysBest tbX11 (rmD 2 0 0) 0 0 E0 (fun a => FM X mX11_laysBest ads sk (wV a)) ads sk ps res
theorem JX11_laysBest_L51 {X : Cx} {ads : List Nat} {sk : List Sk} (hA : ads.length = sk.length ∧ sk.length ≤ 1000) (hp0 : ocM sk) (x1 : Int) (x2 : Int) (x3 : Int) (k16 : Int → Sg → Option (Sg)) (hk16 : ∀ (x3 : Int) (σ : Sg), jX11_laysBest X ads sk (16, [some (.inr (some 84)), some (.inl x1), some (.inl x2), some (.inl x3), none, none], [], σ) (k16 x3 σ)) : ∀ (n : Nat) (x4 : Int) (x5 : Int) (σ : Sg), jX11_laysBest X ads sk (51, [some (.inr (some 84)), some (.inl x1), some (.inl x2), some (.inl x3), some (.inl x4), some (.inl x5)], [], σ) (fX11_laysBest_L51 k16 x1 x2 x3 n x4 x5 σ) := by
  intro n
  induction n with
  | zero => intro x4 x5 σ; exact j_none
  | succ n ih =>
    intro x4 x5 σ
    rw [fX11_laysBest_L51]
    refine j_run 34 2 rfl ?_
    refine jc_icmp_ge 36 rfl rfl (fun h3 => ?_) (fun h3 => ?_)
    · refine j_run 37 2 rfl ?_
      refine jc_icmp_ge 39 rfl rfl (fun h4 => ?_) (fun h4 => ?_)
      · refine j_run 40 4 rfl ?_
        refine j_cv 44 82 3 rfl rfl mwX11_canHave hp0.1 rfl rfl (eX11_canHave hA hp0 x2 x5 x3 _) rfl rfl (rok rfl rfl) (Nat.le_of_ble_eq_true rfl) (fun r5 _ h5 => ?_)
        refine jc_if_eq 45 rfl rfl (fun h6 => ?_) (fun h6 => ?_)
        · refine j_run 74 1 rfl ?_
          refine j_goto 75 rfl rfl ?_
          exact j_weak (leP_s (leP_s (leP_s (leP_s (leP_s (leP_s (leP_z))))))) (ih x4 (bw (x5 + 1)) _)
        · refine j_run 46 2 rfl ?_
          refine j_gr 48 29 rfl rfl hp0.1 rfl ?_
          refine j_run 49 5 rfl ?_
          refine j_ald 54 rfl hp0.2.2.2.2.2.2.2.2.2.2.2.2.2.2.2.1 rfl ?_
          refine j_run 55 1 rfl ?_
          refine j_gr 56 30 rfl rfl hp0.1 rfl ?_
          refine j_run 57 13 rfl ?_
          refine j_ald 70 rfl hp0.2.2.2.2.2.2.2.2.2.2.2.2.2.2.1 rfl ?_
          refine j_run 71 1 rfl ?_
          refine j_csT 72 50 2 rfl rfl mwX11_greater (eX11_greater hA x4 (bw ((rd σ 99 (bw ((bw (12 * x2)) + x5))) + (rd σ 98 (bw ((bw (4096 * (bw (x2 + 1)))) + (band x3 (bxor (bshl 1 x5) (-1)))))))) _) rfl rfl (rok rfl rfl) (Nat.le_of_ble_eq_true rfl) (fun h7 => ?_)
          refine j_run 73 1 rfl ?_
          refine j_run 74 1 rfl ?_
          refine j_goto 75 rfl rfl ?_
          exact j_weak (leP_s (leP_s (leP_s (leP_s (leP_s (leP_s (leP_z))))))) (ih (fX11_greater x4 (bw ((rd σ 99 (bw ((bw (12 * x2)) + x5))) + (rd σ 98 (bw ((bw (4096 * (bw (x2 + 1)))) + (band x3 (bxor (bshl 1 x5) (-1))))))))) (bw (x5 + 1)) _)
      · refine j_run 76 1 rfl ?_
        refine j_gr 77 30 rfl rfl hp0.1 rfl ?_
        refine j_run 78 6 rfl ?_
        refine j_ast 84 rfl hp0.2.2.2.2.2.2.2.2.2.2.2.2.2.2.1 rfl ?_
        refine j_run 85 1 rfl ?_
        refine j_goto 86 rfl rfl ?_
        exact j_weak (leP_s (leP_s (leP_s (leP_s (leP_n (leP_n (leP_z))))))) (hk16 (bw (x3 + 1)) _)
    · refine j_run 76 1 rfl ?_
      refine j_gr 77 30 rfl rfl hp0.1 rfl ?_
      refine j_run 78 6 rfl ?_
      refine j_ast 84 rfl hp0.2.2.2.2.2.2.2.2.2.2.2.2.2.2.1 rfl ?_
      refine j_run 85 1 rfl ?_
      refine j_goto 86 rfl rfl ?_
      exact j_weak (leP_s (leP_s (leP_s (leP_s (leP_n (leP_n (leP_z))))))) (hk16 (bw (x3 + 1)) _)
theorem JX11_laysBest_J46 {X : Cx} {ads : List Nat} {sk : List Sk} (hA : ads.length = sk.length ∧ sk.length ≤ 1000) (hp0 : ocM sk) (x1 : Int) (x2 : Int) (x3 : Int) (k16 : Int → Sg → Option (Sg)) (hk16 : ∀ (x3 : Int) (σ : Sg), jX11_laysBest X ads sk (16, [some (.inr (some 84)), some (.inl x1), some (.inl x2), some (.inl x3), none, none], [], σ) (k16 x3 σ)) (y0 : Int) (σ : Sg) : jX11_laysBest X ads sk (46, [some (.inr (some 84)), some (.inl x1), some (.inl x2), some (.inl x3), none, none], [.inl y0], σ) (fX11_laysBest_J46 k16 x1 x2 x3 y0 σ) := by
  unfold fX11_laysBest_J46
  refine j_run 31 3 rfl ?_
  exact j_weak (leP_s (leP_s (leP_s (leP_s (leP_s (leP_s (leP_z))))))) (JX11_laysBest_L51 hA hp0 x1 x2 x3 _ hk16 FU y0 0 _)
theorem JX11_laysBest_L16 {X : Cx} {ads : List Nat} {sk : List Sk} (hA : ads.length = sk.length ∧ sk.length ≤ 1000) (hp0 : ocM sk) (x1 : Int) (x2 : Int) (k10 : Int → Sg → Option (Sg)) (hk10 : ∀ (x2 : Int) (σ : Sg), jX11_laysBest X ads sk (10, [some (.inr (some 84)), some (.inl x1), some (.inl x2), none, none, none], [], σ) (k10 x2 σ)) : ∀ (n : Nat) (x3 : Int) (σ : Sg), jX11_laysBest X ads sk (16, [some (.inr (some 84)), some (.inl x1), some (.inl x2), some (.inl x3), none, none], [], σ) (fX11_laysBest_L16 k10 x1 x2 n x3 σ) := by
  intro n
  induction n with
  | zero => intro x3 σ; exact j_none
  | succ n ih =>
    intro x3 σ
    rw [fX11_laysBest_L16]
    refine j_run 11 4 rfl ?_
    refine jc_icmp_ge 15 rfl rfl (fun h2 => ?_) (fun h2 => ?_)
    · refine j_run 16 2 rfl ?_
      refine jc_icmp_ne 18 rfl rfl (fun h8 => ?_) (fun h8 => ?_)
      · refine j_run 19 1 rfl ?_
        refine j_goto 20 rfl rfl ?_
        exact j_weak (leP_s (leP_s (leP_s (leP_s (leP_n (leP_n (leP_z))))))) (JX11_laysBest_J46 hA hp0 x1 x2 x3 _ ih 0 _)
      · refine j_run 21 1 rfl ?_
        refine j_gr 22 30 rfl rfl hp0.1 rfl ?_
        refine j_run 23 7 rfl ?_
        refine j_ald 30 rfl hp0.2.2.2.2.2.2.2.2.2.2.2.2.2.2.1 rfl ?_
        exact j_weak (leP_s (leP_s (leP_s (leP_s (leP_n (leP_n (leP_z))))))) (JX11_laysBest_J46 hA hp0 x1 x2 x3 _ ih (rd σ 98 (bw ((bw (4096 * (bw (x2 + 1)))) + x3))) _)
    · refine j_run 87 1 rfl ?_
      refine j_goto 88 rfl rfl ?_
      exact j_weak (leP_s (leP_s (leP_s (leP_n (leP_n (leP_n (leP_z))))))) (hk10 (bw (x2 + -1)) _)
theorem JX11_laysBest_L10 {X : Cx} {ads : List Nat} {sk : List Sk} (hA : ads.length = sk.length ∧ sk.length ≤ 1000) (hp0 : ocM sk) (x1 : Int) : ∀ (n : Nat) (x2 : Int) (σ : Sg), jX11_laysBest X ads sk (10, [some (.inr (some 84)), some (.inl x1), some (.inl x2), none, none, none], [], σ) (fX11_laysBest_L10 x1 n x2 σ) := by
  intro n
  induction n with
  | zero => intro x2 σ; exact j_none
  | succ n ih =>
    intro x2 σ
    rw [fX11_laysBest_L10]
    refine j_run 7 1 rfl ?_
    refine jc_if_lt 8 rfl rfl (fun h1 => ?_) (fun h1 => ?_)
    · exact j_vret 89 rfl rfl rfl
    · refine j_run 9 2 rfl ?_
      exact j_weak (leP_s (leP_s (leP_s (leP_s (leP_n (leP_n (leP_z))))))) (JX11_laysBest_L16 hA hp0 x1 x2 _ ih FU 0 _)
theorem eX11_laysBest {X : Cx} {ads : List Nat} {sk : List Sk} (hA : ads.length = sk.length ∧ sk.length ≤ 1000) (hp0 : ocM sk) (σ : Sg) : CF X mX11_laysBest ads sk [.inr (some 84)] σ wV (fX11_laysBest σ) := by
  refine CF.of ⟨pX11_laysBest_ok, tbX11_ok, hA.1, hA.2⟩ (plainFor_of_name plX11) (Nat.le_of_ble_eq_true rfl) ?_
  show jX11_laysBest X ads sk (0, [some (.inr (some 84)), none, none, none, none, none], [], σ) (fX11_laysBest σ)
  unfold fX11_laysBest
  refine j_run 0 1 rfl ?_
  refine j_gr 1 0 rfl rfl hp0.1 rfl ?_
  refine j_run 2 1 rfl ?_
  refine j_ald0 3 rfl hp0.2.1 (by decide) ?_
  refine j_run 4 3 rfl ?_
  exact j_weak (leP_s (leP_s (leP_s (leP_n (leP_n (leP_n (leP_z))))))) (JX11_laysBest_L10 hA hp0 (rd σ 85 85) FU (rd σ 85 85) _)
abbrev jX11_laysFound (X : Cx) (ads : List Nat) (sk : List Sk) (ps : PS) (res : Option (Sg)) : Prop := J X mX11_laysFound pX11_laysFound tbX11 (rmD 6 0 0) 0 0 E0 (fun a => FM X mX11_laysFound ads sk (wV a)) ads sk ps res
theorem JX11_laysFound_L15 {X : Cx} {ads : List Nat} {sk : List Sk} (hA : ads.length = sk.length ∧ sk.length ≤ 1000) (hp0 : ocM sk) (x1 : Int) (k2 : Int → Sg → Option (Sg)) (hk2 : ∀ (x1 : Int) (σ : Sg), jX11_laysFound X ads sk (2, [some (.inr (some 84)), some (.inl x1), none], [], σ) (k2 x1 σ)) : ∀ (n : Nat) (x2 : Int) (σ : Sg), jX11_laysFound X ads sk (15, [some (.inr (some 84)), some (.inl x1), some (.inl x2)], [], σ) (fX11_laysFound_L15 k2 x1 n x2 σ) := by
  intro n
  induction n with
  | zero => intro x2 σ; exact j_none
  | succ n ih =>
    intro x2 σ
    rw [fX11_laysFound_L15]
    refine j_run 10 2 rfl ?_
    refine j_gr 12 0 rfl rfl hp0.1 rfl ?_
    refine j_run 13 1 rfl ?_
    refine j_ald0 14 rfl hp0.2.1 (by decide) ?_
    refine jc_icmp_ge 15 rfl rfl (fun h2 => ?_) (fun h2 => ?_)
    · refine j_run 16 1 rfl ?_
      refine j_gr 17 29 rfl rfl hp0.1 rfl ?_
      refine j_run 18 7 rfl ?_
      refine jc_icmp_ne 25 rfl rfl (fun h3 => ?_) (fun h3 => ?_)
      · refine j_run 26 1 rfl ?_
        refine j_goto 27 rfl rfl ?_
        refine j_ast 32 rfl hp0.2.2.2.2.2.2.2.2.2.2.2.2.2.2.2.1 rfl ?_
        refine j_run 33 1 rfl ?_
        refine j_goto 34 rfl rfl ?_
        exact j_weak (leP_s (leP_s (leP_s (leP_z)))) (ih (bw (x2 + 1)) _)
      · refine j_run 28 3 rfl ?_
        refine j_cv 31 55 2 rfl rfl mwX11_foundOf hp0.1 rfl rfl (eX11_foundOf hA hp0 x1 x2 _) rfl rfl (rok rfl rfl) (Nat.le_of_ble_eq_true rfl) (fun q4 _ h4 => ?_)
        refine j_ast 32 rfl hp0.2.2.2.2.2.2.2.2.2.2.2.2.2.2.2.1 rfl ?_
        refine j_run 33 1 rfl ?_
        refine j_goto 34 rfl rfl ?_
        exact j_weak (leP_s (leP_s (leP_s (leP_z)))) (ih (bw (x2 + 1)) _)
    · refine j_run 35 1 rfl ?_
      refine j_goto 36 rfl rfl ?_
      exact j_weak (leP_s (leP_s (leP_n (leP_z)))) (hk2 (bw (x1 + 1)) _)
theorem JX11_laysFound_L2 {X : Cx} {ads : List Nat} {sk : List Sk} (hA : ads.length = sk.length ∧ sk.length ≤ 1000) (hp0 : ocM sk) : ∀ (n : Nat) (x1 : Int) (σ : Sg), jX11_laysFound X ads sk (2, [some (.inr (some 84)), some (.inl x1), none], [], σ) (fX11_laysFound_L2 n x1 σ) := by
  intro n
  induction n with
  | zero => intro x1 σ; exact j_none
  | succ n ih =>
    intro x1 σ
    rw [fX11_laysFound_L2]
    refine j_run 2 2 rfl ?_
    refine j_gr 4 0 rfl rfl hp0.1 rfl ?_
    refine j_run 5 1 rfl ?_
    refine j_ald0 6 rfl hp0.2.1 (by decide) ?_
    refine jc_icmp_ge 7 rfl rfl (fun h1 => ?_) (fun h1 => ?_)
    · refine j_run 8 2 rfl ?_
      exact j_weak (leP_s (leP_s (leP_s (leP_z)))) (JX11_laysFound_L15 hA hp0 x1 _ ih FU 0 _)
    · exact j_vret 37 rfl rfl rfl
theorem eX11_laysFound {X : Cx} {ads : List Nat} {sk : List Sk} (hA : ads.length = sk.length ∧ sk.length ≤ 1000) (hp0 : ocM sk) (σ : Sg) : CF X mX11_laysFound ads sk [.inr (some 84)] σ wV (fX11_laysFound σ) := by
  refine CF.of ⟨pX11_laysFound_ok, tbX11_ok, hA.1, hA.2⟩ (plainFor_of_name plX11) (Nat.le_of_ble_eq_true rfl) ?_
  show jX11_laysFound X ads sk (0, [some (.inr (some 84)), none, none], [], σ) (fX11_laysFound σ)
  unfold fX11_laysFound
  refine j_run 0 2 rfl ?_
  exact j_weak (leP_s (leP_s (leP_n (leP_z)))) (JX11_laysFound_L2 hA hp0 FU 0 _)
abbrev jX11_takenBy (X : Cx) (ads : List Nat) (sk : List Sk) (σ : Sg) (ps : PS) (res : Option (Int)) : Prop := J X mX11_takenBy pX11_takenBy tbX11 (rmD 2 0 0) 0 0 E0 (fun a => FM X mX11_takenBy ads sk ((wP σ) a)) ads sk ps res
theorem JX11_takenBy_L2 {X : Cx} {ads : List Nat} {sk : List Sk} (hA : ads.length = sk.length ∧ sk.length ≤ 1000) (hp0 : ocM sk) (σ : Sg) (x1 : Int) (x2 : Int) : ∀ (n : Nat) (x3 : Int), jX11_takenBy X ads sk σ (2, [some (.inr (some 84)), some (.inl x1), some (.inl x2), some (.inl x3)], [], σ) (fX11_takenBy_L2 σ x1 x2 n x3) := by
  intro n
  induction n with
  | zero => intro x3; exact j_none
  | succ n ih =>
    intro x3
    rw [fX11_takenBy_L2]
    refine j_run 2 2 rfl ?_
    refine j_gr 4 0 rfl rfl hp0.1 rfl ?_
    refine j_run 5 1 rfl ?_
    refine j_ald0 6 rfl hp0.2.1 (by decide) ?_
    refine jc_icmp_ge 7 rfl rfl (fun h1 => ?_) (fun h1 => ?_)
    · refine j_run 8 4 rfl ?_
      refine j_cv 12 82 3 rfl rfl mwX11_canHave hp0.1 rfl rfl (eX11_canHave hA hp0 x1 x3 x2 _) rfl rfl (rok rfl rfl) (Nat.le_of_ble_eq_true rfl) (fun r2 _ h2 => ?_)
      refine jc_if_eq 13 rfl rfl (fun h3 => ?_) (fun h3 => ?_)
      · refine j_run 50 1 rfl ?_
        refine j_goto 51 rfl rfl ?_
        exact j_weak (leP_s (leP_s (leP_s (leP_s (leP_z))))) (ih (bw (x3 + 1)))
      · refine j_run 14 1 rfl ?_
        refine j_gr 15 29 rfl rfl hp0.1 rfl ?_
        refine j_run 16 5 rfl ?_
        refine j_ald 21 rfl hp0.2.2.2.2.2.2.2.2.2.2.2.2.2.2.2.1 rfl ?_
        refine j_run 22 1 rfl ?_
        refine j_gr 23 30 rfl rfl hp0.1 rfl ?_
        refine j_run 24 13 rfl ?_
        refine j_ald 37 rfl hp0.2.2.2.2.2.2.2.2.2.2.2.2.2.2.1 rfl ?_
        refine j_run 38 2 rfl ?_
        refine j_gr 40 30 rfl rfl hp0.1 rfl ?_
        refine j_run 41 5 rfl ?_
        refine j_ald 46 rfl hp0.2.2.2.2.2.2.2.2.2.2.2.2.2.2.1 rfl ?_
        refine jc_icmp_ne 47 rfl rfl (fun h4 => ?_) (fun h4 => ?_)
        · refine j_run 48 1 rfl ?_
          exact j_iret 49 rfl rfl rfl
        · refine j_run 50 1 rfl ?_
          refine j_goto 51 rfl rfl ?_
          exact j_weak (leP_s (leP_s (leP_s (leP_s (leP_z))))) (ih (bw (x3 + 1)))
    · refine j_run 52 1 rfl ?_
      exact j_iret 53 rfl rfl rfl
theorem eX11_takenBy {X : Cx} {ads : List Nat} {sk : List Sk} (hA : ads.length = sk.length ∧ sk.length ≤ 1000) (hp0 : ocM sk) (x1 : Int) (x2 : Int) (σ : Sg) : CF X mX11_takenBy ads sk [.inr (some 84), .inl x1, .inl x2] σ (wP σ) (fX11_takenBy x1 x2 σ) := by
  refine CF.of ⟨pX11_takenBy_ok, tbX11_ok, hA.1, hA.2⟩ (plainFor_of_name plX11) (Nat.le_of_ble_eq_true rfl) ?_
  show jX11_takenBy X ads sk σ (0, [some (.inr (some 84)), some (.inl x1), some (.inl x2), none], [], σ) (fX11_takenBy x1 x2 σ)
  unfold fX11_takenBy
  refine j_run 0 2 rfl ?_
  exact j_weak (leP_s (leP_s (leP_s (leP_s (leP_z))))) (JX11_takenBy_L2 hA hp0 σ x1 x2 FU 0)
abbrev jX11_best (X : Cx) (ads : List Nat) (sk : List Sk) (ps : PS) (res : Option (Int × Sg)) : Prop := J X mX11_best pX11_best tbX11 (rmD 7 0 0) 0 0 E0 (fun a => FM X mX11_best ads sk (wE a)) ads sk ps res
theorem JX11_best_J126 {X : Cx} {ads : List Nat} {sk : List Sk} (hA : ads.length = sk.length ∧ sk.length ≤ 1000) (hp0 : ocM sk) (x1 : Int) (x2 : Int) (x4 : Int) (x5 : Int) (k61 : Int → Int → Int → Sg → Option (Int × Sg)) (hk61 : ∀ (x2 : Int) (x3 : Int) (x4 : Int) (σ : Sg), jX11_best X ads sk (61, [some (.inr (some 84)), some (.inl x1), some (.inl x2), some (.inl x3), some (.inl x4), none], [], σ) (k61 x2 x3 x4 σ)) (x3 : Int) (σ : Sg) : jX11_best X ads sk (126, [some (.inr (some 84)), some (.inl x1), some (.inl x2), some (.inl x3), some (.inl x4), some (.inl x5)], [], σ) (fX11_best_J126 k61 x1 x2 x4 x5 x3 σ) := by
  unfold fX11_best_J126
  refine j_run 76 4 rfl ?_
  refine jc_icmp_ne 80 rfl rfl (fun h6 => ?_) (fun h6 => ?_)
  · refine j_run 81 2 rfl ?_
    refine j_run 83 1 rfl ?_
    refine j_goto 84 rfl rfl ?_
    exact j_weak (leP_s (leP_s (leP_s (leP_s (leP_s (leP_n (leP_z))))))) (hk61 x2 x4 (bw (x4 + 1)) _)
  · refine j_run 83 1 rfl ?_
    refine j_goto 84 rfl rfl ?_
    exact j_weak (leP_s (leP_s (leP_s (leP_s (leP_s (leP_n (leP_z))))))) (hk61 x2 x3 (bw (x4 + 1)) _)
theorem JX11_best_J99 {X : Cx} {ads : List Nat} {sk : List Sk} (hA : ads.length = sk.length ∧ sk.length ≤ 1000) (hp0 : ocM sk) (x1 : Int) (x3 : Int) (x4 : Int) (x5 : Int) (z0 : Int) (k61 : Int → Int → Int → Sg → Option (Int × Sg)) (hk61 : ∀ (x2 : Int) (x3 : Int) (x4 : Int) (σ : Sg), jX11_best X ads sk (61, [some (.inr (some 84)), some (.inl x1), some (.inl x2), some (.inl x3), some (.inl x4), none], [], σ) (k61 x2 x3 x4 σ)) (y0 : Int) (σ : Sg) : jX11_best X ads sk (99, [some (.inr (some 84)), some (.inl x1), none, some (.inl x3), some (.inl x4), some (.inl x5)], [.inl y0, .inl z0], σ) (fX11_best_J99 k61 x1 x3 x4 x5 z0 y0 σ) := by
  unfold fX11_best_J99
  refine j_run 60 6 rfl ?_
  refine jc_icmp_ne 66 rfl rfl (fun h7 => ?_) (fun h7 => ?_)
  · refine j_run 67 1 rfl ?_
    refine j_gr 68 0 rfl rfl hp0.1 rfl ?_
    refine j_run 69 3 rfl ?_
    refine j_ald 72 rfl hp0.2.1 rfl ?_
    refine jc_if_ne 73 rfl rfl (fun h8 => ?_) (fun h8 => ?_)
    · refine j_run 74 2 rfl ?_
      exact j_weak (leP_s (leP_s (leP_s (leP_s (leP_s (leP_s (leP_z))))))) (JX11_best_J126 hA hp0 x1 (band z0 y0) x4 x5 _ hk61 x5 _)
    · exact j_weak (leP_s (leP_s (leP_s (leP_s (leP_s (leP_s (leP_z))))))) (JX11_best_J126 hA hp0 x1 (band z0 y0) x4 x5 _ hk61 x3 _)
  · exact j_weak (leP_s (leP_s (leP_s (leP_s (leP_s (leP_s (leP_z))))))) (JX11_best_J126 hA hp0 x1 (band z0 y0) x4 x5 _ hk61 x3 _)
theorem JX11_best_L61 {X : Cx} {ads : List Nat} {sk : List Sk} (hA : ads.length = sk.length ∧ sk.length ≤ 1000) (hp0 : ocM sk) (x1 : Int) : ∀ (n : Nat) (x2 : Int) (x3 : Int) (x4 : Int) (σ : Sg), jX11_best X ads sk (61, [some (.inr (some 84)), some (.inl x1), some (.inl x2), some (.inl x3), some (.inl x4), none], [], σ) (fX11_best_L61 x1 n x2 x3 x4 σ) := by
  intro n
  induction n with
  | zero => intro x2 x3 x4 σ; exact j_none
  | succ n ih =>
    intro x2 x3 x4 σ
    rw [fX11_best_L61]
    refine j_run 38 2 rfl ?_
    refine j_gr 40 0 rfl rfl hp0.1 rfl ?_
    refine j_run 41 1 rfl ?_
    refine j_ald0 42 rfl hp0.2.1 (by decide) ?_
    refine jc_icmp_ge 43 rfl rfl (fun h4 => ?_) (fun h4 => ?_)
    · refine j_run 44 3 rfl ?_
      refine j_cv 47 85 2 rfl rfl mwX11_takenBy hp0.1 rfl rfl (eX11_takenBy hA hp0 x4 x2 _) rfl rfl (rok rfl rfl) (Nat.le_of_ble_eq_true rfl) (fun r5 _ h5 => ?_)
      refine j_run 48 4 rfl ?_
      refine jc_icmp_ne 52 rfl rfl (fun h9 => ?_) (fun h9 => ?_)
      · refine j_run 53 1 rfl ?_
        refine j_goto 54 rfl rfl ?_
        exact j_weak (leP_s (leP_s (leP_n (leP_s (leP_s (leP_s (leP_z))))))) (JX11_best_J99 hA hp0 x1 x3 x4 r5 x2 _ ih x2 _)
      · refine j_run 55 5 rfl ?_
        exact j_weak (leP_s (leP_s (leP_n (leP_s (leP_s (leP_s (leP_z))))))) (JX11_best_J99 hA hp0 x1 x3 x4 r5 x2 _ ih (bxor (bshl 1 r5) (-1)) _)
    · refine j_run 85 1 rfl ?_
      exact j_iret 86 rfl rfl rfl
theorem JX11_best_J25 {X : Cx} {ads : List Nat} {sk : List Sk} (hA : ads.length = sk.length ∧ sk.length ≤ 1000) (hp0 : ocM sk) (x1 : Int) (σ : Sg) : jX11_best X ads sk (25, [some (.inr (some 84)), some (.inl x1), none, none, none, none], [], σ) (fX11_best_J25 x1 σ) := by
  unfold fX11_best_J25
  refine j_run 14 1 rfl ?_
  refine j_cv 15 83 0 rfl rfl mwX11_laysFound hp0.1 rfl rfl (eX11_laysFound hA hp0 _) rfl rfl (rok rfl rfl) (Nat.le_of_ble_eq_true rfl) (fun s1 _ h1 => ?_)
  refine j_run 16 1 rfl ?_
  refine j_cv 17 84 0 rfl rfl mwX11_laysBest hp0.1 rfl rfl (eX11_laysBest hA hp0 _) rfl rfl (rok rfl rfl) (Nat.le_of_ble_eq_true rfl) (fun s2 _ h2 => ?_)
  refine j_run 18 2 rfl ?_
  refine j_gr 20 0 rfl rfl hp0.1 rfl ?_
  refine j_run 21 1 rfl ?_
  refine j_ald0 22 rfl hp0.2.1 (by decide) ?_
  refine j_run 23 5 rfl ?_
  refine jc_if_ne 28 rfl rfl (fun h3 => ?_) (fun h3 => ?_)
  · refine j_run 29 1 rfl ?_
    refine j_gr 30 30 rfl rfl hp0.1 rfl ?_
    refine j_run 31 1 rfl ?_
    refine j_ald 32 rfl hp0.2.2.2.2.2.2.2.2.2.2.2.2.2.2.1 rfl ?_
    exact j_iret 33 rfl rfl rfl
  · refine j_run 34 4 rfl ?_
    exact j_weak (leP_s (leP_s (leP_s (leP_s (leP_s (leP_n (leP_z))))))) (JX11_best_L61 hA hp0 x1 FU (bw ((bshl 1 (rd s2 85 85)) - 1)) (-1) 0 _)
theorem eX11_best {X : Cx} {ads : List Nat} {sk : List Sk} (hA : ads.length = sk.length ∧ sk.length ≤ 1000) (hp0 : ocM sk) (x1 : Int) (σ : Sg) : CF X mX11_best ads sk [.inr (some 84), .inl x1] σ wE (fX11_best x1 σ) := by
  refine CF.of ⟨pX11_best_ok, tbX11_ok, hA.1, hA.2⟩ (plainFor_of_name plX11) (Nat.le_of_ble_eq_true rfl) ?_
  show jX11_best X ads sk (0, [some (.inr (some 84)), some (.inl x1), none, none, none, none], [], σ) (fX11_best x1 σ)
  unfold fX11_best
  refine j_run 0 1 rfl ?_
  refine jc_if_eq 1 rfl rfl (fun h10 => ?_) (fun h10 => ?_)
  · exact j_weak (leP_s (leP_s (leP_n (leP_n (leP_n (leP_n (leP_z))))))) (JX11_best_J25 hA hp0 x1 _)
  · refine j_run 2 4 rfl ?_
    refine j_gr 6 0 rfl rfl hp0.1 rfl ?_
    refine j_run 7 1 rfl ?_
    refine j_ald0 8 rfl hp0.2.1 (by decide) ?_
    refine j_run 9 1 rfl ?_
    refine j_csT 10 0 3 rfl rfl mwX11_isIn (eX11_isIn hA x1 10 (bw (9 + (rd σ 85 85))) _) rfl rfl (rok rfl rfl) (Nat.le_of_ble_eq_true rfl) (fun h11 => ?_)
    refine jc_if_ne 11 rfl rfl (fun h12 => ?_) (fun h12 => ?_)
    · refine j_run 12 1 rfl ?_
      exact j_iret 13 rfl rfl rfl
    · exact j_weak (leP_s (leP_s (leP_n (leP_n (leP_n (leP_n (leP_z))))))) (JX11_best_J25 hA hp0 x1 _)
abbrev jX11_bares (X : Cx) (ads : List Nat) (sk : List Sk) (ps : PS) (res : Option (Int × Sg)) : Prop := J X mX11_bares pX11_bares tbX11 (rmD 7 0 0) 0 0 E0 (fun a => FM X mX11_bares ads sk (wE a)) ads sk ps res
theorem JX11_bares_L105 {X : Cx} {ads : List Nat} {sk : List Sk} (hA : ads.length = sk.length ∧ sk.length ≤ 1000) (hp0 : ocM sk) (x1 : Int) (x2 : Int) (x3 : Int) (x4 : Int) (k35 : Int → Sg → Option (Int × Sg)) (hk35 : ∀ (x4 : Int) (σ : Sg), jX11_bares X ads sk (35, [some (.inr (some 84)), some (.inl x1), some (.inl x2), some (.inl x3), some (.inl x4), none], [], σ) (k35 x4 σ)) (k142 : Int → Int → Int → Sg → Option (Int × Sg)) (hk142 : ∀ (x3 : Int) (x4 : Int) (x5 : Int) (σ : Sg), jX11_bares X ads sk (142, [none, none, some (.inl x2), some (.inl x3), some (.inl x4), some (.inl x5)], [], σ) (k142 x3 x4 x5 σ)) : ∀ (n : Nat) (x5 : Int) (σ : Sg), jX11_bares X ads sk (105, [some (.inr (some 84)), some (.inl x1), some (.inl x2), some (.inl x3), some (.inl x4), some (.inl x5)], [], σ) (fX11_bares_L105 k35 k142 x1 x2 x3 x4 n x5 σ) := by
  intro n
  induction n with
  | zero => intro x5 σ; exact j_none
  | succ n ih =>
    intro x5 σ
    rw [fX11_bares_L105]
    refine j_run 57 2 rfl ?_
    refine jc_icmp_ge 59 rfl rfl (fun h16 => ?_) (fun h16 => ?_)
    · refine j_run 60 2 rfl ?_
      refine j_cvT 62 2 1 rfl rfl mwX11_isField hp0.1 rfl rfl (eX11_isField hA hp0 x5 _) rfl rfl (rok rfl rfl) (Nat.le_of_ble_eq_true rfl) (fun h17 => ?_)
      refine jc_if_eq 63 rfl rfl (fun h18 => ?_) (fun h18 => ?_)
      · refine j_run 88 1 rfl ?_
        refine j_goto 89 rfl rfl ?_
        exact j_weak (leP_s (leP_s (leP_s (leP_s (leP_s (leP_s (leP_z))))))) (ih (bw (x5 + 1)) _)
      · refine j_run 64 5 rfl ?_
        refine j_cv 69 58 4 rfl rfl mwX11_liftOf hp0.1 rfl rfl (eX11_liftOf hA hp0 x3 x4 x5 x1 _) rfl rfl (rok rfl rfl) (Nat.le_of_ble_eq_true rfl) (fun q19 _ h19 => ?_)
        refine j_run 70 1 rfl ?_
        refine j_gr 71 0 rfl rfl hp0.1 rfl ?_
        refine j_run 72 3 rfl ?_
        refine j_ald 75 rfl hp0.2.1 rfl ?_
        refine jc_icmp_lt 76 rfl rfl (fun h20 => ?_) (fun h20 => ?_)
        · refine j_run 88 1 rfl ?_
          refine j_goto 89 rfl rfl ?_
          exact j_weak (leP_s (leP_s (leP_s (leP_s (leP_s (leP_s (leP_z))))))) (ih (bw (x5 + 1)) _)
        · exact j_weak (leP_n (leP_n (leP_s (leP_s (leP_s (leP_s (leP_z))))))) (hk142 x3 x4 x5 _)
    · refine j_run 90 1 rfl ?_
      refine j_goto 91 rfl rfl ?_
      exact j_weak (leP_s (leP_s (leP_s (leP_s (leP_s (leP_n (leP_z))))))) (hk35 (bw (x4 + 1)) _)
theorem JX11_bares_L35 {X : Cx} {ads : List Nat} {sk : List Sk} (hA : ads.length = sk.length ∧ sk.length ≤ 1000) (hp0 : ocM sk) (x1 : Int) (x2 : Int) (x3 : Int) (k21 : Int → Sg → Option (Int × Sg)) (hk21 : ∀ (x3 : Int) (σ : Sg), jX11_bares X ads sk (21, [some (.inr (some 84)), some (.inl x1), some (.inl x2), some (.inl x3), none, none], [], σ) (k21 x3 σ)) (k142 : Int → Int → Int → Sg → Option (Int × Sg)) (hk142 : ∀ (x3 : Int) (x4 : Int) (x5 : Int) (σ : Sg), jX11_bares X ads sk (142, [none, none, some (.inl x2), some (.inl x3), some (.inl x4), some (.inl x5)], [], σ) (k142 x3 x4 x5 σ)) : ∀ (n : Nat) (x4 : Int) (σ : Sg), jX11_bares X ads sk (35, [some (.inr (some 84)), some (.inl x1), some (.inl x2), some (.inl x3), some (.inl x4), none], [], σ) (fX11_bares_L35 k21 k142 x1 x2 x3 n x4 σ) := by
  intro n
  induction n with
  | zero => intro x4 σ; exact j_none
  | succ n ih =>
    intro x4 σ
    rw [fX11_bares_L35]
    refine j_run 21 2 rfl ?_
    refine j_gr 23 0 rfl rfl hp0.1 rfl ?_
    refine j_run 24 1 rfl ?_
    refine j_ald0 25 rfl hp0.2.1 (by decide) ?_
    refine jc_icmp_ge 26 rfl rfl (fun h6 => ?_) (fun h6 => ?_)
    · refine j_run 27 1 rfl ?_
      refine j_gr 28 0 rfl rfl hp0.1 rfl ?_
      refine j_run 29 3 rfl ?_
      refine j_ald 32 rfl hp0.2.1 rfl ?_
      refine j_run 33 1 rfl ?_
      refine jc_icmp_eq 34 rfl rfl (fun h7 => ?_) (fun h7 => ?_)
      · refine j_run 90 1 rfl ?_
        refine j_goto 91 rfl rfl ?_
        exact j_weak (leP_s (leP_s (leP_s (leP_s (leP_s (leP_n (leP_z))))))) (ih (bw (x4 + 1)) _)
      · refine j_run 35 3 rfl ?_
        refine j_cv 38 36 2 rfl rfl mwX11_areUnlike hp0.1 rfl rfl (eX11_areUnlike hA hp0 x3 x4 _) rfl rfl (rok rfl rfl) (Nat.le_of_ble_eq_true rfl) (fun r8 _ h8 => ?_)
        refine jc_if_eq 39 rfl rfl (fun h9 => ?_) (fun h9 => ?_)
        · refine j_run 90 1 rfl ?_
          refine j_goto 91 rfl rfl ?_
          exact j_weak (leP_s (leP_s (leP_s (leP_s (leP_s (leP_n (leP_z))))))) (ih (bw (x4 + 1)) _)
        · refine j_run 40 2 rfl ?_
          refine j_cv 42 57 1 rfl rfl mwX11_isFree hp0.1 rfl rfl (eX11_isFree hA hp0 x3 _) rfl rfl (rok rfl rfl) (Nat.le_of_ble_eq_true rfl) (fun r10 _ h10 => ?_)
          refine jc_if_eq 43 rfl rfl (fun h11 => ?_) (fun h11 => ?_)
          · refine j_run 90 1 rfl ?_
            refine j_goto 91 rfl rfl ?_
            exact j_weak (leP_s (leP_s (leP_s (leP_s (leP_s (leP_n (leP_z))))))) (ih (bw (x4 + 1)) _)
          · refine j_run 44 2 rfl ?_
            refine j_cv 46 57 1 rfl rfl mwX11_isFree hp0.1 rfl rfl (eX11_isFree hA hp0 x4 _) rfl rfl (rok rfl rfl) (Nat.le_of_ble_eq_true rfl) (fun r12 _ h12 => ?_)
            refine jc_if_eq 47 rfl rfl (fun h13 => ?_) (fun h13 => ?_)
            · refine j_run 90 1 rfl ?_
              refine j_goto 91 rfl rfl ?_
              exact j_weak (leP_s (leP_s (leP_s (leP_s (leP_s (leP_n (leP_z))))))) (ih (bw (x4 + 1)) _)
            · refine j_run 48 3 rfl ?_
              refine j_cv 51 55 2 rfl rfl mwX11_foundOf hp0.1 rfl rfl (eX11_foundOf hA hp0 x3 x4 _) rfl rfl (rok rfl rfl) (Nat.le_of_ble_eq_true rfl) (fun q14 _ h14 => ?_)
              refine j_run 52 1 rfl ?_
              refine jc_icmp_ge 53 rfl rfl (fun h15 => ?_) (fun h15 => ?_)
              · refine j_goto 54 rfl rfl ?_
                refine j_run 90 1 rfl ?_
                refine j_goto 91 rfl rfl ?_
                exact j_weak (leP_s (leP_s (leP_s (leP_s (leP_s (leP_n (leP_z))))))) (ih (bw (x4 + 1)) _)
              · refine j_run 55 2 rfl ?_
                exact j_weak (leP_s (leP_s (leP_s (leP_s (leP_s (leP_s (leP_z))))))) (JX11_bares_L105 hA hp0 x1 x2 x3 x4 _ ih _ hk142 FU 0 _)
    · refine j_run 92 1 rfl ?_
      refine j_goto 93 rfl rfl ?_
      exact j_weak (leP_s (leP_s (leP_s (leP_s (leP_n (leP_n (leP_z))))))) (hk21 (bw (x3 + 1)) _)
theorem JX11_bares_L21 {X : Cx} {ads : List Nat} {sk : List Sk} (hA : ads.length = sk.length ∧ sk.length ≤ 1000) (hp0 : ocM sk) (x1 : Int) (x2 : Int) (k142 : Int → Int → Int → Sg → Option (Int × Sg)) (hk142 : ∀ (x3 : Int) (x4 : Int) (x5 : Int) (σ : Sg), jX11_bares X ads sk (142, [none, none, some (.inl x2), some (.inl x3), some (.inl x4), some (.inl x5)], [], σ) (k142 x3 x4 x5 σ)) : ∀ (n : Nat) (x3 : Int) (σ : Sg), jX11_bares X ads sk (21, [some (.inr (some 84)), some (.inl x1), some (.inl x2), some (.inl x3), none, none], [], σ) (fX11_bares_L21 k142 x1 x2 n x3 σ) := by
  intro n
  induction n with
  | zero => intro x3 σ; exact j_none
  | succ n ih =>
    intro x3 σ
    rw [fX11_bares_L21]
    refine j_run 13 2 rfl ?_
    refine j_gr 15 0 rfl rfl hp0.1 rfl ?_
    refine j_run 16 1 rfl ?_
    refine j_ald0 17 rfl hp0.2.1 (by decide) ?_
    refine jc_icmp_ge 18 rfl rfl (fun h5 => ?_) (fun h5 => ?_)
    · refine j_run 19 2 rfl ?_
      exact j_weak (leP_s (leP_s (leP_s (leP_s (leP_s (leP_n (leP_z))))))) (JX11_bares_L35 hA hp0 x1 x2 x3 _ ih _ hk142 FU 0 _)
    · refine j_run 94 1 rfl ?_
      exact j_iret 95 rfl rfl rfl
theorem eX11_bares {X : Cx} {ads : List Nat} {sk : List Sk} (hA : ads.length = sk.length ∧ sk.length ≤ 1000) (hp0 : ocM sk) (x1 : Int) (x2 : Int) (σ : Sg) : CF X mX11_bares ads sk [.inr (some 84), .inl x1, .inl x2] σ wE (fX11_bares x1 x2 σ) := by
  refine CF.of ⟨pX11_bares_ok, tbX11_ok, hA.1, hA.2⟩ (plainFor_of_name plX11) (Nat.le_of_ble_eq_true rfl) ?_
  show jX11_bares X ads sk (0, [some (.inr (some 84)), some (.inl x1), some (.inl x2), none, none, none], [], σ) (fX11_bares x1 x2 σ)
  unfold fX11_bares
  refine j_run 0 2 rfl ?_
  refine j_cvT 2 2 1 rfl rfl mwX11_isField hp0.1 rfl rfl (eX11_isField hA hp0 x1 _) rfl rfl (rok rfl rfl) (Nat.le_of_ble_eq_true rfl) (fun h1 => ?_)
  refine jc_if_eq 3 rfl rfl (fun h2 => ?_) (fun h2 => ?_)
  · refine j_run 9 1 rfl ?_
    exact j_iret 10 rfl rfl rfl
  · refine j_run 4 3 rfl ?_
    refine j_csT 7 0 3 rfl rfl mwX11_isIn (eX11_isIn hA x2 0 2 _) rfl rfl (rok rfl rfl) (Nat.le_of_ble_eq_true rfl) (fun h3 => ?_)
    refine jc_if_ne 8 rfl rfl (fun h4 => ?_) (fun h4 => ?_)
    · refine j_run 9 1 rfl ?_
      exact j_iret 10 rfl rfl rfl
    · refine j_run 11 2 rfl ?_
      refine j_weak (leP_s (leP_s (leP_s (leP_s (leP_n (leP_n (leP_z))))))) (JX11_bares_L21 hA hp0 x1 x2 _ (fun v21_3 v21_4 v21_5 s21 => ?_) FU 0 _)
      refine j_run 77 1 rfl ?_
      refine jc_if_ne 78 rfl rfl (fun h22 => ?_) (fun h22 => ?_)
      · refine j_run 79 1 rfl ?_
        refine j_goto 80 rfl rfl ?_
        exact j_iret 87 rfl rfl rfl
      · refine j_run 81 2 rfl ?_
        refine jc_icmp_ne 83 rfl rfl (fun h23 => ?_) (fun h23 => ?_)
        · refine j_run 84 1 rfl ?_
          refine j_goto 85 rfl rfl ?_
          exact j_iret 87 rfl rfl rfl
        · refine j_run 86 1 rfl ?_
          exact j_iret 87 rfl rfl rfl
abbrev jX11_stir (X : Cx) (ads : List Nat) (sk : List Sk) (ps : PS) (res : Option (Int × Sg)) : Prop := J X mX11_stir pX11_stir tbX11 (rmD 2 0 0) 0 0 E0 (fun a => FM X mX11_stir ads sk (wE a)) ads sk ps res
theorem JX11_stir_J97 {X : Cx} {ads : List Nat} {sk : List Sk} (hA : ads.length = sk.length ∧ sk.length ≤ 1000) (hp0 : ocM sk) (z0 : Int) (y0 : Int) (σ : Sg) : jX11_stir X ads sk (97, [some (.inr (some 84)), none, none, none, none], [.inl y0, .inl z0, .inr (some 85)], σ) (fX11_stir_J97 z0 y0 σ) := by
  unfold fX11_stir_J97
  refine j_ast 58 rfl hp0.2.1 rfl ?_
  refine j_run 59 1 rfl ?_
  refine j_gr 60 0 rfl rfl hp0.1 rfl ?_
  refine j_run 61 2 rfl ?_
  refine j_ald0 63 rfl hp0.2.1 (by decide) ?_
  refine j_run 64 2 rfl ?_
  refine j_ast0 66 rfl hp0.2.1 (by decide) ?_
  refine j_run 67 1 rfl ?_
  refine j_gr 68 0 rfl rfl hp0.1 rfl ?_
  refine j_run 69 1 rfl ?_
  refine j_ald0 70 rfl hp0.2.1 (by decide) ?_
  exact j_iret 71 rfl rfl rfl
theorem eX11_stir {X : Cx} {ads : List Nat} {sk : List Sk} (hA : ads.length = sk.length ∧ sk.length ≤ 1000) (hp0 : ocM sk) (x1 : Int) (x2 : Int) (x3 : Int) (σ : Sg) : CF X mX11_stir ads sk [.inr (some 84), .inl x1, .inl x2, .inl x3] σ wE (fX11_stir x1 x2 x3 σ) := by
  refine CF.of ⟨pX11_stir_ok, tbX11_ok, hA.1, hA.2⟩ (plainFor_of_name plX11) (Nat.le_of_ble_eq_true rfl) ?_
  show jX11_stir X ads sk (0, [some (.inr (some 84)), some (.inl x1), some (.inl x2), some (.inl x3), none], [], σ) (fX11_stir x1 x2 x3 σ)
  unfold fX11_stir
  refine j_run 0 2 rfl ?_
  refine jc_icmp_ne 2 rfl rfl (fun h1 => ?_) (fun h1 => ?_)
  · refine j_run 3 1 rfl ?_
    refine j_gr 4 0 rfl rfl hp0.1 rfl ?_
    refine j_run 5 2 rfl ?_
    refine j_ast0 7 rfl hp0.2.1 (by decide) ?_
    refine j_run 8 1 rfl ?_
    exact j_iret 9 rfl rfl rfl
  · refine j_run 10 2 rfl ?_
    refine j_cvT 12 3 1 rfl rfl mwX11_isPerson hp0.1 rfl rfl (eX11_isPerson hA hp0 x1 _) rfl rfl (rok rfl rfl) (Nat.le_of_ble_eq_true rfl) (fun h2 => ?_)
    refine jc_if_eq 13 rfl rfl (fun h3 => ?_) (fun h3 => ?_)
    · refine j_run 25 1 rfl ?_
      exact j_iret 26 rfl rfl rfl
    · refine j_run 14 3 rfl ?_
      refine j_csT 17 0 3 rfl rfl mwX11_isIn (eX11_isIn hA x2 0 9 _) rfl rfl (rok rfl rfl) (Nat.le_of_ble_eq_true rfl) (fun h4 => ?_)
      refine jc_if_eq 18 rfl rfl (fun h5 => ?_) (fun h5 => ?_)
      · refine j_run 25 1 rfl ?_
        exact j_iret 26 rfl rfl rfl
      · refine j_run 19 1 rfl ?_
        refine j_gr 20 0 rfl rfl hp0.1 rfl ?_
        refine j_run 21 1 rfl ?_
        refine j_ald0 22 rfl hp0.2.1 (by decide) ?_
        refine j_run 23 1 rfl ?_
        refine jc_icmp_ne 24 rfl rfl (fun h6 => ?_) (fun h6 => ?_)
        · refine j_run 25 1 rfl ?_
          exact j_iret 26 rfl rfl rfl
        · refine j_run 27 3 rfl ?_
          refine j_gr 30 0 rfl rfl hp0.1 rfl ?_
          refine j_run 31 1 rfl ?_
          refine j_ald0 32 rfl hp0.2.1 (by decide) ?_
          refine j_run 33 4 rfl ?_
          refine j_gr 37 0 rfl rfl hp0.1 rfl ?_
          refine j_run 38 2 rfl ?_
          refine j_ast 40 rfl hp0.2.1 rfl ?_
          refine j_run 41 1 rfl ?_
          refine j_gr 42 0 rfl rfl hp0.1 rfl ?_
          refine j_run 43 4 rfl ?_
          refine j_ast 47 rfl hp0.2.1 rfl ?_
          refine j_run 48 1 rfl ?_
          refine j_gr 49 0 rfl rfl hp0.1 rfl ?_
          refine j_run 50 4 rfl ?_
          refine jc_if_eq 54 rfl rfl (fun h7 => ?_) (fun h7 => ?_)
          · refine j_run 57 1 rfl ?_
            exact j_weak (leP_s (leP_n (leP_n (leP_n (leP_n (leP_z)))))) (JX11_stir_J97 hA hp0 (bw ((bw (275 + (bw (3 * (rd σ 85 90))))) + 2)) 0 _)
          · refine j_run 55 1 rfl ?_
            refine j_goto 56 rfl rfl ?_
            exact j_weak (leP_s (leP_n (leP_n (leP_n (leP_n (leP_z)))))) (JX11_stir_J97 hA hp0 (bw ((bw (275 + (bw (3 * (rd σ 85 90))))) + 2)) 1 _)
abbrev jX11_canBe (X : Cx) (ads : List Nat) (sk : List Sk) (ps : PS) (res : Option (Int × Sg)) : Prop := J X mX11_canBe pX11_canBe tbX11 (rmD 6 0 0) 0 0 E0 (fun a => FM X mX11_canBe ads sk (wE a)) ads sk ps res
theorem JX11_canBe_L10 {X : Cx} {ads : List Nat} {sk : List Sk} (hA : ads.length = sk.length ∧ sk.length ≤ 1000) (hp0 : ocM sk) (x1 : Int) (x3 : Int) : ∀ (n : Nat) (x4 : Int) (σ : Sg), jX11_canBe X ads sk (10, [some (.inr (some 84)), some (.inl x1), none, some (.inl x3), some (.inl x4), none], [], σ) (fX11_canBe_L10 x1 x3 n x4 σ) := by
  intro n
  induction n with
  | zero => intro x4 σ; exact j_none
  | succ n ih =>
    intro x4 σ
    rw [fX11_canBe_L10]
    refine j_run 7 2 rfl ?_
    refine j_gr 9 0 rfl rfl hp0.1 rfl ?_
    refine j_run 10 1 rfl ?_
    refine j_ald0 11 rfl hp0.2.1 (by decide) ?_
    refine jc_icmp_ge 12 rfl rfl (fun h2 => ?_) (fun h2 => ?_)
    · refine j_run 13 7 rfl ?_
      refine j_gr 20 0 rfl rfl hp0.1 rfl ?_
      refine j_run 21 1 rfl ?_
      refine j_ald 22 rfl hp0.2.1 rfl ?_
      refine j_run 23 1 rfl ?_
      refine jc_icmp_ne 24 rfl rfl (fun h3 => ?_) (fun h3 => ?_)
      · refine j_run 25 2 rfl ?_
        refine j_gr 27 0 rfl rfl hp0.1 rfl ?_
        refine j_run 28 3 rfl ?_
        refine j_ald 31 rfl hp0.2.1 rfl ?_
        refine jc_icmp_lt 32 rfl rfl (fun h4 => ?_) (fun h4 => ?_)
        · refine j_run 48 1 rfl ?_
          exact j_zret 49 rfl rfl (by decide) rfl
        · refine j_run 33 1 rfl ?_
          refine j_gr 34 0 rfl rfl hp0.1 rfl ?_
          refine j_run 35 3 rfl ?_
          refine j_ald 38 rfl hp0.2.1 rfl ?_
          refine jc_if_ne 39 rfl rfl (fun h5 => ?_) (fun h5 => ?_)
          · refine j_run 40 2 rfl ?_
            refine j_gr 42 0 rfl rfl hp0.1 rfl ?_
            refine j_run 43 3 rfl ?_
            refine j_ald 46 rfl hp0.2.1 rfl ?_
            refine jc_icmp_le 47 rfl rfl (fun h6 => ?_) (fun h6 => ?_)
            · refine j_run 48 1 rfl ?_
              exact j_zret 49 rfl rfl (by decide) rfl
            · refine j_run 50 1 rfl ?_
              refine j_goto 51 rfl rfl ?_
              exact j_weak (leP_s (leP_s (leP_n (leP_s (leP_s (leP_n (leP_z))))))) (ih (bw (x4 + 1)) _)
          · refine j_run 50 1 rfl ?_
            refine j_goto 51 rfl rfl ?_
            exact j_weak (leP_s (leP_s (leP_n (leP_s (leP_s (leP_n (leP_z))))))) (ih (bw (x4 + 1)) _)
      · refine j_run 50 1 rfl ?_
        refine j_goto 51 rfl rfl ?_
        exact j_weak (leP_s (leP_s (leP_n (leP_s (leP_s (leP_n (leP_z))))))) (ih (bw (x4 + 1)) _)
    · refine j_run 52 1 rfl ?_
      exact j_zret 53 rfl rfl (by decide) rfl
theorem eX11_canBe {X : Cx} {ads : List Nat} {sk : List Sk} (hA : ads.length = sk.length ∧ sk.length ≤ 1000) (hp0 : ocM sk) (x1 : Int) (x2 : Int) (σ : Sg) : CF X mX11_canBe ads sk [.inr (some 84), .inl x1, .inl x2] σ wE (fX11_canBe x1 x2 σ) := by
  refine CF.of ⟨pX11_canBe_ok, tbX11_ok, hA.1, hA.2⟩ (plainFor_of_name plX11) (Nat.le_of_ble_eq_true rfl) ?_
  show jX11_canBe X ads sk (0, [some (.inr (some 84)), some (.inl x1), some (.inl x2), none, none, none], [], σ) (fX11_canBe x1 x2 σ)
  unfold fX11_canBe
  refine j_run 0 3 rfl ?_
  refine j_cv 3 55 2 rfl rfl mwX11_foundOf hp0.1 rfl rfl (eX11_foundOf hA hp0 x1 x2 _) rfl rfl (rok rfl rfl) (Nat.le_of_ble_eq_true rfl) (fun q1 _ h1 => ?_)
  refine j_run 4 3 rfl ?_
  exact j_weak (leP_s (leP_s (leP_n (leP_s (leP_s (leP_n (leP_z))))))) (JX11_canBe_L10 hA hp0 x1 q1.1 FU 0 _)
abbrev jX11_whoBy (X : Cx) (ads : List Nat) (sk : List Sk) (ps : PS) (res : Option (Int × Sg)) : Prop := J X mX11_whoBy pX11_whoBy tbX11 (rmD 7 0 0) 0 0 E0 (fun a => FM X mX11_whoBy ads sk (wE a)) ads sk ps res
theorem JX11_whoBy_L4 {X : Cx} {ads : List Nat} {sk : List Sk} (hA : ads.length = sk.length ∧ sk.length ≤ 1000) (hp0 : ocM sk) (x1 : Int) : ∀ (n : Nat) (x2 : Int) (x3 : Int) (σ : Sg), jX11_whoBy X ads sk (4, [some (.inr (some 84)), some (.inl x1), some (.inl x2), some (.inl x3)], [], σ) (fX11_whoBy_L4 x1 n x2 x3 σ) := by
  intro n
  induction n with
  | zero => intro x2 x3 σ; exact j_none
  | succ n ih =>
    intro x2 x3 σ
    rw [fX11_whoBy_L4]
    refine j_run 4 2 rfl ?_
    refine j_gr 6 0 rfl rfl hp0.1 rfl ?_
    refine j_run 7 1 rfl ?_
    refine j_ald0 8 rfl hp0.2.1 (by decide) ?_
    refine jc_icmp_ge 9 rfl rfl (fun h1 => ?_) (fun h1 => ?_)
    · refine j_run 10 4 rfl ?_
      refine j_cv 14 36 2 rfl rfl mwX11_areUnlike hp0.1 rfl rfl (eX11_areUnlike hA hp0 x1 x3 _) rfl rfl (rok rfl rfl) (Nat.le_of_ble_eq_true rfl) (fun r2 _ h2 => ?_)
      refine jc_if_eq 15 rfl rfl (fun h3 => ?_) (fun h3 => ?_)
      · refine j_run 25 1 rfl ?_
        refine j_run 26 3 rfl ?_
        refine j_goto 29 rfl rfl ?_
        exact j_weak (leP_s (leP_s (leP_s (leP_s (leP_z))))) (ih (bor x2 0) (bw (x3 + 1)) _)
      · refine j_run 16 3 rfl ?_
        refine j_cv 19 86 2 rfl rfl mwX11_canBe hp0.1 rfl rfl (eX11_canBe hA hp0 x1 x3 _) rfl rfl (rok rfl rfl) (Nat.le_of_ble_eq_true rfl) (fun q4 _ h4 => ?_)
        refine jc_if_eq 20 rfl rfl (fun h5 => ?_) (fun h5 => ?_)
        · refine j_run 25 1 rfl ?_
          refine j_run 26 3 rfl ?_
          refine j_goto 29 rfl rfl ?_
          exact j_weak (leP_s (leP_s (leP_s (leP_s (leP_z))))) (ih (bor x2 0) (bw (x3 + 1)) _)
        · refine j_run 21 3 rfl ?_
          refine j_goto 24 rfl rfl ?_
          refine j_run 26 3 rfl ?_
          refine j_goto 29 rfl rfl ?_
          exact j_weak (leP_s (leP_s (leP_s (leP_s (leP_z))))) (ih (bor x2 (bshl 1 x3)) (bw (x3 + 1)) _)
    · refine j_run 30 1 rfl ?_
      exact j_iret 31 rfl rfl rfl
theorem eX11_whoBy {X : Cx} {ads : List Nat} {sk : List Sk} (hA : ads.length = sk.length ∧ sk.length ≤ 1000) (hp0 : ocM sk) (x1 : Int) (σ : Sg) : CF X mX11_whoBy ads sk [.inr (some 84), .inl x1] σ wE (fX11_whoBy x1 σ) := by
  refine CF.of ⟨pX11_whoBy_ok, tbX11_ok, hA.1, hA.2⟩ (plainFor_of_name plX11) (Nat.le_of_ble_eq_true rfl) ?_
  show jX11_whoBy X ads sk (0, [some (.inr (some 84)), some (.inl x1), none, none], [], σ) (fX11_whoBy x1 σ)
  unfold fX11_whoBy
  refine j_run 0 4 rfl ?_
  exact j_weak (leP_s (leP_s (leP_s (leP_s (leP_z))))) (JX11_whoBy_L4 hA hp0 x1 FU 0 0 _)
abbrev jX11_who (X : Cx) (ads : List Nat) (sk : List Sk) (ps : PS) (res : Option (Int × Sg)) : Prop := J X mX11_who pX11_who tbX11 (rmD 8 0 0) 0 0 E0 (fun a => FM X mX11_who ads sk (wE a)) ads sk ps res
theorem eX11_who {X : Cx} {ads : List Nat} {sk : List Sk} (hA : ads.length = sk.length ∧ sk.length ≤ 1000) (hp0 : ocM sk) (x1 : Int) (σ : Sg) : CF X mX11_who ads sk [.inr (some 84), .inl x1] σ wE (fX11_who x1 σ) := by
  refine CF.of ⟨pX11_who_ok, tbX11_ok, hA.1, hA.2⟩ (plainFor_of_name plX11) (Nat.le_of_ble_eq_true rfl) ?_
  show jX11_who X ads sk (0, [some (.inr (some 84)), some (.inl x1)], [], σ) (fX11_who x1 σ)
  unfold fX11_who
  refine j_run 0 2 rfl ?_
  refine j_cvT 2 3 1 rfl rfl mwX11_isPerson hp0.1 rfl rfl (eX11_isPerson hA hp0 x1 _) rfl rfl (rok rfl rfl) (Nat.le_of_ble_eq_true rfl) (fun h1 => ?_)
  refine jc_if_eq 3 rfl rfl (fun h2 => ?_) (fun h2 => ?_)
  · refine j_run 8 1 rfl ?_
    exact j_iret 9 rfl rfl rfl
  · refine j_run 4 2 rfl ?_
    refine j_cv 6 87 1 rfl rfl mwX11_whoBy hp0.1 rfl rfl (eX11_whoBy hA hp0 x1 _) rfl rfl (rok rfl rfl) (Nat.le_of_ble_eq_true rfl) (fun q3 _ h3 => ?_)
    refine j_goto 7 rfl rfl ?_
    exact j_iret 9 rfl rfl rfl
abbrev jX11_mostAlike (X : Cx) (ads : List Nat) (sk : List Sk) (ps : PS) (res : Option (Int × Sg)) : Prop := J X mX11_mostAlike pX11_mostAlike tbX11 (rmD 6 0 0) 0 0 E0 (fun a => FM X mX11_mostAlike ads sk (wE a)) ads sk ps res
theorem JX11_mostAlike_L2 {X : Cx} {ads : List Nat} {sk : List Sk} (hA : ads.length = sk.length ∧ sk.length ≤ 1000) (hp0 : ocM sk) (x1 : Int) (x2 : Int) (k21 : Sg → Option (Int × Sg)) (hk21 : ∀  (σ : Sg), jX11_mostAlike X ads sk (21, [some (.inr (some 84)), some (.inl x1), some (.inl x2), none, none, none], [], σ) (k21 σ)) : ∀ (n : Nat) (x3 : Int) (σ : Sg), jX11_mostAlike X ads sk (2, [some (.inr (some 84)), some (.inl x1), some (.inl x2), some (.inl x3), none, none], [], σ) (fX11_mostAlike_L2 k21 x1 x2 n x3 σ) := by
  intro n
  induction n with
  | zero => intro x3 σ; exact j_none
  | succ n ih =>
    intro x3 σ
    rw [fX11_mostAlike_L2]
    refine j_run 2 2 rfl ?_
    refine jc_icmp_gt 4 rfl rfl (fun h1 => ?_) (fun h1 => ?_)
    · exact j_weak (leP_s (leP_s (leP_s (leP_n (leP_n (leP_n (leP_z))))))) (hk21 _)
    · refine j_run 5 1 rfl ?_
      refine j_gr 6 31 rfl rfl hp0.1 rfl ?_
      refine j_run 7 2 rfl ?_
      refine j_ast 9 rfl hp0.2.2.2.2.2.2.2.2.2.2.2.2.2.2.2.2.1 rfl ?_
      refine j_run 10 1 rfl ?_
      refine j_goto 11 rfl rfl ?_
      exact j_weak (leP_s (leP_s (leP_s (leP_s (leP_n (leP_n (leP_z))))))) (ih (bw (x3 + 1)) _)
theorem JX11_mostAlike_L26 {X : Cx} {ads : List Nat} {sk : List Sk} (hA : ads.length = sk.length ∧ sk.length ≤ 1000) (hp0 : ocM sk) (x1 : Int) (x2 : Int) : ∀ (n : Nat) (x3 : Int) (x4 : Int) (σ : Sg), jX11_mostAlike X ads sk (26, [some (.inr (some 84)), some (.inl x1), some (.inl x2), some (.inl x3), some (.inl x4), none], [], σ) (fX11_mostAlike_L26 x1 x2 n x3 x4 σ) := by
  intro n
  induction n with
  | zero => intro x3 x4 σ; exact j_none
  | succ n ih =>
    intro x3 x4 σ
    rw [fX11_mostAlike_L26]
    refine j_run 16 2 rfl ?_
    refine j_gr 18 0 rfl rfl hp0.1 rfl ?_
    refine j_run 19 1 rfl ?_
    refine j_ald0 20 rfl hp0.2.1 (by decide) ?_
    refine jc_icmp_ge 21 rfl rfl (fun h3 => ?_) (fun h3 => ?_)
    · refine j_run 22 5 rfl ?_
      refine jc_if_ne 27 rfl rfl (fun h4 => ?_) (fun h4 => ?_)
      · refine j_goto 28 rfl rfl ?_
        refine j_run 49 1 rfl ?_
        refine j_goto 50 rfl rfl ?_
        exact j_weak (leP_s (leP_s (leP_s (leP_s (leP_s (leP_n (leP_z))))))) (ih x3 (bw (x4 + 1)) _)
      · refine j_run 29 3 rfl ?_
        refine j_cv 32 55 2 rfl rfl mwX11_foundOf hp0.1 rfl rfl (eX11_foundOf hA hp0 x1 x4 _) rfl rfl (rok rfl rfl) (Nat.le_of_ble_eq_true rfl) (fun q5 _ h5 => ?_)
        refine j_run 33 2 rfl ?_
        refine j_gr 35 31 rfl rfl hp0.1 rfl ?_
        refine j_run 36 2 rfl ?_
        refine j_ald 38 rfl hp0.2.2.2.2.2.2.2.2.2.2.2.2.2.2.2.2.1 rfl ?_
        refine j_run 39 2 rfl ?_
        refine j_ast 41 rfl hp0.2.2.2.2.2.2.2.2.2.2.2.2.2.2.2.2.1 rfl ?_
        refine j_run 42 2 rfl ?_
        refine j_gr 44 31 rfl rfl hp0.1 rfl ?_
        refine j_run 45 1 rfl ?_
        refine j_ald 46 rfl hp0.2.2.2.2.2.2.2.2.2.2.2.2.2.2.2.2.1 rfl ?_
        refine j_csT 47 50 2 rfl rfl mwX11_greater (eX11_greater hA x3 (rd (wr q5.2 100 q5.1 (bw ((rd q5.2 100 q5.1) + 1))) 100 q5.1) _) rfl rfl (rok rfl rfl) (Nat.le_of_ble_eq_true rfl) (fun h6 => ?_)
        refine j_run 48 1 rfl ?_
        refine j_run 49 1 rfl ?_
        refine j_goto 50 rfl rfl ?_
        exact j_weak (leP_s (leP_s (leP_s (leP_s (leP_s (leP_n (leP_z))))))) (ih (fX11_greater x3 (rd (wr q5.2 100 q5.1 (bw ((rd q5.2 100 q5.1) + 1))) 100 q5.1)) (bw (x4 + 1)) _)
    · refine j_run 51 1 rfl ?_
      exact j_iret 52 rfl rfl rfl
theorem eX11_mostAlike {X : Cx} {ads : List Nat} {sk : List Sk} (hA : ads.length = sk.length ∧ sk.length ≤ 1000) (hp0 : ocM sk) (x1 : Int) (x2 : Int) (σ : Sg) : CF X mX11_mostAlike ads sk [.inr (some 84), .inl x1, .inl x2] σ wE (fX11_mostAlike x1 x2 σ) := by
  refine CF.of ⟨pX11_mostAlike_ok, tbX11_ok, hA.1, hA.2⟩ (plainFor_of_name plX11) (Nat.le_of_ble_eq_true rfl) ?_
  show jX11_mostAlike X ads sk (0, [some (.inr (some 84)), some (.inl x1), some (.inl x2), none, none, none], [], σ) (fX11_mostAlike x1 x2 σ)
  unfold fX11_mostAlike
  refine j_run 0 2 rfl ?_
  refine j_weak (leP_s (leP_s (leP_s (leP_s (leP_n (leP_n (leP_z))))))) (JX11_mostAlike_L2 hA hp0 x1 x2 _ (fun s2 => ?_) FU 0 _)
  refine j_run 12 4 rfl ?_
  exact j_weak (leP_s (leP_s (leP_s (leP_s (leP_s (leP_n (leP_z))))))) (JX11_mostAlike_L26 hA hp0 x1 x2 FU 0 0 _)
abbrev jX11_ask (X : Cx) (ads : List Nat) (sk : List Sk) (ps : PS) (res : Option (Int × Sg)) : Prop := J X mX11_ask pX11_ask tbX11 (rmD 8 0 0) 0 0 E0 (fun a => FM X mX11_ask ads sk (wE a)) ads sk ps res
theorem JX11_ask_L38 {X : Cx} {ads : List Nat} {sk : List Sk} (hA : ads.length = sk.length ∧ sk.length ≤ 1000) (hp0 : ocM sk) (x1 : Int) (x2 : Int) : ∀ (n : Nat) (x3 : Int) (x4 : Int) (x5 : Int) (σ : Sg), jX11_ask X ads sk (38, [some (.inr (some 84)), some (.inl x1), some (.inl x2), some (.inl x3), some (.inl x4), some (.inl x5)], [], σ) (fX11_ask_L38 x1 x2 n x3 x4 x5 σ) := by
  intro n
  induction n with
  | zero => intro x3 x4 x5 σ; exact j_none
  | succ n ih =>
    intro x3 x4 x5 σ
    rw [fX11_ask_L38]
    refine j_run 22 2 rfl ?_
    refine j_gr 24 0 rfl rfl hp0.1 rfl ?_
    refine j_run 25 1 rfl ?_
    refine j_ald0 26 rfl hp0.2.1 (by decide) ?_
    refine jc_icmp_ge 27 rfl rfl (fun h7 => ?_) (fun h7 => ?_)
    · refine j_run 28 2 rfl ?_
      refine jc_icmp_eq 30 rfl rfl (fun h8 => ?_) (fun h8 => ?_)
      · refine j_run 58 1 rfl ?_
        refine j_goto 59 rfl rfl ?_
        exact j_weak (leP_s (leP_s (leP_s (leP_s (leP_s (leP_s (leP_z))))))) (ih x3 x4 (bw (x5 + 1)) _)
      · refine j_run 31 1 rfl ?_
        refine j_gr 32 0 rfl rfl hp0.1 rfl ?_
        refine j_run 33 3 rfl ?_
        refine j_ald 36 rfl hp0.2.1 rfl ?_
        refine j_run 37 1 rfl ?_
        refine j_gr 38 0 rfl rfl hp0.1 rfl ?_
        refine j_run 39 3 rfl ?_
        refine j_ald 42 rfl hp0.2.1 rfl ?_
        refine jc_icmp_ne 43 rfl rfl (fun h9 => ?_) (fun h9 => ?_)
        · refine j_run 44 3 rfl ?_
          refine j_cv 47 89 2 rfl rfl mwX11_mostAlike hp0.1 rfl rfl (eX11_mostAlike hA hp0 x5 x2 _) rfl rfl (rok rfl rfl) (Nat.le_of_ble_eq_true rfl) (fun q10 _ h10 => ?_)
          refine j_run 48 1 rfl ?_
          refine jc_icmp_lt 49 rfl rfl (fun h11 => ?_) (fun h11 => ?_)
          · refine j_run 51 3 rfl ?_
            refine j_cv 54 89 2 rfl rfl mwX11_mostAlike hp0.1 rfl rfl (eX11_mostAlike hA hp0 x5 x2 _) rfl rfl (rok rfl rfl) (Nat.le_of_ble_eq_true rfl) (fun q12 _ h12 => ?_)
            refine j_run 55 3 rfl ?_
            refine j_run 58 1 rfl ?_
            refine j_goto 59 rfl rfl ?_
            exact j_weak (leP_s (leP_s (leP_s (leP_s (leP_s (leP_s (leP_z))))))) (ih x5 q12.1 (bw (x5 + 1)) _)
          · refine j_goto 50 rfl rfl ?_
            refine j_run 58 1 rfl ?_
            refine j_goto 59 rfl rfl ?_
            exact j_weak (leP_s (leP_s (leP_s (leP_s (leP_s (leP_s (leP_z))))))) (ih x3 x4 (bw (x5 + 1)) _)
        · refine j_run 58 1 rfl ?_
          refine j_goto 59 rfl rfl ?_
          exact j_weak (leP_s (leP_s (leP_s (leP_s (leP_s (leP_s (leP_z))))))) (ih x3 x4 (bw (x5 + 1)) _)
    · refine j_run 60 1 rfl ?_
      exact j_iret 61 rfl rfl rfl
theorem eX11_ask {X : Cx} {ads : List Nat} {sk : List Sk} (hA : ads.length = sk.length ∧ sk.length ≤ 1000) (hp0 : ocM sk) (x1 : Int) (σ : Sg) : CF X mX11_ask ads sk [.inr (some 84), .inl x1] σ wE (fX11_ask x1 σ) := by
  refine CF.of ⟨pX11_ask_ok, tbX11_ok, hA.1, hA.2⟩ (plainFor_of_name plX11) (Nat.le_of_ble_eq_true rfl) ?_
  show jX11_ask X ads sk (0, [some (.inr (some 84)), some (.inl x1), none, none, none, none], [], σ) (fX11_ask x1 σ)
  unfold fX11_ask
  refine j_run 0 2 rfl ?_
  refine j_cvT 2 3 1 rfl rfl mwX11_isPerson hp0.1 rfl rfl (eX11_isPerson hA hp0 x1 _) rfl rfl (rok rfl rfl) (Nat.le_of_ble_eq_true rfl) (fun h1 => ?_)
  refine jc_if_eq 3 rfl rfl (fun h2 => ?_) (fun h2 => ?_)
  · refine j_run 10 1 rfl ?_
    exact j_iret 11 rfl rfl rfl
  · refine j_run 4 2 rfl ?_
    refine j_cv 6 87 1 rfl rfl mwX11_whoBy hp0.1 rfl rfl (eX11_whoBy hA hp0 x1 _) rfl rfl (rok rfl rfl) (Nat.le_of_ble_eq_true rfl) (fun q3 _ h3 => ?_)
    refine j_cs 7 88 1 rfl rfl mwX11_count (eX11_count hA q3.1 _) rfl rfl (rok rfl rfl) (Nat.le_of_ble_eq_true rfl) (fun r4 _ h4 => ?_)
    refine j_run 8 1 rfl ?_
    refine jc_icmp_ge 9 rfl rfl (fun h5 => ?_) (fun h5 => ?_)
    · refine j_run 10 1 rfl ?_
      exact j_iret 11 rfl rfl rfl
    · refine j_run 12 2 rfl ?_
      refine j_cv 14 87 1 rfl rfl mwX11_whoBy hp0.1 rfl rfl (eX11_whoBy hA hp0 x1 _) rfl rfl (rok rfl rfl) (Nat.le_of_ble_eq_true rfl) (fun q6 _ h6 => ?_)
      refine j_run 15 7 rfl ?_
      exact j_weak (leP_s (leP_s (leP_s (leP_s (leP_s (leP_s (leP_z))))))) (JX11_ask_L38 hA hp0 x1 q6.1 FU (-1) 100000 0 _)
abbrev jX11_isSafe (X : Cx) (ads : List Nat) (sk : List Sk) (σ : Sg) (ps : PS) (res : Option (Int)) : Prop := J X mX11_isSafe pX11_isSafe tbX11 (rmD 3 0 0) 0 0 E0 (fun a => FM X mX11_isSafe ads sk ((wP σ) a)) ads sk ps res
theorem eX11_isSafe {X : Cx} {ads : List Nat} {sk : List Sk} (hA : ads.length = sk.length ∧ sk.length ≤ 1000) (hp0 : ocM sk) (x1 : Int) (σ : Sg) : CF X mX11_isSafe ads sk [.inr (some 84), .inl x1] σ (wP σ) (fX11_isSafe x1 σ) := by
  refine CF.of ⟨pX11_isSafe_ok, tbX11_ok, hA.1, hA.2⟩ (plainFor_of_name plX11) (Nat.le_of_ble_eq_true rfl) ?_
  show jX11_isSafe X ads sk σ (0, [some (.inr (some 84)), some (.inl x1)], [], σ) (fX11_isSafe x1 σ)
  unfold fX11_isSafe
  refine j_run 0 2 rfl ?_
  refine jc_icmp_eq 2 rfl rfl (fun h1 => ?_) (fun h1 => ?_)
  · refine j_run 20 1 rfl ?_
    exact j_zret 21 rfl rfl (by decide) rfl
  · refine j_run 3 2 rfl ?_
    refine j_cvT 5 2 1 rfl rfl mwX11_isField hp0.1 rfl rfl (eX11_isField hA hp0 x1 _) rfl rfl (rok rfl rfl) (Nat.le_of_ble_eq_true rfl) (fun h2 => ?_)
    refine jc_if_eq 6 rfl rfl (fun h3 => ?_) (fun h3 => ?_)
    · refine j_run 20 1 rfl ?_
      exact j_zret 21 rfl rfl (by decide) rfl
    · refine j_run 7 1 rfl ?_
      refine j_gr 8 0 rfl rfl hp0.1 rfl ?_
      refine j_run 9 3 rfl ?_
      refine j_ald 12 rfl hp0.2.1 rfl ?_
      refine j_run 13 1 rfl ?_
      refine j_gr 14 0 rfl rfl hp0.1 rfl ?_
      refine j_run 15 1 rfl ?_
      refine j_ald0 16 rfl hp0.2.1 (by decide) ?_
      refine jc_icmp_ge 17 rfl rfl (fun h4 => ?_) (fun h4 => ?_)
      · refine j_run 18 1 rfl ?_
        refine j_goto 19 rfl rfl ?_
        exact j_zret 21 rfl rfl (by decide) rfl
      · refine j_run 20 1 rfl ?_
        exact j_zret 21 rfl rfl (by decide) rfl
abbrev jX11_safe (X : Cx) (ads : List Nat) (sk : List Sk) (ps : PS) (res : Option (Int × Sg)) : Prop := J X mX11_safe pX11_safe tbX11 (rmD 4 0 0) 0 0 E0 (fun a => FM X mX11_safe ads sk (wE a)) ads sk ps res
theorem JX11_safe_L20 {X : Cx} {ads : List Nat} {sk : List Sk} (hA : ads.length = sk.length ∧ sk.length ≤ 1000) (hp0 : ocM sk) (x1 : Int) (x2 : Int) (k39 : Sg → Option (Int × Sg)) (hk39 : ∀  (σ : Sg), jX11_safe X ads sk (39, [some (.inr (some 84)), some (.inl x1), some (.inl x2), none, none, none, none], [], σ) (k39 σ)) : ∀ (n : Nat) (x3 : Int) (σ : Sg), jX11_safe X ads sk (20, [some (.inr (some 84)), some (.inl x1), some (.inl x2), some (.inl x3), none, none, none], [], σ) (fX11_safe_L20 k39 x1 x2 n x3 σ) := by
  intro n
  induction n with
  | zero => intro x3 σ; exact j_none
  | succ n ih =>
    intro x3 σ
    rw [fX11_safe_L20]
    refine j_run 12 2 rfl ?_
    refine jc_icmp_ge 14 rfl rfl (fun h5 => ?_) (fun h5 => ?_)
    · refine j_run 15 1 rfl ?_
      refine j_gr 16 32 rfl rfl hp0.1 rfl ?_
      refine j_run 17 2 rfl ?_
      refine j_ast 19 rfl hp0.2.2.2.2.2.2.2.2.2.2.2.2.2.2.2.2.2.1 rfl ?_
      refine j_run 20 1 rfl ?_
      refine j_goto 21 rfl rfl ?_
      exact j_weak (leP_s (leP_s (leP_s (leP_s (leP_n (leP_n (leP_n (leP_z)))))))) (ih (bw (x3 + 1)) _)
    · exact j_weak (leP_s (leP_s (leP_s (leP_n (leP_n (leP_n (leP_n (leP_z)))))))) (hk39 _)
theorem JX11_safe_L67 {X : Cx} {ads : List Nat} {sk : List Sk} (hA : ads.length = sk.length ∧ sk.length ≤ 1000) (hp0 : ocM sk) (x2 : Int) (x4 : Int) (k58 : Int → Int → Sg → Option (Int × Sg)) (hk58 : ∀ (x3 : Int) (x4 : Int) (σ : Sg), jX11_safe X ads sk (58, [some (.inr (some 84)), none, some (.inl x2), some (.inl x3), some (.inl x4), none, none], [], σ) (k58 x3 x4 σ)) : ∀ (n : Nat) (x3 : Int) (x5 : Int) (σ : Sg), jX11_safe X ads sk (67, [some (.inr (some 84)), none, some (.inl x2), some (.inl x3), some (.inl x4), some (.inl x5), none], [], σ) (fX11_safe_L67 k58 x2 x4 n x3 x5 σ) := by
  intro n
  induction n with
  | zero => intro x3 x5 σ; exact j_none
  | succ n ih =>
    intro x3 x5 σ
    rw [fX11_safe_L67]
    refine j_run 41 2 rfl ?_
    refine jc_icmp_ge 43 rfl rfl (fun h8 => ?_) (fun h8 => ?_)
    · refine j_run 44 2 rfl ?_
      refine j_gr 46 33 rfl rfl hp0.1 rfl ?_
      refine j_run 47 1 rfl ?_
      refine j_ald 48 rfl hp0.2.2.2.2.2.2.2.2.2.2.2.2.2.2.2.2.2.2.1 rfl ?_
      refine j_run 49 1 rfl ?_
      refine j_cvT 50 60 2 rfl rfl mwX11_wentTo hp0.1 rfl rfl (eX11_wentTo hA hp0 (rd σ 102 x4) x5 _) rfl rfl (rok rfl rfl) (Nat.le_of_ble_eq_true rfl) (fun h9 => ?_)
      refine j_run 51 3 rfl ?_
      refine j_cv 54 90 1 rfl rfl mwX11_isSafe hp0.1 rfl rfl (eX11_isSafe hA hp0 (fX11_wentTo (rd σ 102 x4) x5 σ) _) rfl rfl (rok rfl rfl) (Nat.le_of_ble_eq_true rfl) (fun r10 _ h10 => ?_)
      refine jc_if_eq 55 rfl rfl (fun h11 => ?_) (fun h11 => ?_)
      · refine j_run 82 1 rfl ?_
        refine j_goto 83 rfl rfl ?_
        exact j_weak (leP_s (leP_n (leP_s (leP_s (leP_s (leP_s (leP_n (leP_z)))))))) (ih x3 (bw (x5 + 1)) _)
      · refine j_run 56 1 rfl ?_
        refine j_gr 57 32 rfl rfl hp0.1 rfl ?_
        refine j_run 58 1 rfl ?_
        refine j_ald 59 rfl hp0.2.2.2.2.2.2.2.2.2.2.2.2.2.2.2.2.2.1 rfl ?_
        refine j_run 60 1 rfl ?_
        refine jc_icmp_eq 61 rfl rfl (fun h12 => ?_) (fun h12 => ?_)
        · refine j_run 63 1 rfl ?_
          refine j_gr 64 32 rfl rfl hp0.1 rfl ?_
          refine j_run 65 2 rfl ?_
          refine j_gr 67 32 rfl rfl hp0.1 rfl ?_
          refine j_run 68 1 rfl ?_
          refine j_gr 69 33 rfl rfl hp0.1 rfl ?_
          refine j_run 70 1 rfl ?_
          refine j_ald 71 rfl hp0.2.2.2.2.2.2.2.2.2.2.2.2.2.2.2.2.2.2.1 rfl ?_
          refine j_ald 72 rfl hp0.2.2.2.2.2.2.2.2.2.2.2.2.2.2.2.2.2.1 rfl ?_
          refine j_run 73 2 rfl ?_
          refine j_ast 75 rfl hp0.2.2.2.2.2.2.2.2.2.2.2.2.2.2.2.2.2.1 rfl ?_
          refine j_run 76 1 rfl ?_
          refine j_gr 77 33 rfl rfl hp0.1 rfl ?_
          refine j_run 78 2 rfl ?_
          refine j_ast 80 rfl hp0.2.2.2.2.2.2.2.2.2.2.2.2.2.2.2.2.2.2.1 rfl ?_
          refine j_run 81 1 rfl ?_
          refine j_run 82 1 rfl ?_
          refine j_goto 83 rfl rfl ?_
          exact j_weak (leP_s (leP_n (leP_s (leP_s (leP_s (leP_s (leP_n (leP_z)))))))) (ih (bw (x3 + 1)) (bw (x5 + 1)) _)
        · refine j_goto 62 rfl rfl ?_
          refine j_run 82 1 rfl ?_
          refine j_goto 83 rfl rfl ?_
          exact j_weak (leP_s (leP_n (leP_s (leP_s (leP_s (leP_s (leP_n (leP_z)))))))) (ih x3 (bw (x5 + 1)) _)
    · refine j_run 84 1 rfl ?_
      refine j_goto 85 rfl rfl ?_
      exact j_weak (leP_s (leP_n (leP_s (leP_s (leP_s (leP_n (leP_n (leP_z)))))))) (hk58 x3 (bw (x4 + 1)) _)
theorem JX11_safe_L58 {X : Cx} {ads : List Nat} {sk : List Sk} (hA : ads.length = sk.length ∧ sk.length ≤ 1000) (hp0 : ocM sk) (x2 : Int) : ∀ (n : Nat) (x3 : Int) (x4 : Int) (σ : Sg), jX11_safe X ads sk (58, [some (.inr (some 84)), none, some (.inl x2), some (.inl x3), some (.inl x4), none, none], [], σ) (fX11_safe_L58 x2 n x3 x4 σ) := by
  intro n
  induction n with
  | zero => intro x3 x4 σ; exact j_none
  | succ n ih =>
    intro x3 x4 σ
    rw [fX11_safe_L58]
    refine j_run 36 2 rfl ?_
    refine jc_icmp_ge 38 rfl rfl (fun h7 => ?_) (fun h7 => ?_)
    · refine j_run 39 2 rfl ?_
      exact j_weak (leP_s (leP_n (leP_s (leP_s (leP_s (leP_s (leP_n (leP_z)))))))) (JX11_safe_L67 hA hp0 x2 x4 _ ih FU x3 0 _)
    · refine j_run 86 1 rfl ?_
      refine j_gr 87 32 rfl rfl hp0.1 rfl ?_
      refine j_run 88 1 rfl ?_
      refine j_ald 89 rfl hp0.2.2.2.2.2.2.2.2.2.2.2.2.2.2.2.2.2.1 rfl ?_
      exact j_iret 90 rfl rfl rfl
theorem eX11_safe {X : Cx} {ads : List Nat} {sk : List Sk} (hA : ads.length = sk.length ∧ sk.length ≤ 1000) (hp0 : ocM sk) (x1 : Int) (x2 : Int) (σ : Sg) : CF X mX11_safe ads sk [.inr (some 84), .inl x1, .inl x2] σ wE (fX11_safe x1 x2 σ) := by
  refine CF.of ⟨pX11_safe_ok, tbX11_ok, hA.1, hA.2⟩ (plainFor_of_name plX11) (Nat.le_of_ble_eq_true rfl) ?_
  show jX11_safe X ads sk (0, [some (.inr (some 84)), some (.inl x1), some (.inl x2), none, none, none, none], [], σ) (fX11_safe x1 x2 σ)
  unfold fX11_safe
  refine j_run 0 2 rfl ?_
  refine j_cv 2 90 1 rfl rfl mwX11_isSafe hp0.1 rfl rfl (eX11_isSafe hA hp0 x1 _) rfl rfl (rok rfl rfl) (Nat.le_of_ble_eq_true rfl) (fun r1 _ h1 => ?_)
  refine jc_if_eq 3 rfl rfl (fun h2 => ?_) (fun h2 => ?_)
  · refine j_run 8 1 rfl ?_
    exact j_iret 9 rfl rfl rfl
  · refine j_run 4 2 rfl ?_
    refine j_cv 6 90 1 rfl rfl mwX11_isSafe hp0.1 rfl rfl (eX11_isSafe hA hp0 x2 _) rfl rfl (rok rfl rfl) (Nat.le_of_ble_eq_true rfl) (fun r3 _ h3 => ?_)
    refine jc_if_ne 7 rfl rfl (fun h4 => ?_) (fun h4 => ?_)
    · refine j_run 8 1 rfl ?_
      exact j_iret 9 rfl rfl rfl
    · refine j_run 10 2 rfl ?_
      refine j_weak (leP_s (leP_s (leP_s (leP_s (leP_n (leP_n (leP_n (leP_z)))))))) (JX11_safe_L20 hA hp0 x1 x2 _ (fun s6 => ?_) FU 0 _)
      refine j_run 22 1 rfl ?_
      refine j_gr 23 32 rfl rfl hp0.1 rfl ?_
      refine j_run 24 2 rfl ?_
      refine j_ast 26 rfl hp0.2.2.2.2.2.2.2.2.2.2.2.2.2.2.2.2.2.1 rfl ?_
      refine j_run 27 1 rfl ?_
      refine j_gr 28 33 rfl rfl hp0.1 rfl ?_
      refine j_run 29 2 rfl ?_
      refine j_ast0 31 rfl hp0.2.2.2.2.2.2.2.2.2.2.2.2.2.2.2.2.2.2.1 (by decide) ?_
      refine j_run 32 4 rfl ?_
      exact j_weak (leP_s (leP_n (leP_s (leP_s (leP_s (leP_n (leP_n (leP_z)))))))) (JX11_safe_L58 hA hp0 x2 FU 1 0 _)
abbrev jX11_isComeTo (X : Cx) (ads : List Nat) (sk : List Sk) (ps : PS) (res : Option (Sg)) : Prop := J X mX11_isComeTo pX11_isComeTo tbX11 (rmD 0 0 0) 0 0 E0 (fun a => FM X mX11_isComeTo ads sk (wV a)) ads sk ps res
theorem eX11_isComeTo {X : Cx} {ads : List Nat} {sk : List Sk} (hA : ads.length = sk.length ∧ sk.length ≤ 1000) (hp0 : ocM sk) (x1 : Int) (x2 : Int) (σ : Sg) : CF X mX11_isComeTo ads sk [.inr (some 84), .inl x1, .inl x2] σ wV (fX11_isComeTo x1 x2 σ) := by
  refine CF.of ⟨pX11_isComeTo_ok, tbX11_ok, hA.1, hA.2⟩ (plainFor_of_name plX11) (Nat.le_of_ble_eq_true rfl) ?_
  show jX11_isComeTo X ads sk (0, [some (.inr (some 84)), some (.inl x1), some (.inl x2)], [], σ) (fX11_isComeTo x1 x2 σ)
  unfold fX11_isComeTo
  refine j_run 0 1 rfl ?_
  refine j_gr 1 32 rfl rfl hp0.1 rfl ?_
  refine j_run 2 1 rfl ?_
  refine j_ald 3 rfl hp0.2.2.2.2.2.2.2.2.2.2.2.2.2.2.2.2.2.1 rfl ?_
  refine j_run 4 1 rfl ?_
  refine jc_icmp_eq 5 rfl rfl (fun h1 => ?_) (fun h1 => ?_)
  · refine j_run 7 1 rfl ?_
    refine j_gr 8 32 rfl rfl hp0.1 rfl ?_
    refine j_run 9 2 rfl ?_
    refine j_ast 11 rfl hp0.2.2.2.2.2.2.2.2.2.2.2.2.2.2.2.2.2.1 rfl ?_
    refine j_run 12 1 rfl ?_
    refine j_gr 13 33 rfl rfl hp0.1 rfl ?_
    refine j_run 14 1 rfl ?_
    refine j_gf 15 34 rfl rfl hp0.1 rfl ?_
    refine j_run 16 1 rfl ?_
    refine j_ast 17 rfl hp0.2.2.2.2.2.2.2.2.2.2.2.2.2.2.2.2.2.2.1 rfl ?_
    refine j_run 18 2 rfl ?_
    refine j_gf 20 34 rfl rfl hp0.1 rfl ?_
    refine j_run 21 2 rfl ?_
    refine j_pf 23 34 rfl rfl hp0.1 rfl rfl (Or.inl rfl) ?_
    exact j_vret 24 rfl rfl rfl
  · exact j_vret 6 rfl rfl rfl
abbrev jX11_goesIn (X : Cx) (ads : List Nat) (sk : List Sk) (ps : PS) (res : Option (Sg)) : Prop := J X mX11_goesIn pX11_goesIn tbX11 (rmD 4 0 0) 0 0 E0 (fun a => FM X mX11_goesIn ads sk (wV a)) ads sk ps res
theorem JX11_goesIn_L23 {X : Cx} {ads : List Nat} {sk : List Sk} (hA : ads.length = sk.length ∧ sk.length ≤ 1000) (hp0 : ocM sk) (x1 : Int) : ∀ (n : Nat) (x2 : Int) (σ : Sg), jX11_goesIn X ads sk (23, [some (.inr (some 84)), some (.inl x1), some (.inl x2), none], [], σ) (fX11_goesIn_L23 x1 n x2 σ) := by
  intro n
  induction n with
  | zero => intro x2 σ; exact j_none
  | succ n ih =>
    intro x2 σ
    rw [fX11_goesIn_L23]
    refine j_run 17 2 rfl ?_
    refine jc_icmp_ge 19 rfl rfl (fun h1 => ?_) (fun h1 => ?_)
    · refine j_run 20 3 rfl ?_
      refine j_cvT 23 60 2 rfl rfl mwX11_wentTo hp0.1 rfl rfl (eX11_wentTo hA hp0 x1 x2 _) rfl rfl (rok rfl rfl) (Nat.le_of_ble_eq_true rfl) (fun h2 => ?_)
      refine j_run 24 3 rfl ?_
      refine j_cv 27 90 1 rfl rfl mwX11_isSafe hp0.1 rfl rfl (eX11_isSafe hA hp0 (fX11_wentTo x1 x2 σ) _) rfl rfl (rok rfl rfl) (Nat.le_of_ble_eq_true rfl) (fun r3 _ h3 => ?_)
      refine jc_if_eq 28 rfl rfl (fun h4 => ?_) (fun h4 => ?_)
      · refine j_run 53 1 rfl ?_
        refine j_goto 54 rfl rfl ?_
        exact j_weak (leP_s (leP_s (leP_s (leP_n (leP_z))))) (ih (bw (x2 + 1)) _)
      · refine j_run 29 1 rfl ?_
        refine j_gr 30 36 rfl rfl hp0.1 rfl ?_
        refine j_run 31 7 rfl ?_
        refine j_rem0 38 rfl (by decide) ?_
        refine j_run 39 1 rfl ?_
        refine j_ald 40 rfl hp0.2.2.2.2.2.2.2.2.2.2.2.2.2.2.2.2.2.2.2.2.1 rfl ?_
        refine j_run 41 1 rfl ?_
        refine jc_icmp_ne 42 rfl rfl (fun h5 => ?_) (fun h5 => ?_)
        · refine j_run 43 9 rfl ?_
          refine j_cv 52 91 2 rfl rfl mwX11_isComeTo hp0.1 rfl rfl (eX11_isComeTo hA hp0 (bw ((bw (2 * (fX11_wentTo x1 x2 σ))) + 1)) (bw (2 * x1)) _) rfl rfl (rok rfl rfl) (Nat.le_of_ble_eq_true rfl) (fun s6 _ h6 => ?_)
          refine j_run 53 1 rfl ?_
          refine j_goto 54 rfl rfl ?_
          exact j_weak (leP_s (leP_s (leP_s (leP_n (leP_z))))) (ih (bw (x2 + 1)) _)
        · refine j_run 53 1 rfl ?_
          refine j_goto 54 rfl rfl ?_
          exact j_weak (leP_s (leP_s (leP_s (leP_n (leP_z))))) (ih (bw (x2 + 1)) _)
    · exact j_vret 55 rfl rfl rfl
theorem JX11_goesIn_J21 {X : Cx} {ads : List Nat} {sk : List Sk} (hA : ads.length = sk.length ∧ sk.length ≤ 1000) (hp0 : ocM sk) (x1 : Int) (σ : Sg) : jX11_goesIn X ads sk (21, [some (.inr (some 84)), some (.inl x1), none, none], [], σ) (fX11_goesIn_J21 x1 σ) := by
  unfold fX11_goesIn_J21
  refine j_run 15 2 rfl ?_
  exact j_weak (leP_s (leP_s (leP_s (leP_n (leP_z))))) (JX11_goesIn_L23 hA hp0 x1 FU 0 _)
theorem eX11_goesIn {X : Cx} {ads : List Nat} {sk : List Sk} (hA : ads.length = sk.length ∧ sk.length ≤ 1000) (hp0 : ocM sk) (x1 : Int) (σ : Sg) : CF X mX11_goesIn ads sk [.inr (some 84), .inl x1] σ wV (fX11_goesIn x1 σ) := by
  refine CF.of ⟨pX11_goesIn_ok, tbX11_ok, hA.1, hA.2⟩ (plainFor_of_name plX11) (Nat.le_of_ble_eq_true rfl) ?_
  show jX11_goesIn X ads sk (0, [some (.inr (some 84)), some (.inl x1), none, none], [], σ) (fX11_goesIn x1 σ)
  unfold fX11_goesIn
  refine j_run 0 1 rfl ?_
  refine j_gr 1 35 rfl rfl hp0.1 rfl ?_
  refine j_run 2 1 rfl ?_
  refine j_ald 3 rfl hp0.2.2.2.2.2.2.2.2.2.2.2.2.2.2.2.2.2.2.2.1 rfl ?_
  refine jc_if_ne 4 rfl rfl (fun h7 => ?_) (fun h7 => ?_)
  · refine j_run 5 9 rfl ?_
    refine j_cv 14 91 2 rfl rfl mwX11_isComeTo hp0.1 rfl rfl (eX11_isComeTo hA hp0 (bw ((bw (2 * x1)) + 1)) (bw (2 * x1)) _) rfl rfl (rok rfl rfl) (Nat.le_of_ble_eq_true rfl) (fun s8 _ h8 => ?_)
    exact j_weak (leP_s (leP_s (leP_n (leP_n (leP_z))))) (JX11_goesIn_J21 hA hp0 x1 _)
  · exact j_weak (leP_s (leP_s (leP_n (leP_n (leP_z))))) (JX11_goesIn_J21 hA hp0 x1 _)
abbrev jX11_goesOut (X : Cx) (ads : List Nat) (sk : List Sk) (ps : PS) (res : Option (Sg)) : Prop := J X mX11_goesOut pX11_goesOut tbX11 (rmD 4 0 0) 0 0 E0 (fun a => FM X mX11_goesOut ads sk (wV a)) ads sk ps res
theorem JX11_goesOut_L24 {X : Cx} {ads : List Nat} {sk : List Sk} (hA : ads.length = sk.length ∧ sk.length ≤ 1000) (hp0 : ocM sk) (x1 : Int) : ∀ (n : Nat) (x2 : Int) (σ : Sg), jX11_goesOut X ads sk (24, [some (.inr (some 84)), some (.inl x1), some (.inl x2), none], [], σ) (fX11_goesOut_L24 x1 n x2 σ) := by
  intro n
  induction n with
  | zero => intro x2 σ; exact j_none
  | succ n ih =>
    intro x2 σ
    rw [fX11_goesOut_L24]
    refine j_run 18 2 rfl ?_
    refine jc_icmp_ge 20 rfl rfl (fun h1 => ?_) (fun h1 => ?_)
    · refine j_run 21 3 rfl ?_
      refine j_cvT 24 60 2 rfl rfl mwX11_wentTo hp0.1 rfl rfl (eX11_wentTo hA hp0 x1 x2 _) rfl rfl (rok rfl rfl) (Nat.le_of_ble_eq_true rfl) (fun h2 => ?_)
      refine j_run 25 3 rfl ?_
      refine j_cv 28 90 1 rfl rfl mwX11_isSafe hp0.1 rfl rfl (eX11_isSafe hA hp0 (fX11_wentTo x1 x2 σ) _) rfl rfl (rok rfl rfl) (Nat.le_of_ble_eq_true rfl) (fun r3 _ h3 => ?_)
      refine jc_if_eq 29 rfl rfl (fun h4 => ?_) (fun h4 => ?_)
      · refine j_run 49 1 rfl ?_
        refine j_goto 50 rfl rfl ?_
        exact j_weak (leP_s (leP_s (leP_s (leP_n (leP_z))))) (ih (bw (x2 + 1)) _)
      · refine j_run 30 1 rfl ?_
        refine j_gr 31 36 rfl rfl hp0.1 rfl ?_
        refine j_run 32 5 rfl ?_
        refine j_ald 37 rfl hp0.2.2.2.2.2.2.2.2.2.2.2.2.2.2.2.2.2.2.2.2.1 rfl ?_
        refine jc_if_ne 38 rfl rfl (fun h5 => ?_) (fun h5 => ?_)
        · refine j_run 39 9 rfl ?_
          refine j_cv 48 91 2 rfl rfl mwX11_isComeTo hp0.1 rfl rfl (eX11_isComeTo hA hp0 (bw (2 * (fX11_wentTo x1 x2 σ))) (bw ((bw (2 * x1)) + 1)) _) rfl rfl (rok rfl rfl) (Nat.le_of_ble_eq_true rfl) (fun s6 _ h6 => ?_)
          refine j_run 49 1 rfl ?_
          refine j_goto 50 rfl rfl ?_
          exact j_weak (leP_s (leP_s (leP_s (leP_n (leP_z))))) (ih (bw (x2 + 1)) _)
        · refine j_run 49 1 rfl ?_
          refine j_goto 50 rfl rfl ?_
          exact j_weak (leP_s (leP_s (leP_s (leP_n (leP_z))))) (ih (bw (x2 + 1)) _)
    · exact j_vret 51 rfl rfl rfl
theorem JX11_goesOut_J22 {X : Cx} {ads : List Nat} {sk : List Sk} (hA : ads.length = sk.length ∧ sk.length ≤ 1000) (hp0 : ocM sk) (x1 : Int) (σ : Sg) : jX11_goesOut X ads sk (22, [some (.inr (some 84)), some (.inl x1), none, none], [], σ) (fX11_goesOut_J22 x1 σ) := by
  unfold fX11_goesOut_J22
  refine j_run 16 2 rfl ?_
  exact j_weak (leP_s (leP_s (leP_s (leP_n (leP_z))))) (JX11_goesOut_L24 hA hp0 x1 FU 0 _)
theorem eX11_goesOut {X : Cx} {ads : List Nat} {sk : List Sk} (hA : ads.length = sk.length ∧ sk.length ≤ 1000) (hp0 : ocM sk) (x1 : Int) (σ : Sg) : CF X mX11_goesOut ads sk [.inr (some 84), .inl x1] σ wV (fX11_goesOut x1 σ) := by
  refine CF.of ⟨pX11_goesOut_ok, tbX11_ok, hA.1, hA.2⟩ (plainFor_of_name plX11) (Nat.le_of_ble_eq_true rfl) ?_
  show jX11_goesOut X ads sk (0, [some (.inr (some 84)), some (.inl x1), none, none], [], σ) (fX11_goesOut x1 σ)
  unfold fX11_goesOut
  refine j_run 0 1 rfl ?_
  refine j_gr 1 35 rfl rfl hp0.1 rfl ?_
  refine j_run 2 1 rfl ?_
  refine j_ald 3 rfl hp0.2.2.2.2.2.2.2.2.2.2.2.2.2.2.2.2.2.2.2.1 rfl ?_
  refine j_run 4 1 rfl ?_
  refine jc_icmp_ne 5 rfl rfl (fun h7 => ?_) (fun h7 => ?_)
  · refine j_run 6 9 rfl ?_
    refine j_cv 15 91 2 rfl rfl mwX11_isComeTo hp0.1 rfl rfl (eX11_isComeTo hA hp0 (bw (2 * x1)) (bw ((bw (2 * x1)) + 1)) _) rfl rfl (rok rfl rfl) (Nat.le_of_ble_eq_true rfl) (fun s8 _ h8 => ?_)
    exact j_weak (leP_s (leP_s (leP_n (leP_n (leP_z))))) (JX11_goesOut_J22 hA hp0 x1 _)
  · exact j_weak (leP_s (leP_s (leP_n (leP_n (leP_z))))) (JX11_goesOut_J22 hA hp0 x1 _)
abbrev jX11_wayTo (X : Cx) (ads : List Nat) (sk : List Sk) (σ : Sg) (ps : PS) (res : Option (Int)) : Prop := J X mX11_wayTo pX11_wayTo tbX11 (rmD 3 0 0) 0 0 E0 (fun a => FM X mX11_wayTo ads sk ((wP σ) a)) ads sk ps res
theorem JX11_wayTo_L2 {X : Cx} {ads : List Nat} {sk : List Sk} (hA : ads.length = sk.length ∧ sk.length ≤ 1000) (hp0 : ocM sk) (σ : Sg) (x1 : Int) (x2 : Int) : ∀ (n : Nat) (x3 : Int), jX11_wayTo X ads sk σ (2, [some (.inr (some 84)), some (.inl x1), some (.inl x2), some (.inl x3)], [], σ) (fX11_wayTo_L2 σ x1 x2 n x3) := by
  intro n
  induction n with
  | zero => intro x3; exact j_none
  | succ n ih =>
    intro x3
    rw [fX11_wayTo_L2]
    refine j_run 2 3 rfl ?_
    refine j_cvT 5 60 2 rfl rfl mwX11_wentTo hp0.1 rfl rfl (eX11_wentTo hA hp0 x1 x3 _) rfl rfl (rok rfl rfl) (Nat.le_of_ble_eq_true rfl) (fun h1 => ?_)
    refine j_run 6 1 rfl ?_
    refine jc_icmp_eq 7 rfl rfl (fun h2 => ?_) (fun h2 => ?_)
    · refine j_run 10 1 rfl ?_
      exact j_iret 11 rfl rfl rfl
    · refine j_run 8 1 rfl ?_
      refine j_goto 9 rfl rfl ?_
      exact j_weak (leP_s (leP_s (leP_s (leP_s (leP_z))))) (ih (bw (x3 + 1)))
theorem eX11_wayTo {X : Cx} {ads : List Nat} {sk : List Sk} (hA : ads.length = sk.length ∧ sk.length ≤ 1000) (hp0 : ocM sk) (x1 : Int) (x2 : Int) (σ : Sg) : CF X mX11_wayTo ads sk [.inr (some 84), .inl x1, .inl x2] σ (wP σ) (fX11_wayTo x1 x2 σ) := by
  refine CF.of ⟨pX11_wayTo_ok, tbX11_ok, hA.1, hA.2⟩ (plainFor_of_name plX11) (Nat.le_of_ble_eq_true rfl) ?_
  show jX11_wayTo X ads sk σ (0, [some (.inr (some 84)), some (.inl x1), some (.inl x2), none], [], σ) (fX11_wayTo x1 x2 σ)
  unfold fX11_wayTo
  refine j_run 0 2 rfl ?_
  exact j_weak (leP_s (leP_s (leP_s (leP_s (leP_z))))) (JX11_wayTo_L2 hA hp0 σ x1 x2 FU 0)
abbrev jX11_turns (X : Cx) (ads : List Nat) (sk : List Sk) (ps : PS) (res : Option (Sg)) : Prop := J X mX11_turns pX11_turns tbX11 (rmD 4 0 0) 0 0 E0 (fun a => FM X mX11_turns ads sk (wV a)) ads sk ps res
theorem eX11_turns {X : Cx} {ads : List Nat} {sk : List Sk} (hA : ads.length = sk.length ∧ sk.length ≤ 1000) (hp0 : ocM sk) (x1 : Int) (x2 : Int) (σ : Sg) : CF X mX11_turns ads sk [.inr (some 84), .inl x1, .inl x2] σ wV (fX11_turns x1 x2 σ) := by
  refine CF.of ⟨pX11_turns_ok, tbX11_ok, hA.1, hA.2⟩ (plainFor_of_name plX11) (Nat.le_of_ble_eq_true rfl) ?_
  show jX11_turns X ads sk (0, [some (.inr (some 84)), some (.inl x1), some (.inl x2), none, none], [], σ) (fX11_turns x1 x2 σ)
  unfold fX11_turns
  refine j_run 0 2 rfl ?_
  refine j_div0 2 rfl (by decide) ?_
  refine j_run 3 3 rfl ?_
  refine j_div0 6 rfl (by decide) ?_
  refine j_run 7 3 rfl ?_
  refine jc_icmp_ne 10 rfl rfl (fun h1 => ?_) (fun h1 => ?_)
  · refine j_run 11 1 rfl ?_
    refine j_gr 12 35 rfl rfl hp0.1 rfl ?_
    refine j_run 13 3 rfl ?_
    refine j_rem0 16 rfl (by decide) ?_
    refine jc_if_ne 17 rfl rfl (fun h2 => ?_) (fun h2 => ?_)
    · refine j_run 18 1 rfl ?_
      refine j_goto 19 rfl rfl ?_
      refine j_ast 21 rfl hp0.2.2.2.2.2.2.2.2.2.2.2.2.2.2.2.2.2.2.2.1 rfl ?_
      refine j_goto 22 rfl rfl ?_
      exact j_vret 53 rfl rfl rfl
    · refine j_run 20 1 rfl ?_
      refine j_ast 21 rfl hp0.2.2.2.2.2.2.2.2.2.2.2.2.2.2.2.2.2.2.2.1 rfl ?_
      refine j_goto 22 rfl rfl ?_
      exact j_vret 53 rfl rfl rfl
  · refine j_run 23 2 rfl ?_
    refine j_rem0 25 rfl (by decide) ?_
    refine j_run 26 1 rfl ?_
    refine jc_icmp_ne 27 rfl rfl (fun h3 => ?_) (fun h3 => ?_)
    · refine j_run 28 1 rfl ?_
      refine j_gr 29 36 rfl rfl hp0.1 rfl ?_
      refine j_run 30 6 rfl ?_
      refine j_cv 36 92 2 rfl rfl mwX11_wayTo hp0.1 rfl rfl (eX11_wayTo hA hp0 (tdv x1 2) (tdv x2 2) _) rfl rfl (rok rfl rfl) (Nat.le_of_ble_eq_true rfl) (fun r4 _ h4 => ?_)
      refine j_run 37 2 rfl ?_
      refine j_ast 39 rfl hp0.2.2.2.2.2.2.2.2.2.2.2.2.2.2.2.2.2.2.2.2.1 rfl ?_
      refine j_goto 40 rfl rfl ?_
      exact j_vret 53 rfl rfl rfl
    · refine j_run 41 1 rfl ?_
      refine j_gr 42 36 rfl rfl hp0.1 rfl ?_
      refine j_run 43 6 rfl ?_
      refine j_cv 49 92 2 rfl rfl mwX11_wayTo hp0.1 rfl rfl (eX11_wayTo hA hp0 (tdv x2 2) (tdv x1 2) _) rfl rfl (rok rfl rfl) (Nat.le_of_ble_eq_true rfl) (fun r5 _ h5 => ?_)
      refine j_run 50 2 rfl ?_
      refine j_ast 52 rfl hp0.2.2.2.2.2.2.2.2.2.2.2.2.2.2.2.2.2.2.2.2.1 rfl ?_
      exact j_vret 53 rfl rfl rfl
