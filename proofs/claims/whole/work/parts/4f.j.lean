/-! each method does what its function says -/
abbrev jX11_number (X : Cx) (ads : List Nat) (sk : List Sk) (ps : PS) (res : Option (Int × Sg)) : Prop := J X mX11_number pX11_number tbX11 (rmD 13 0 0) 0 0 E0 (fun a => FM X mX11_number ads sk (wE a)) ads sk ps res
theorem eX11_number {X : Cx} {ads : List Nat} {sk : List Sk} (hA : ads.length = sk.length ∧ sk.length ≤ 1000) (hp0 : ocM sk) (x1 : Int) (x2 : Int) (x3 : Int) (σ : Sg) : CF X mX11_number ads sk [.inr (some 84), .inl x1, .inl x2, .inl x3] σ wE (fX11_number x1 x2 x3 σ) := by
  refine CF.of ⟨pX11_number_ok, tbX11_ok, hA.1, hA.2⟩ (plainFor_of_name plX11) (Nat.le_of_ble_eq_true rfl) ?_
  show jX11_number X ads sk (0, [some (.inr (some 84)), some (.inl x1), some (.inl x2), some (.inl x3)], [], σ) (fX11_number x1 x2 x3 σ)
  unfold fX11_number
  refine j_run 0 1 rfl ?_
  refine j_gf 1 7 rfl rfl hp0.1 rfl ?_
  refine j_run 2 1 rfl ?_
  refine jc_icmp_eq 3 rfl rfl (fun h1 => ?_) (fun h1 => ?_)
  · refine j_run 8 1 rfl ?_
    refine j_gf 9 8 rfl rfl hp0.1 rfl ?_
    refine j_run 10 2 rfl ?_
    refine j_csT 12 0 3 rfl rfl mwX11_isIn (eX11_isIn hA (rd σ 84 20) x2 x3 _) rfl rfl (rok rfl rfl) (Nat.le_of_ble_eq_true rfl) (fun h2 => ?_)
    refine jc_if_ne 13 rfl rfl (fun h3 => ?_) (fun h3 => ?_)
    · refine j_run 14 2 rfl ?_
      refine j_cv 16 22 1 rfl rfl mwX11_bad hp0.1 rfl rfl (eX11_bad hA hp0 2 _) rfl rfl (rok rfl rfl) (Nat.le_of_ble_eq_true rfl) (fun q4 _ h4 => ?_)
      exact j_zret 17 rfl rfl (nrR_b h4 rfl) rfl
    · refine j_run 18 1 rfl ?_
      refine j_gr 19 16 rfl rfl hp0.1 rfl ?_
      refine j_run 20 2 rfl ?_
      refine j_gf 22 8 rfl rfl hp0.1 rfl ?_
      refine j_ast 23 rfl hp0.2.2.2.2.2.2.2.1 rfl ?_
      refine j_run 24 1 rfl ?_
      refine j_cv 25 21 0 rfl rfl mwX11_next0 hp0.1 rfl rfl (eX11_next0 hA hp0 _) rfl rfl (rok rfl rfl) (Nat.le_of_ble_eq_true rfl) (fun s5 _ h5 => ?_)
      refine j_run 26 1 rfl ?_
      exact j_zret 27 rfl rfl (by decide) rfl
  · refine j_run 4 2 rfl ?_
    refine j_cv 6 22 1 rfl rfl mwX11_bad hp0.1 rfl rfl (eX11_bad hA hp0 1 _) rfl rfl (rok rfl rfl) (Nat.le_of_ble_eq_true rfl) (fun q6 _ h6 => ?_)
    exact j_zret 7 rfl rfl (nrR_b h6 rfl) rfl
abbrev jX11_told (X : Cx) (ads : List Nat) (sk : List Sk) (ps : PS) (res : Option (Int × Sg)) : Prop := J X mX11_told pX11_told tbX11 (rmD 14 0 0) 0 0 E0 (fun a => FM X mX11_told ads sk (wE a)) ads sk ps res
theorem eX11_told {X : Cx} {ads : List Nat} {sk : List Sk} (hA : ads.length = sk.length ∧ sk.length ≤ 1000) (hp0 : ocM sk) (x1 : Int) (x2 : Int) (x3 : Int) (x4 : Int) (σ : Sg) : CF X mX11_told ads sk [.inr (some 84), .inl x1, .inl x2, .inl x3, .inl x4] σ wE (fX11_told x1 x2 x3 x4 σ) := by
  refine CF.of ⟨pX11_told_ok, tbX11_ok, hA.1, hA.2⟩ (plainFor_of_name plX11) (Nat.le_of_ble_eq_true rfl) ?_
  show jX11_told X ads sk (0, [some (.inr (some 84)), some (.inl x1), some (.inl x2), some (.inl x3), some (.inl x4)], [], σ) (fX11_told x1 x2 x3 x4 σ)
  unfold fX11_told
  refine j_run 0 2 rfl ?_
  refine j_cv 2 30 1 rfl rfl mwX11_need hp0.1 rfl rfl (eX11_need hA hp0 x2 _) rfl rfl (rok rfl rfl) (Nat.le_of_ble_eq_true rfl) (fun q1 _ h1 => ?_)
  refine jc_if_eq 3 rfl rfl (fun h2 => ?_) (fun h2 => ?_)
  · refine j_run 12 1 rfl ?_
    exact j_zret 13 rfl rfl (by decide) rfl
  · refine j_run 4 4 rfl ?_
    refine j_cv 8 33 3 rfl rfl mwX11_number hp0.1 rfl rfl (eX11_number hA hp0 x1 x3 x4 _) rfl rfl (rok rfl rfl) (Nat.le_of_ble_eq_true rfl) (fun q3 _ h3 => ?_)
    refine jc_if_eq 9 rfl rfl (fun h4 => ?_) (fun h4 => ?_)
    · refine j_run 12 1 rfl ?_
      exact j_zret 13 rfl rfl (by decide) rfl
    · refine j_run 10 1 rfl ?_
      refine j_goto 11 rfl rfl ?_
      exact j_zret 13 rfl rfl (by decide) rfl
abbrev jX11_aField (X : Cx) (ads : List Nat) (sk : List Sk) (ps : PS) (res : Option (Int × Sg)) : Prop := J X mX11_aField pX11_aField tbX11 (rmD 14 0 0) 0 0 E0 (fun a => FM X mX11_aField ads sk (wE a)) ads sk ps res
theorem JX11_aField_J35 {X : Cx} {ads : List Nat} {sk : List Sk} (hA : ads.length = sk.length ∧ sk.length ≤ 1000) (hp0 : ocM sk) (x1 : Int) (σ : Sg) : jX11_aField X ads sk (35, [some (.inr (some 84)), some (.inl x1), none], [], σ) (fX11_aField_J35 x1 σ) := by
  unfold fX11_aField_J35
  refine j_run 19 4 rfl ?_
  refine j_cv 23 33 3 rfl rfl mwX11_number hp0.1 rfl rfl (eX11_number hA hp0 x1 0 63 _) rfl rfl (rok rfl rfl) (Nat.le_of_ble_eq_true rfl) (fun q3 _ h3 => ?_)
  exact j_zret 24 rfl rfl (nrR_b h3 rfl) rfl
theorem eX11_aField {X : Cx} {ads : List Nat} {sk : List Sk} (hA : ads.length = sk.length ∧ sk.length ≤ 1000) (hp0 : ocM sk) (x1 : Int) (x2 : Int) (σ : Sg) : CF X mX11_aField ads sk [.inr (some 84), .inl x1, .inl x2] σ wE (fX11_aField x1 x2 σ) := by
  refine CF.of ⟨pX11_aField_ok, tbX11_ok, hA.1, hA.2⟩ (plainFor_of_name plX11) (Nat.le_of_ble_eq_true rfl) ?_
  show jX11_aField X ads sk (0, [some (.inr (some 84)), some (.inl x1), some (.inl x2)], [], σ) (fX11_aField x1 x2 σ)
  unfold fX11_aField
  refine j_run 0 2 rfl ?_
  refine j_cv 2 30 1 rfl rfl mwX11_need hp0.1 rfl rfl (eX11_need hA hp0 x2 _) rfl rfl (rok rfl rfl) (Nat.le_of_ble_eq_true rfl) (fun q1 _ h1 => ?_)
  refine jc_if_ne 3 rfl rfl (fun h2 => ?_) (fun h2 => ?_)
  · refine j_run 4 1 rfl ?_
    exact j_zret 5 rfl rfl (by decide) rfl
  · refine j_run 6 1 rfl ?_
    refine j_gf 7 7 rfl rfl hp0.1 rfl ?_
    refine j_run 8 1 rfl ?_
    refine jc_icmp_ne 9 rfl rfl (fun h4 => ?_) (fun h4 => ?_)
    · refine j_run 10 2 rfl ?_
      refine j_gf 12 8 rfl rfl hp0.1 rfl ?_
      refine j_cvT 13 2 1 rfl rfl mwX11_isField hp0.1 rfl rfl (eX11_isField hA hp0 (rd q1.2 84 20) _) rfl rfl (rok rfl rfl) (Nat.le_of_ble_eq_true rfl) (fun h5 => ?_)
      refine jc_if_ne 14 rfl rfl (fun h6 => ?_) (fun h6 => ?_)
      · refine j_run 15 2 rfl ?_
        refine j_cv 17 22 1 rfl rfl mwX11_bad hp0.1 rfl rfl (eX11_bad hA hp0 2 _) rfl rfl (rok rfl rfl) (Nat.le_of_ble_eq_true rfl) (fun q7 _ h7 => ?_)
        exact j_zret 18 rfl rfl (nrR_b h7 rfl) rfl
      · exact j_weak (leP_s (leP_s (leP_n (leP_z)))) (JX11_aField_J35 hA hp0 x1 _)
    · exact j_weak (leP_s (leP_s (leP_n (leP_z)))) (JX11_aField_J35 hA hp0 x1 _)
abbrev jX11_aVow (X : Cx) (ads : List Nat) (sk : List Sk) (ps : PS) (res : Option (Int × Sg)) : Prop := J X mX11_aVow pX11_aVow tbX11 (rmD 15 0 0) 0 0 E0 (fun a => FM X mX11_aVow ads sk (wE a)) ads sk ps res
theorem JX11_aVow_J95 {X : Cx} {ads : List Nat} {sk : List Sk} (hA : ads.length = sk.length ∧ sk.length ≤ 1000) (hp0 : ocM sk) (x1 : Int) (σ : Sg) : jX11_aVow X ads sk (95, [some (.inr (some 84)), some (.inl x1)], [], σ) (fX11_aVow_J95 x1 σ) := by
  unfold fX11_aVow_J95
  refine j_run 55 6 rfl ?_
  refine j_gr 61 0 rfl rfl hp0.1 rfl ?_
  refine j_run 62 1 rfl ?_
  refine j_ald0 63 rfl hp0.2.1 (by decide) ?_
  refine j_run 64 2 rfl ?_
  refine j_cv 66 33 3 rfl rfl mwX11_number hp0.1 rfl rfl (eX11_number hA hp0 (bw (x1 + 2)) 0 (bw ((rd σ 85 85) - 1)) _) rfl rfl (rok rfl rfl) (Nat.le_of_ble_eq_true rfl) (fun q7 _ h7 => ?_)
  refine jc_if_eq 67 rfl rfl (fun h8 => ?_) (fun h8 => ?_)
  · refine j_run 77 1 rfl ?_
    exact j_zret 78 rfl rfl (by decide) rfl
  · refine j_run 68 5 rfl ?_
    refine j_cv 73 35 2 rfl rfl mwX11_aField hp0.1 rfl rfl (eX11_aField hA hp0 (bw (x1 + 3)) 8 _) rfl rfl (rok rfl rfl) (Nat.le_of_ble_eq_true rfl) (fun q9 _ h9 => ?_)
    refine jc_if_eq 74 rfl rfl (fun h10 => ?_) (fun h10 => ?_)
    · refine j_run 77 1 rfl ?_
      exact j_zret 78 rfl rfl (by decide) rfl
    · refine j_run 75 1 rfl ?_
      refine j_goto 76 rfl rfl ?_
      exact j_zret 78 rfl rfl (by decide) rfl
theorem eX11_aVow {X : Cx} {ads : List Nat} {sk : List Sk} (hA : ads.length = sk.length ∧ sk.length ≤ 1000) (hp0 : ocM sk) (σ : Sg) : CF X mX11_aVow ads sk [.inr (some 84)] σ wE (fX11_aVow σ) := by
  refine CF.of ⟨pX11_aVow_ok, tbX11_ok, hA.1, hA.2⟩ (plainFor_of_name plX11) (Nat.le_of_ble_eq_true rfl) ?_
  show jX11_aVow X ads sk (0, [some (.inr (some 84)), none], [], σ) (fX11_aVow σ)
  unfold fX11_aVow
  refine j_run 0 2 rfl ?_
  refine j_gf 2 17 rfl rfl hp0.1 rfl ?_
  refine j_run 3 7 rfl ?_
  refine j_cv 10 34 4 rfl rfl mwX11_told hp0.1 rfl rfl (eX11_told hA hp0 (bw (4 * (rd σ 84 15))) 7 0 999 _) rfl rfl (rok rfl rfl) (Nat.le_of_ble_eq_true rfl) (fun q1 _ h1 => ?_)
  refine jc_if_eq 11 rfl rfl (fun h2 => ?_) (fun h2 => ?_)
  · refine j_run 29 1 rfl ?_
    exact j_zret 30 rfl rfl (by decide) rfl
  · refine j_run 12 6 rfl ?_
    refine j_gr 18 0 rfl rfl hp0.1 rfl ?_
    refine j_run 19 1 rfl ?_
    refine j_ald0 20 rfl hp0.2.1 (by decide) ?_
    refine j_run 21 2 rfl ?_
    refine j_cv 23 33 3 rfl rfl mwX11_number hp0.1 rfl rfl (eX11_number hA hp0 (bw ((bw (4 * (rd σ 84 15))) + 1)) 0 (bw ((rd q1.2 85 85) - 1)) _) rfl rfl (rok rfl rfl) (Nat.le_of_ble_eq_true rfl) (fun q3 _ h3 => ?_)
    refine jc_if_eq 24 rfl rfl (fun h4 => ?_) (fun h4 => ?_)
    · refine j_run 29 1 rfl ?_
      exact j_zret 30 rfl rfl (by decide) rfl
    · refine j_run 25 2 rfl ?_
      refine j_cv 27 30 1 rfl rfl mwX11_need hp0.1 rfl rfl (eX11_need hA hp0 5 _) rfl rfl (rok rfl rfl) (Nat.le_of_ble_eq_true rfl) (fun q5 _ h5 => ?_)
      refine jc_if_ne 28 rfl rfl (fun h6 => ?_) (fun h6 => ?_)
      · refine j_run 29 1 rfl ?_
        exact j_zret 30 rfl rfl (by decide) rfl
      · refine j_run 31 1 rfl ?_
        refine j_gf 32 7 rfl rfl hp0.1 rfl ?_
        refine j_run 33 1 rfl ?_
        refine jc_icmp_ne 34 rfl rfl (fun h11 => ?_) (fun h11 => ?_)
        · refine j_run 35 2 rfl ?_
          refine j_gf 37 8 rfl rfl hp0.1 rfl ?_
          refine j_cvT 38 3 1 rfl rfl mwX11_isPerson hp0.1 rfl rfl (eX11_isPerson hA hp0 (rd q5.2 84 20) _) rfl rfl (rok rfl rfl) (Nat.le_of_ble_eq_true rfl) (fun h12 => ?_)
          refine jc_if_eq 39 rfl rfl (fun h13 => ?_) (fun h13 => ?_)
          · exact j_weak (leP_s (leP_s (leP_z))) (JX11_aVow_J95 hA hp0 (bw (4 * (rd σ 84 15))) _)
          · refine j_run 40 2 rfl ?_
            refine j_gr 42 16 rfl rfl hp0.1 rfl ?_
            refine j_run 43 3 rfl ?_
            refine j_ald 46 rfl hp0.2.2.2.2.2.2.2.1 rfl ?_
            refine j_run 47 1 rfl ?_
            refine j_gf 48 8 rfl rfl hp0.1 rfl ?_
            refine j_cv 49 36 2 rfl rfl mwX11_areUnlike hp0.1 rfl rfl (eX11_areUnlike hA hp0 (rd q5.2 91 (bw ((bw (4 * (rd σ 84 15))) + 1))) (rd q5.2 84 20) _) rfl rfl (rok rfl rfl) (Nat.le_of_ble_eq_true rfl) (fun r14 _ h14 => ?_)
            refine jc_if_ne 50 rfl rfl (fun h15 => ?_) (fun h15 => ?_)
            · refine j_run 51 2 rfl ?_
              refine j_cv 53 22 1 rfl rfl mwX11_bad hp0.1 rfl rfl (eX11_bad hA hp0 2 _) rfl rfl (rok rfl rfl) (Nat.le_of_ble_eq_true rfl) (fun q16 _ h16 => ?_)
              exact j_zret 54 rfl rfl (nrR_b h16 rfl) rfl
            · exact j_weak (leP_s (leP_s (leP_z))) (JX11_aVow_J95 hA hp0 (bw (4 * (rd σ 84 15))) _)
        · exact j_weak (leP_s (leP_s (leP_z))) (JX11_aVow_J95 hA hp0 (bw (4 * (rd σ 84 15))) _)
abbrev jX11_aWeather (X : Cx) (ads : List Nat) (sk : List Sk) (ps : PS) (res : Option (Int × Sg)) : Prop := J X mX11_aWeather pX11_aWeather tbX11 (rmD 15 0 0) 0 0 E0 (fun a => FM X mX11_aWeather ads sk (wE a)) ads sk ps res
theorem eX11_aWeather {X : Cx} {ads : List Nat} {sk : List Sk} (hA : ads.length = sk.length ∧ sk.length ≤ 1000) (hp0 : ocM sk) (σ : Sg) : CF X mX11_aWeather ads sk [.inr (some 84)] σ wE (fX11_aWeather σ) := by
  refine CF.of ⟨pX11_aWeather_ok, tbX11_ok, hA.1, hA.2⟩ (plainFor_of_name plX11) (Nat.le_of_ble_eq_true rfl) ?_
  show jX11_aWeather X ads sk (0, [some (.inr (some 84))], [], σ) (fX11_aWeather σ)
  unfold fX11_aWeather
  refine j_run 0 3 rfl ?_
  refine j_gf 3 17 rfl rfl hp0.1 rfl ?_
  refine j_run 4 4 rfl ?_
  refine j_cv 8 34 4 rfl rfl mwX11_told hp0.1 rfl rfl (eX11_told hA hp0 (bw (2 * (rd σ 84 15))) 9 1 60 _) rfl rfl (rok rfl rfl) (Nat.le_of_ble_eq_true rfl) (fun q1 _ h1 => ?_)
  refine jc_if_eq 9 rfl rfl (fun h2 => ?_) (fun h2 => ?_)
  · refine j_run 24 1 rfl ?_
    exact j_zret 25 rfl rfl (by decide) rfl
  · refine j_run 10 3 rfl ?_
    refine j_gf 13 17 rfl rfl hp0.1 rfl ?_
    refine j_run 14 6 rfl ?_
    refine j_cv 20 34 4 rfl rfl mwX11_told hp0.1 rfl rfl (eX11_told hA hp0 (bw ((bw (2 * (rd q1.2 84 15))) + 1)) 10 0 30 _) rfl rfl (rok rfl rfl) (Nat.le_of_ble_eq_true rfl) (fun q3 _ h3 => ?_)
    refine jc_if_eq 21 rfl rfl (fun h4 => ?_) (fun h4 => ?_)
    · refine j_run 24 1 rfl ?_
      exact j_zret 25 rfl rfl (by decide) rfl
    · refine j_run 22 1 rfl ?_
      refine j_goto 23 rfl rfl ?_
      exact j_zret 25 rfl rfl (by decide) rfl
abbrev jX11_aWant (X : Cx) (ads : List Nat) (sk : List Sk) (ps : PS) (res : Option (Int × Sg)) : Prop := J X mX11_aWant pX11_aWant tbX11 (rmD 15 0 0) 0 0 E0 (fun a => FM X mX11_aWant ads sk (wE a)) ads sk ps res
theorem eX11_aWant {X : Cx} {ads : List Nat} {sk : List Sk} (hA : ads.length = sk.length ∧ sk.length ≤ 1000) (hp0 : ocM sk) (σ : Sg) : CF X mX11_aWant ads sk [.inr (some 84)] σ wE (fX11_aWant σ) := by
  refine CF.of ⟨pX11_aWant_ok, tbX11_ok, hA.1, hA.2⟩ (plainFor_of_name plX11) (Nat.le_of_ble_eq_true rfl) ?_
  show jX11_aWant X ads sk (0, [some (.inr (some 84))], [], σ) (fX11_aWant σ)
  unfold fX11_aWant
  refine j_run 0 3 rfl ?_
  refine j_gf 3 17 rfl rfl hp0.1 rfl ?_
  refine j_run 4 2 rfl ?_
  refine j_cv 6 35 2 rfl rfl mwX11_aField hp0.1 rfl rfl (eX11_aField hA hp0 (bw (3 * (rd σ 84 15))) 11 _) rfl rfl (rok rfl rfl) (Nat.le_of_ble_eq_true rfl) (fun q1 _ h1 => ?_)
  refine jc_if_eq 7 rfl rfl (fun h2 => ?_) (fun h2 => ?_)
  · refine j_run 34 1 rfl ?_
    exact j_zret 35 rfl rfl (by decide) rfl
  · refine j_run 8 3 rfl ?_
    refine j_gf 11 17 rfl rfl hp0.1 rfl ?_
    refine j_run 12 6 rfl ?_
    refine j_cv 18 34 4 rfl rfl mwX11_told hp0.1 rfl rfl (eX11_told hA hp0 (bw ((bw (3 * (rd q1.2 84 15))) + 1)) 7 0 999 _) rfl rfl (rok rfl rfl) (Nat.le_of_ble_eq_true rfl) (fun q3 _ h3 => ?_)
    refine jc_if_eq 19 rfl rfl (fun h4 => ?_) (fun h4 => ?_)
    · refine j_run 34 1 rfl ?_
      exact j_zret 35 rfl rfl (by decide) rfl
    · refine j_run 20 3 rfl ?_
      refine j_gf 23 17 rfl rfl hp0.1 rfl ?_
      refine j_run 24 6 rfl ?_
      refine j_cv 30 34 4 rfl rfl mwX11_told hp0.1 rfl rfl (eX11_told hA hp0 (bw ((bw (3 * (rd q3.2 84 15))) + 2)) 12 1 99 _) rfl rfl (rok rfl rfl) (Nat.le_of_ble_eq_true rfl) (fun q5 _ h5 => ?_)
      refine jc_if_eq 31 rfl rfl (fun h6 => ?_) (fun h6 => ?_)
      · refine j_run 34 1 rfl ?_
        exact j_zret 35 rfl rfl (by decide) rfl
      · refine j_run 32 1 rfl ?_
        refine j_goto 33 rfl rfl ?_
        exact j_zret 35 rfl rfl (by decide) rfl
abbrev jX11_aRow (X : Cx) (ads : List Nat) (sk : List Sk) (ps : PS) (res : Option (Int × Sg)) : Prop := J X mX11_aRow pX11_aRow tbX11 (rmD 16 0 0) 0 0 E0 (fun a => FM X mX11_aRow ads sk (wE a)) ads sk ps res
theorem JX11_aRow_J43 {X : Cx} {ads : List Nat} {sk : List Sk} (hA : ads.length = sk.length ∧ sk.length ≤ 1000) (hp0 : ocM sk) (σ : Sg) : jX11_aRow X ads sk (43, [some (.inr (some 84))], [], σ) (fX11_aRow_J43 σ) := by
  unfold fX11_aRow_J43
  refine j_run 19 2 rfl ?_
  refine j_cv 21 30 1 rfl rfl mwX11_need hp0.1 rfl rfl (eX11_need hA hp0 159 _) rfl rfl (rok rfl rfl) (Nat.le_of_ble_eq_true rfl) (fun q1 _ h1 => ?_)
  refine jc_if_eq 22 rfl rfl (fun h2 => ?_) (fun h2 => ?_)
  · refine j_run 25 1 rfl ?_
    exact j_zret 26 rfl rfl (by decide) rfl
  · refine j_run 23 1 rfl ?_
    refine j_goto 24 rfl rfl ?_
    exact j_zret 26 rfl rfl (by decide) rfl
theorem eX11_aRow {X : Cx} {ads : List Nat} {sk : List Sk} (hA : ads.length = sk.length ∧ sk.length ≤ 1000) (hp0 : ocM sk) (σ : Sg) : CF X mX11_aRow ads sk [.inr (some 84)] σ wE (fX11_aRow σ) := by
  refine CF.of ⟨pX11_aRow_ok, tbX11_ok, hA.1, hA.2⟩ (plainFor_of_name plX11) (Nat.le_of_ble_eq_true rfl) ?_
  show jX11_aRow X ads sk (0, [some (.inr (some 84))], [], σ) (fX11_aRow σ)
  unfold fX11_aRow
  refine j_run 0 1 rfl ?_
  refine j_gf 1 6 rfl rfl hp0.1 rfl ?_
  refine j_run 2 1 rfl ?_
  refine jc_icmp_ne 3 rfl rfl (fun h3 => ?_) (fun h3 => ?_)
  · refine j_run 4 1 rfl ?_
    refine j_cv 5 37 0 rfl rfl mwX11_aVow hp0.1 rfl rfl (eX11_aVow hA hp0 _) rfl rfl (rok rfl rfl) (Nat.le_of_ble_eq_true rfl) (fun q4 _ h4 => ?_)
    refine jc_if_eq 6 rfl rfl (fun h5 => ?_) (fun h5 => ?_)
    · refine j_run 25 1 rfl ?_
      exact j_zret 26 rfl rfl (by decide) rfl
    · refine j_goto 7 rfl rfl ?_
      exact j_weak (leP_s (leP_z)) (JX11_aRow_J43 hA hp0 _)
  · refine j_run 8 1 rfl ?_
    refine j_gf 9 6 rfl rfl hp0.1 rfl ?_
    refine j_run 10 1 rfl ?_
    refine jc_icmp_ne 11 rfl rfl (fun h6 => ?_) (fun h6 => ?_)
    · refine j_run 12 1 rfl ?_
      refine j_cv 13 38 0 rfl rfl mwX11_aWeather hp0.1 rfl rfl (eX11_aWeather hA hp0 _) rfl rfl (rok rfl rfl) (Nat.le_of_ble_eq_true rfl) (fun q7 _ h7 => ?_)
      refine jc_if_eq 14 rfl rfl (fun h8 => ?_) (fun h8 => ?_)
      · refine j_run 25 1 rfl ?_
        exact j_zret 26 rfl rfl (by decide) rfl
      · refine j_goto 15 rfl rfl ?_
        exact j_weak (leP_s (leP_z)) (JX11_aRow_J43 hA hp0 _)
    · refine j_run 16 1 rfl ?_
      refine j_cv 17 39 0 rfl rfl mwX11_aWant hp0.1 rfl rfl (eX11_aWant hA hp0 _) rfl rfl (rok rfl rfl) (Nat.le_of_ble_eq_true rfl) (fun q9 _ h9 => ?_)
      refine jc_if_eq 18 rfl rfl (fun h10 => ?_) (fun h10 => ?_)
      · refine j_run 25 1 rfl ?_
        exact j_zret 26 rfl rfl (by decide) rfl
      · exact j_weak (leP_s (leP_z)) (JX11_aRow_J43 hA hp0 _)
abbrev jX11_readsRows (X : Cx) (ads : List Nat) (sk : List Sk) (ps : PS) (res : Option (Int × Sg)) : Prop := J X mX11_readsRows pX11_readsRows tbX11 (rmD 17 0 0) 0 0 E0 (fun a => FM X mX11_readsRows ads sk (wE a)) ads sk ps res
theorem JX11_readsRows_J80 {X : Cx} {ads : List Nat} {sk : List Sk} (hA : ads.length = sk.length ∧ sk.length ≤ 1000) (hp0 : ocM sk) (x1 : Int) (z0 : Int) (k36 : Int → Sg → Option (Int × Sg)) (hk36 : ∀ (x2 : Int) (σ : Sg), jX11_readsRows X ads sk (36, [some (.inr (some 84)), some (.inl x1), some (.inl x2)], [], σ) (k36 x2 σ)) (k83 : Sg → Option (Int × Sg)) (hk83 : ∀  (σ : Sg), jX11_readsRows X ads sk (83, [some (.inr (some 84)), none, none], [], σ) (k83 σ)) (y0 : Int) (σ : Sg) : jX11_readsRows X ads sk (80, [some (.inr (some 84)), some (.inl x1), none], [.inl y0, .inl z0], σ) (fX11_readsRows_J80 k36 k83 x1 z0 y0 σ) := by
  unfold fX11_readsRows_J80
  refine jc_icmp_ne 41 rfl rfl (fun h4 => ?_) (fun h4 => ?_)
  · exact j_weak (leP_s (leP_n (leP_n (leP_z)))) (hk83 _)
  · refine j_run 46 1 rfl ?_
    refine j_cv 47 40 0 rfl rfl mwX11_aRow hp0.1 rfl rfl (eX11_aRow hA hp0 _) rfl rfl (rok rfl rfl) (Nat.le_of_ble_eq_true rfl) (fun q5 _ h5 => ?_)
    refine j_run 48 3 rfl ?_
    refine j_gf 51 17 rfl rfl hp0.1 rfl ?_
    refine j_run 52 1 rfl ?_
    refine jc_if_eq 53 rfl rfl (fun h6 => ?_) (fun h6 => ?_)
    · refine j_run 56 1 rfl ?_
      refine j_run 57 1 rfl ?_
      refine j_pf 58 17 rfl rfl hp0.1 rfl rfl (Or.inl rfl) ?_
      refine j_goto 59 rfl rfl ?_
      exact j_weak (leP_s (leP_s (leP_s (leP_z)))) (hk36 q5.1 _)
    · refine j_run 54 1 rfl ?_
      refine j_goto 55 rfl rfl ?_
      refine j_run 57 1 rfl ?_
      refine j_pf 58 17 rfl rfl hp0.1 rfl rfl (Or.inl rfl) ?_
      refine j_goto 59 rfl rfl ?_
      exact j_weak (leP_s (leP_s (leP_s (leP_z)))) (hk36 q5.1 _)
theorem JX11_readsRows_L36 {X : Cx} {ads : List Nat} {sk : List Sk} (hA : ads.length = sk.length ∧ sk.length ≤ 1000) (hp0 : ocM sk) (x1 : Int) (k55 : Sg → Option (Int × Sg)) (hk55 : ∀  (σ : Sg), jX11_readsRows X ads sk (55, [some (.inr (some 84)), none, none], [], σ) (k55 σ)) (k83 : Sg → Option (Int × Sg)) (hk83 : ∀  (σ : Sg), jX11_readsRows X ads sk (83, [some (.inr (some 84)), none, none], [], σ) (k83 σ)) : ∀ (n : Nat) (x2 : Int) (σ : Sg), jX11_readsRows X ads sk (36, [some (.inr (some 84)), some (.inl x1), some (.inl x2)], [], σ) (fX11_readsRows_L36 k55 k83 x1 n x2 σ) := by
  intro n
  induction n with
  | zero => intro x2 σ; exact j_none
  | succ n ih =>
    intro x2 σ
    rw [fX11_readsRows_L36]
    refine j_run 19 1 rfl ?_
    refine jc_if_eq 20 rfl rfl (fun h1 => ?_) (fun h1 => ?_)
    · refine j_run 60 1 rfl ?_
      exact j_grd (fun hg => j_zret 61 rfl rfl hg rfl)
    · refine j_run 21 1 rfl ?_
      refine j_gf 22 7 rfl rfl hp0.1 rfl ?_
      refine jc_if_eq 23 rfl rfl (fun h2 => ?_) (fun h2 => ?_)
      · refine j_run 60 1 rfl ?_
        exact j_grd (fun hg => j_zret 61 rfl rfl hg rfl)
      · refine j_run 24 1 rfl ?_
        refine j_gf 25 7 rfl rfl hp0.1 rfl ?_
        refine j_run 26 1 rfl ?_
        refine jc_icmp_eq 27 rfl rfl (fun h3 => ?_) (fun h3 => ?_)
        · refine j_run 32 1 rfl ?_
          refine j_gf 33 17 rfl rfl hp0.1 rfl ?_
          refine j_run 34 1 rfl ?_
          refine j_gf 35 6 rfl rfl hp0.1 rfl ?_
          refine j_run 36 1 rfl ?_
          refine jc_icmp_ne 37 rfl rfl (fun h7 => ?_) (fun h7 => ?_)
          · refine j_run 38 1 rfl ?_
            refine j_goto 39 rfl rfl ?_
            exact j_weak (leP_s (leP_s (leP_n (leP_z)))) (JX11_readsRows_J80 hA hp0 x1 (rd σ 84 15) _ ih _ hk83 16 _)
          · refine j_run 40 1 rfl ?_
            exact j_weak (leP_s (leP_s (leP_n (leP_z)))) (JX11_readsRows_J80 hA hp0 x1 (rd σ 84 15) _ ih _ hk83 12 _)
        · exact j_weak (leP_s (leP_n (leP_n (leP_z)))) (hk55 _)
theorem JX11_readsRows_J33 {X : Cx} {ads : List Nat} {sk : List Sk} (hA : ads.length = sk.length ∧ sk.length ≤ 1000) (hp0 : ocM sk) (y0 : Int) (σ : Sg) : jX11_readsRows X ads sk (33, [some (.inr (some 84)), none, none], [.inl y0], σ) (fX11_readsRows_J33 y0 σ) := by
  unfold fX11_readsRows_J33
  refine j_run 16 3 rfl ?_
  refine j_weak (leP_s (leP_s (leP_s (leP_z)))) (JX11_readsRows_L36 hA hp0 y0 _ (fun s8 => ?_) _ (fun s10 => ?_) FU 1 _)
  · refine j_run 28 2 rfl ?_
    refine j_cv 30 22 1 rfl rfl mwX11_bad hp0.1 rfl rfl (eX11_bad hA hp0 1 _) rfl rfl (rok rfl rfl) (Nat.le_of_ble_eq_true rfl) (fun q9 _ h9 => ?_)
    exact j_zret 31 rfl rfl (nrR_b h9 rfl) rfl
  · refine j_run 42 2 rfl ?_
    refine j_cv 44 22 1 rfl rfl mwX11_bad hp0.1 rfl rfl (eX11_bad hA hp0 3 _) rfl rfl (rok rfl rfl) (Nat.le_of_ble_eq_true rfl) (fun q11 _ h11 => ?_)
    exact j_zret 45 rfl rfl (nrR_b h11 rfl) rfl
theorem eX11_readsRows {X : Cx} {ads : List Nat} {sk : List Sk} (hA : ads.length = sk.length ∧ sk.length ≤ 1000) (hp0 : ocM sk) (σ : Sg) : CF X mX11_readsRows ads sk [.inr (some 84)] σ wE (fX11_readsRows σ) := by
  refine CF.of ⟨pX11_readsRows_ok, tbX11_ok, hA.1, hA.2⟩ (plainFor_of_name plX11) (Nat.le_of_ble_eq_true rfl) ?_
  show jX11_readsRows X ads sk (0, [some (.inr (some 84)), none, none], [], σ) (fX11_readsRows σ)
  unfold fX11_readsRows
  refine j_run 0 2 rfl ?_
  refine j_pf 2 17 rfl rfl hp0.1 rfl rfl (Or.inl rfl) ?_
  refine j_run 3 1 rfl ?_
  refine j_gf 4 6 rfl rfl hp0.1 rfl ?_
  refine j_run 5 1 rfl ?_
  refine jc_icmp_ne 6 rfl rfl (fun h12 => ?_) (fun h12 => ?_)
  · refine j_run 7 1 rfl ?_
    refine j_goto 8 rfl rfl ?_
    exact j_weak (leP_s (leP_n (leP_n (leP_z)))) (JX11_readsRows_J33 hA hp0 7 _)
  · refine j_run 9 1 rfl ?_
    refine j_gf 10 6 rfl rfl hp0.1 rfl ?_
    refine j_run 11 1 rfl ?_
    refine jc_icmp_ne 12 rfl rfl (fun h13 => ?_) (fun h13 => ?_)
    · refine j_run 13 1 rfl ?_
      refine j_goto 14 rfl rfl ?_
      exact j_weak (leP_s (leP_n (leP_n (leP_z)))) (JX11_readsRows_J33 hA hp0 9 _)
    · refine j_run 15 1 rfl ?_
      exact j_weak (leP_s (leP_n (leP_n (leP_z)))) (JX11_readsRows_J33 hA hp0 11 _)
abbrev jX11_putsLaw (X : Cx) (ads : List Nat) (sk : List Sk) (ps : PS) (res : Option (Int × Sg)) : Prop := J X mX11_putsLaw pX11_putsLaw tbX11 (rmD 0 0 0) 0 0 E0 (fun a => FM X mX11_putsLaw ads sk (wE a)) ads sk ps res
theorem JX11_putsLaw_L13 {X : Cx} {ads : List Nat} {sk : List Sk} (hA : ads.length = sk.length ∧ sk.length ≤ 1000) (hp0 : ocM sk) (k105 : Sg → Option (Int × Sg)) (hk105 : ∀  (σ : Sg), jX11_putsLaw X ads sk (105, [some (.inr (some 84)), none], [], σ) (k105 σ)) : ∀ (n : Nat) (x1 : Int) (σ : Sg), jX11_putsLaw X ads sk (13, [some (.inr (some 84)), some (.inl x1)], [], σ) (fX11_putsLaw_L13 k105 n x1 σ) := by
  intro n
  induction n with
  | zero => intro x1 σ; exact j_none
  | succ n ih =>
    intro x1 σ
    rw [fX11_putsLaw_L13]
    refine j_run 8 2 rfl ?_
    refine j_gf 10 14 rfl rfl hp0.1 rfl ?_
    refine jc_icmp_ge 11 rfl rfl (fun h1 => ?_) (fun h1 => ?_)
    · refine j_run 12 1 rfl ?_
      refine j_gr 13 0 rfl rfl hp0.1 rfl ?_
      refine j_run 14 4 rfl ?_
      refine j_gr 18 15 rfl rfl hp0.1 rfl ?_
      refine j_run 19 3 rfl ?_
      refine j_ald 22 rfl hp0.2.2.2.2.2.1 rfl ?_
      refine j_ast 23 rfl hp0.2.1 rfl ?_
      refine j_run 24 1 rfl ?_
      refine j_gr 25 0 rfl rfl hp0.1 rfl ?_
      refine j_run 26 4 rfl ?_
      refine j_gr 30 15 rfl rfl hp0.1 rfl ?_
      refine j_run 31 5 rfl ?_
      refine j_ald 36 rfl hp0.2.2.2.2.2.1 rfl ?_
      refine j_ast 37 rfl hp0.2.1 rfl ?_
      refine j_run 38 1 rfl ?_
      refine j_gr 39 0 rfl rfl hp0.1 rfl ?_
      refine j_run 40 4 rfl ?_
      refine j_gr 44 15 rfl rfl hp0.1 rfl ?_
      refine j_run 45 5 rfl ?_
      refine j_ald 50 rfl hp0.2.2.2.2.2.1 rfl ?_
      refine j_ast 51 rfl hp0.2.1 rfl ?_
      refine j_run 52 1 rfl ?_
      refine j_gr 53 0 rfl rfl hp0.1 rfl ?_
      refine j_run 54 4 rfl ?_
      refine j_gr 58 15 rfl rfl hp0.1 rfl ?_
      refine j_run 59 5 rfl ?_
      refine j_ald 64 rfl hp0.2.2.2.2.2.1 rfl ?_
      refine j_ast 65 rfl hp0.2.1 rfl ?_
      refine j_run 66 1 rfl ?_
      refine j_goto 67 rfl rfl ?_
      exact j_weak (leP_s (leP_s (leP_z))) (ih (bw (x1 + 1)) _)
    · exact j_weak (leP_s (leP_n (leP_z))) (hk105 _)
theorem JX11_putsLaw_L107 {X : Cx} {ads : List Nat} {sk : List Sk} (hA : ads.length = sk.length ∧ sk.length ≤ 1000) (hp0 : ocM sk) : ∀ (n : Nat) (x1 : Int) (σ : Sg), jX11_putsLaw X ads sk (107, [some (.inr (some 84)), some (.inl x1)], [], σ) (fX11_putsLaw_L107 n x1 σ) := by
  intro n
  induction n with
  | zero => intro x1 σ; exact j_none
  | succ n ih =>
    intro x1 σ
    rw [fX11_putsLaw_L107]
    refine j_run 70 3 rfl ?_
    refine j_gf 73 12 rfl rfl hp0.1 rfl ?_
    refine j_run 74 1 rfl ?_
    refine jc_icmp_ge 75 rfl rfl (fun h3 => ?_) (fun h3 => ?_)
    · refine j_run 76 1 rfl ?_
      refine j_gr 77 0 rfl rfl hp0.1 rfl ?_
      refine j_run 78 4 rfl ?_
      refine j_gr 82 11 rfl rfl hp0.1 rfl ?_
      refine j_run 83 1 rfl ?_
      refine j_ald 84 rfl hp0.2.2.2.2.2.2.1 rfl ?_
      refine j_ast 85 rfl hp0.2.1 rfl ?_
      refine j_run 86 1 rfl ?_
      refine j_goto 87 rfl rfl ?_
      exact j_weak (leP_s (leP_s (leP_z))) (ih (bw (x1 + 1)) _)
    · refine j_run 88 1 rfl ?_
      refine j_gf 89 14 rfl rfl hp0.1 rfl ?_
      exact j_iret 90 rfl rfl rfl
theorem eX11_putsLaw {X : Cx} {ads : List Nat} {sk : List Sk} (hA : ads.length = sk.length ∧ sk.length ≤ 1000) (hp0 : ocM sk) (σ : Sg) : CF X mX11_putsLaw ads sk [.inr (some 84)] σ wE (fX11_putsLaw σ) := by
  refine CF.of ⟨pX11_putsLaw_ok, tbX11_ok, hA.1, hA.2⟩ (plainFor_of_name plX11) (Nat.le_of_ble_eq_true rfl) ?_
  show jX11_putsLaw X ads sk (0, [some (.inr (some 84)), none], [], σ) (fX11_putsLaw σ)
  unfold fX11_putsLaw
  refine j_run 0 1 rfl ?_
  refine j_gr 1 0 rfl rfl hp0.1 rfl ?_
  refine j_run 2 2 rfl ?_
  refine j_gf 4 14 rfl rfl hp0.1 rfl ?_
  refine j_ast0 5 rfl hp0.2.1 (by decide) ?_
  refine j_run 6 2 rfl ?_
  refine j_weak (leP_s (leP_s (leP_z))) (JX11_putsLaw_L13 hA hp0 _ (fun s2 => ?_) FU 0 _)
  refine j_run 68 2 rfl ?_
  exact j_weak (leP_s (leP_s (leP_z))) (JX11_putsLaw_L107 hA hp0 FU 0 _)
abbrev jX11_puts (X : Cx) (ads : List Nat) (sk : List Sk) (ps : PS) (res : Option (Int × Sg)) : Prop := J X mX11_puts pX11_puts tbX11 (rmD 0 0 0) 0 0 E0 (fun a => FM X mX11_puts ads sk (wE a)) ads sk ps res
theorem JX11_puts_L13 {X : Cx} {ads : List Nat} {sk : List Sk} (hA : ads.length = sk.length ∧ sk.length ≤ 1000) (hp0 : ocM sk) (x2 : Int) (x3 : Int) : ∀ (n : Nat) (x4 : Int) (σ : Sg), jX11_puts X ads sk (13, [some (.inr (some 84)), none, some (.inl x2), some (.inl x3), some (.inl x4)], [], σ) (fX11_puts_L13 x2 x3 n x4 σ) := by
  intro n
  induction n with
  | zero => intro x4 σ; exact j_none
  | succ n ih =>
    intro x4 σ
    rw [fX11_puts_L13]
    refine j_run 8 3 rfl ?_
    refine j_gf 11 17 rfl rfl hp0.1 rfl ?_
    refine j_run 12 1 rfl ?_
    refine jc_icmp_ge 13 rfl rfl (fun h1 => ?_) (fun h1 => ?_)
    · refine j_run 14 1 rfl ?_
      refine j_gr 15 0 rfl rfl hp0.1 rfl ?_
      refine j_run 16 4 rfl ?_
      refine j_gr 20 16 rfl rfl hp0.1 rfl ?_
      refine j_run 21 1 rfl ?_
      refine j_ald 22 rfl hp0.2.2.2.2.2.2.2.1 rfl ?_
      refine j_ast 23 rfl hp0.2.1 rfl ?_
      refine j_run 24 1 rfl ?_
      refine j_goto 25 rfl rfl ?_
      exact j_weak (leP_s (leP_n (leP_s (leP_s (leP_s (leP_z)))))) (ih (bw (x4 + 1)) _)
    · refine j_run 26 1 rfl ?_
      refine j_gf 27 17 rfl rfl hp0.1 rfl ?_
      exact j_iret 28 rfl rfl rfl
theorem eX11_puts {X : Cx} {ads : List Nat} {sk : List Sk} (hA : ads.length = sk.length ∧ sk.length ≤ 1000) (hp0 : ocM sk) (x1 : Int) (x2 : Int) (x3 : Int) (σ : Sg) : CF X mX11_puts ads sk [.inr (some 84), .inl x1, .inl x2, .inl x3] σ wE (fX11_puts x1 x2 x3 σ) := by
  refine CF.of ⟨pX11_puts_ok, tbX11_ok, hA.1, hA.2⟩ (plainFor_of_name plX11) (Nat.le_of_ble_eq_true rfl) ?_
  show jX11_puts X ads sk (0, [some (.inr (some 84)), some (.inl x1), some (.inl x2), some (.inl x3), none], [], σ) (fX11_puts x1 x2 x3 σ)
  unfold fX11_puts
  refine j_run 0 1 rfl ?_
  refine j_gr 1 0 rfl rfl hp0.1 rfl ?_
  refine j_run 2 2 rfl ?_
  refine j_gf 4 17 rfl rfl hp0.1 rfl ?_
  refine j_ast 5 rfl hp0.2.1 rfl ?_
  refine j_run 6 2 rfl ?_
  exact j_weak (leP_s (leP_n (leP_s (leP_s (leP_s (leP_z)))))) (JX11_puts_L13 hA hp0 x2 x3 FU 0 _)
abbrev jX11_putsText (X : Cx) (ads : List Nat) (sk : List Sk) (ps : PS) (res : Option (Int × Sg)) : Prop := J X mX11_putsText pX11_putsText tbX11 (rmD 1 0 0) 0 0 E0 (fun a => FM X mX11_putsText ads sk (wE a)) ads sk ps res
theorem eX11_putsText {X : Cx} {ads : List Nat} {sk : List Sk} (hA : ads.length = sk.length ∧ sk.length ≤ 1000) (hp0 : ocM sk) (x1 : Int) (σ : Sg) : CF X mX11_putsText ads sk [.inr (some 84), .inl x1] σ wE (fX11_putsText x1 σ) := by
  refine CF.of ⟨pX11_putsText_ok, tbX11_ok, hA.1, hA.2⟩ (plainFor_of_name plX11) (Nat.le_of_ble_eq_true rfl) ?_
  show jX11_putsText X ads sk (0, [some (.inr (some 84)), some (.inl x1)], [], σ) (fX11_putsText x1 σ)
  unfold fX11_putsText
  refine j_run 0 1 rfl ?_
  refine jc_if_ne 1 rfl rfl (fun h1 => ?_) (fun h1 => ?_)
  · refine j_run 2 1 rfl ?_
    refine j_cv 3 41 0 rfl rfl mwX11_putsLaw hp0.1 rfl rfl (eX11_putsLaw hA hp0 _) rfl rfl (rok rfl rfl) (Nat.le_of_ble_eq_true rfl) (fun q2 _ h2 => ?_)
    exact j_iret 4 rfl rfl rfl
  · refine j_run 5 2 rfl ?_
    refine jc_icmp_ne 7 rfl rfl (fun h3 => ?_) (fun h3 => ?_)
    · refine j_run 8 4 rfl ?_
      refine j_cv 12 42 3 rfl rfl mwX11_puts hp0.1 rfl rfl (eX11_puts hA hp0 89 239 3 _) rfl rfl (rok rfl rfl) (Nat.le_of_ble_eq_true rfl) (fun q4 _ h4 => ?_)
      exact j_iret 13 rfl rfl rfl
    · refine j_run 14 1 rfl ?_
      refine j_cv 15 5 0 rfl rfl mwX11_forgets hp0.1 rfl rfl (eX11_forgets hA hp0 _) rfl rfl (rok rfl rfl) (Nat.le_of_ble_eq_true rfl) (fun s5 _ h5 => ?_)
      refine j_run 16 2 rfl ?_
      refine jc_icmp_ne 18 rfl rfl (fun h6 => ?_) (fun h6 => ?_)
      · refine j_run 19 4 rfl ?_
        refine j_cv 23 42 3 rfl rfl mwX11_puts hp0.1 rfl rfl (eX11_puts hA hp0 87 151 4 _) rfl rfl (rok rfl rfl) (Nat.le_of_ble_eq_true rfl) (fun q7 _ h7 => ?_)
        refine j_goto 24 rfl rfl ?_
        exact j_iret 30 rfl rfl rfl
      · refine j_run 25 4 rfl ?_
        refine j_cv 29 42 3 rfl rfl mwX11_puts hp0.1 rfl rfl (eX11_puts hA hp0 88 215 2 _) rfl rfl (rok rfl rfl) (Nat.le_of_ble_eq_true rfl) (fun q8 _ h8 => ?_)
        exact j_iret 30 rfl rfl rfl
abbrev jX11_text (X : Cx) (ads : List Nat) (sk : List Sk) (ps : PS) (res : Option (Int × Sg)) : Prop := J X mX11_text pX11_text tbX11 (rmD 59 0 0) 0 0 E0 (fun a => FM X mX11_text ads sk (wE a)) ads sk ps res
theorem JX11_text_J60 {X : Cx} {ads : List Nat} {sk : List Sk} (hA : ads.length = sk.length ∧ sk.length ≤ 1000) (hp0 : ocM sk) (x1 : Int) (y0 : Int) (σ : Sg) : jX11_text X ads sk (60, [some (.inr (some 84)), some (.inl x1), none], [.inl y0], σ) (fX11_text_J60 x1 y0 σ) := by
  unfold fX11_text_J60
  refine j_run 34 3 rfl ?_
  refine j_pf 37 2 rfl rfl hp0.1 rfl rfl (Or.inl rfl) ?_
  refine j_run 38 1 rfl ?_
  refine jc_if_eq 39 rfl rfl (fun h4 => ?_) (fun h4 => ?_)
  · refine j_run 44 2 rfl ?_
    refine j_gf 46 9 rfl rfl hp0.1 rfl ?_
    refine j_pf 47 18 rfl rfl hp0.1 rfl rfl (Or.inl rfl) ?_
    refine j_run 48 2 rfl ?_
    refine j_gf 50 10 rfl rfl hp0.1 rfl ?_
    refine j_pf 51 19 rfl rfl hp0.1 rfl rfl (Or.inl rfl) ?_
    refine j_run 52 1 rfl ?_
    exact j_iret 53 rfl rfl rfl
  · refine j_run 40 2 rfl ?_
    refine j_cv 42 43 1 rfl rfl mwX11_putsText hp0.1 rfl rfl (eX11_putsText hA hp0 x1 _) rfl rfl (rok rfl rfl) (Nat.le_of_ble_eq_true rfl) (fun q5 _ h5 => ?_)
    exact j_iret 43 rfl rfl rfl
theorem eX11_text {X : Cx} {ads : List Nat} {sk : List Sk} (hA : ads.length = sk.length ∧ sk.length ≤ 1000) (hp0 : ocM sk) (x1 : Int) (σ : Sg) : CF X mX11_text ads sk [.inr (some 84), .inl x1] σ wE (fX11_text x1 σ) := by
  refine CF.of ⟨pX11_text_ok, tbX11_ok, hA.1, hA.2⟩ (plainFor_of_name plX11) (Nat.le_of_ble_eq_true rfl) ?_
  show jX11_text X ads sk (0, [some (.inr (some 84)), some (.inl x1), none], [], σ) (fX11_text x1 σ)
  unfold fX11_text
  refine j_run 0 2 rfl ?_
  refine j_pf 2 18 rfl rfl hp0.1 rfl rfl (Or.inl rfl) ?_
  refine j_run 3 2 rfl ?_
  refine j_pf 5 19 rfl rfl hp0.1 rfl rfl (Or.inl rfl) ?_
  refine j_run 6 3 rfl ?_
  refine j_csT 9 0 3 rfl rfl mwX11_isIn (eX11_isIn hA x1 0 3 _) rfl rfl (rok rfl rfl) (Nat.le_of_ble_eq_true rfl) (fun h1 => ?_)
  refine jc_if_ne 10 rfl rfl (fun h2 => ?_) (fun h2 => ?_)
  · refine j_run 11 2 rfl ?_
    refine j_pf 13 2 rfl rfl hp0.1 rfl rfl (Or.inl rfl) ?_
    refine j_run 14 1 rfl ?_
    exact j_iret 15 rfl rfl rfl
  · refine j_run 16 2 rfl ?_
    refine j_pf 18 9 rfl rfl hp0.1 rfl rfl (Or.inl rfl) ?_
    refine j_run 19 2 rfl ?_
    refine j_pf 21 4 rfl rfl hp0.1 rfl rfl (Or.inl rfl) ?_
    refine j_run 22 2 rfl ?_
    refine j_pf 24 6 rfl rfl hp0.1 rfl rfl (Or.inl rfl) ?_
    refine j_run 25 1 rfl ?_
    refine j_cv 26 21 0 rfl rfl mwX11_next0 hp0.1 rfl rfl (eX11_next0 hA hp0 _) rfl rfl (rok rfl rfl) (Nat.le_of_ble_eq_true rfl) (fun s3 _ h3 => ?_)
    refine j_run 27 1 rfl ?_
    refine jc_if_ne 28 rfl rfl (fun h6 => ?_) (fun h6 => ?_)
    · refine j_run 29 1 rfl ?_
      refine j_cv 30 44 0 rfl rfl mwX11_readsLaw hp0.1 rfl rfl (eX11_readsLaw hA hp0 _) rfl rfl (rok rfl rfl) (Nat.le_of_ble_eq_true rfl) (fun q7 _ h7 => ?_)
      refine j_goto 31 rfl rfl ?_
      exact j_weak (leP_s (leP_s (leP_n (leP_z)))) (JX11_text_J60 hA hp0 x1 q7.1 _)
    · refine j_run 32 1 rfl ?_
      refine j_cv 33 45 0 rfl rfl mwX11_readsRows hp0.1 rfl rfl (eX11_readsRows hA hp0 _) rfl rfl (rok rfl rfl) (Nat.le_of_ble_eq_true rfl) (fun q8 _ h8 => ?_)
      exact j_weak (leP_s (leP_s (leP_n (leP_z)))) (JX11_text_J60 hA hp0 x1 q8.1 _)
abbrev jX11_fault (X : Cx) (ads : List Nat) (sk : List Sk) (σ : Sg) (ps : PS) (res : Option (Int)) : Prop := J X mX11_fault pX11_fault tbX11 (rmD 0 0 0) 0 0 E0 (fun a => FM X mX11_fault ads sk ((wP σ) a)) ads sk ps res
theorem eX11_fault {X : Cx} {ads : List Nat} {sk : List Sk} (hA : ads.length = sk.length ∧ sk.length ≤ 1000) (hp0 : ocM sk) (x1 : Int) (σ : Sg) : CF X mX11_fault ads sk [.inr (some 84), .inl x1] σ (wP σ) (some (fX11_fault x1 σ)) := by
  refine CF.of ⟨pX11_fault_ok, tbX11_ok, hA.1, hA.2⟩ (plainFor_of_name plX11) (Nat.le_of_ble_eq_true rfl) ?_
  show jX11_fault X ads sk σ (0, [some (.inr (some 84)), some (.inl x1)], [], σ) (some (fX11_fault x1 σ))
  unfold fX11_fault
  refine j_run 0 1 rfl ?_
  refine jt_if_ne 1 rfl rfl (fun h1 => ?_) (fun h1 => ?_)
  · refine j_run 2 1 rfl ?_
    refine j_gf 3 18 rfl rfl hp0.1 rfl ?_
    refine j_goto 4 rfl rfl ?_
    exact j_iret 12 rfl rfl rfl
  · refine j_run 5 2 rfl ?_
    refine jt_icmp_ne 7 rfl rfl (fun h2 => ?_) (fun h2 => ?_)
    · refine j_run 8 1 rfl ?_
      refine j_gf 9 19 rfl rfl hp0.1 rfl ?_
      refine j_goto 10 rfl rfl ?_
      exact j_iret 12 rfl rfl rfl
    · refine j_run 11 1 rfl ?_
      exact j_iret 12 rfl rfl rfl
abbrev jX11_both (X : Cx) (ads : List Nat) (sk : List Sk) (σ : Sg) (ps : PS) (res : Option (Int)) : Prop := J X mX11_both pX11_both tbX11 (rmD 0 0 0) 0 0 E0 (fun a => FM X mX11_both ads sk ((wP σ) a)) ads sk ps res
theorem eX11_both {X : Cx} {ads : List Nat} {sk : List Sk} (hA : ads.length = sk.length ∧ sk.length ≤ 1000) (x0 : Int) (x1 : Int) (x2 : Int) (σ : Sg) : CF X mX11_both ads sk [.inl x0, .inl x1, .inl x2] σ (wP σ) (some (fX11_both x0 x1 x2)) := by
  refine CF.of ⟨pX11_both_ok, tbX11_ok, hA.1, hA.2⟩ (plainFor_of_name plX11) (Nat.le_of_ble_eq_true rfl) ?_
  show jX11_both X ads sk σ (0, [some (.inl x0), some (.inl x1), some (.inl x2)], [], σ) (some (fX11_both x0 x1 x2))
  unfold fX11_both
  refine j_run 0 1 rfl ?_
  refine jt_ite (fun h1 => ?_) (fun h1 => ?_)
  · refine j_tsIn 1 rfl h1 ⟨by decide, by decide⟩ rfl rfl ?_
    refine j_run 2 3 rfl ?_
    exact j_iret 5 rfl rfl rfl
  refine jt_ite (fun h2 => ?_) (fun h2 => ?_)
  · refine j_tsIn 1 rfl h2 ⟨by decide, by decide⟩ rfl rfl ?_
    refine j_run 6 3 rfl ?_
    exact j_iret 9 rfl rfl rfl
  refine jt_ite (fun h3 => ?_) (fun h3 => ?_)
  · refine j_tsIn 1 rfl h3 ⟨by decide, by decide⟩ rfl rfl ?_
    refine j_run 10 3 rfl ?_
    exact j_iret 13 rfl rfl rfl
  refine jt_ite (fun h4 => ?_) (fun h4 => ?_)
  · refine j_tsIn 1 rfl h4 ⟨by decide, by decide⟩ rfl rfl ?_
    refine j_run 39 3 rfl ?_
    exact j_iret 42 rfl rfl rfl
  refine jt_ite (fun h5 => ?_) (fun h5 => ?_)
  · refine j_tsIn 1 rfl h5 ⟨by decide, by decide⟩ rfl rfl ?_
    refine j_run 14 2 rfl ?_
    refine jt_icmp_ge 16 rfl rfl (fun h6 => ?_) (fun h6 => ?_)
    · refine j_run 17 1 rfl ?_
      refine j_goto 18 rfl rfl ?_
      exact j_iret 20 rfl rfl rfl
    · refine j_run 19 1 rfl ?_
      exact j_iret 20 rfl rfl rfl
  refine jt_ite (fun h7 => ?_) (fun h7 => ?_)
  · refine j_tsIn 1 rfl h7 ⟨by decide, by decide⟩ rfl rfl ?_
    refine j_run 21 2 rfl ?_
    refine jt_icmp_ne 23 rfl rfl (fun h8 => ?_) (fun h8 => ?_)
    · refine j_run 24 1 rfl ?_
      refine j_goto 25 rfl rfl ?_
      exact j_iret 27 rfl rfl rfl
    · refine j_run 26 1 rfl ?_
      exact j_iret 27 rfl rfl rfl
  refine jt_ite (fun h9 => ?_) (fun h9 => ?_)
  · refine j_tsIn 1 rfl h9 ⟨by decide, by decide⟩ rfl rfl ?_
    refine j_run 28 2 rfl ?_
    refine jt_icmp_le 30 rfl rfl (fun h10 => ?_) (fun h10 => ?_)
    · refine j_run 31 1 rfl ?_
      refine j_goto 32 rfl rfl ?_
      exact j_iret 34 rfl rfl rfl
    · refine j_run 33 1 rfl ?_
      exact j_iret 34 rfl rfl rfl
  refine jt_ite (fun h11 => ?_) (fun h11 => ?_)
  · refine j_tsIn 1 rfl h11 ⟨by decide, by decide⟩ rfl rfl ?_
    refine j_run 39 3 rfl ?_
    exact j_iret 42 rfl rfl rfl
  refine jt_ite (fun h12 => ?_) (fun h12 => ?_)
  · refine j_tsIn 1 rfl h12 ⟨by decide, by decide⟩ rfl rfl ?_
    refine j_run 35 3 rfl ?_
    exact j_iret 38 rfl rfl rfl
  refine j_tsOut 1 rfl (by omega) rfl ?_
  refine j_run 39 3 rfl ?_
  exact j_iret 42 rfl rfl rfl
abbrev jX11_comesTo (X : Cx) (ads : List Nat) (sk : List Sk) (ps : PS) (res : Option (Int × Sg)) : Prop := J X mX11_comesTo pX11_comesTo tbX11 (rmD 1 0 0) 0 0 E0 (fun a => FM X mX11_comesTo ads sk (wE a)) ads sk ps res
theorem JX11_comesTo_L6 {X : Cx} {ads : List Nat} {sk : List Sk} (hA : ads.length = sk.length ∧ sk.length ≤ 1000) (hp0 : ocM sk) (x1 : Int) (x3 : Int) : ∀ (n : Nat) (x4 : Int) (x5 : Int) (σ : Sg), jX11_comesTo X ads sk (6, [some (.inr (some 84)), some (.inl x1), none, some (.inl x3), some (.inl x4), some (.inl x5), none, none], [], σ) (fX11_comesTo_L6 x1 x3 n x4 x5 σ) := by
  intro n
  induction n with
  | zero => intro x4 x5 σ; exact j_none
  | succ n ih =>
    intro x4 x5 σ
    rw [fX11_comesTo_L6]
    refine j_run 4 2 rfl ?_
    refine jc_icmp_ge 6 rfl rfl (fun h1 => ?_) (fun h1 => ?_)
    · refine j_run 7 1 rfl ?_
      refine j_gr 8 0 rfl rfl hp0.1 rfl ?_
      refine j_run 9 9 rfl ?_
      refine j_ald 18 rfl hp0.2.1 rfl ?_
      refine j_run 19 2 rfl ?_
      refine j_gr 21 0 rfl rfl hp0.1 rfl ?_
      refine j_run 22 11 rfl ?_
      refine j_ald 33 rfl hp0.2.1 rfl ?_
      refine j_run 34 3 rfl ?_
      refine jc_icmp_ge 37 rfl rfl (fun h2 => ?_) (fun h2 => ?_)
      · refine j_run 38 1 rfl ?_
        refine j_gr 39 20 rfl rfl hp0.1 rfl ?_
        refine j_run 40 2 rfl ?_
        refine jc_if_ne 42 rfl rfl (fun h3 => ?_) (fun h3 => ?_)
        · refine j_run 43 1 rfl ?_
          refine j_goto 44 rfl rfl ?_
          refine j_ast 49 rfl hp0.2.2.2.2.2.2.2.2.2.1 rfl ?_
          refine j_run 50 1 rfl ?_
          refine j_goto 51 rfl rfl ?_
          refine j_run 103 1 rfl ?_
          refine j_goto 104 rfl rfl ?_
          exact j_weak (leP_s (leP_s (leP_n (leP_s (leP_s (leP_s (leP_n (leP_n (leP_z))))))))) (ih (bw (x4 + 1)) (bw (x5 + 1)) _)
        · refine j_run 45 1 rfl ?_
          refine j_gr 46 21 rfl rfl hp0.1 rfl ?_
          refine j_run 47 1 rfl ?_
          refine j_ald 48 rfl hp0.2.2.2.2.2.2.2.2.2.2.1 rfl ?_
          refine j_ast 49 rfl hp0.2.2.2.2.2.2.2.2.2.1 rfl ?_
          refine j_run 50 1 rfl ?_
          refine j_goto 51 rfl rfl ?_
          refine j_run 103 1 rfl ?_
          refine j_goto 104 rfl rfl ?_
          exact j_weak (leP_s (leP_s (leP_n (leP_s (leP_s (leP_s (leP_n (leP_n (leP_z))))))))) (ih (bw (x4 + 1)) (bw (x5 + 1)) _)
      · refine j_run 52 2 rfl ?_
        refine jc_icmp_ne 54 rfl rfl (fun h4 => ?_) (fun h4 => ?_)
        · refine j_run 55 1 rfl ?_
          refine j_gr 56 20 rfl rfl hp0.1 rfl ?_
          refine j_run 57 4 rfl ?_
          refine j_ald 61 rfl hp0.2.2.2.2.2.2.2.2.2.1 rfl ?_
          refine j_run 62 1 rfl ?_
          refine j_div 63 rfl ?_
          refine j_ast 64 rfl hp0.2.2.2.2.2.2.2.2.2.1 rfl ?_
          refine j_goto 65 rfl rfl ?_
          refine j_run 103 1 rfl ?_
          refine j_goto 104 rfl rfl ?_
          exact j_weak (leP_s (leP_s (leP_n (leP_s (leP_s (leP_s (leP_n (leP_n (leP_z))))))))) (ih x4 (bw (x5 + 1)) _)
        · refine j_run 66 2 rfl ?_
          refine jc_icmp_ne 68 rfl rfl (fun h5 => ?_) (fun h5 => ?_)
          · refine j_run 69 1 rfl ?_
            refine j_gr 70 20 rfl rfl hp0.1 rfl ?_
            refine j_run 71 5 rfl ?_
            refine j_gr 76 20 rfl rfl hp0.1 rfl ?_
            refine j_run 77 3 rfl ?_
            refine j_ald 80 rfl hp0.2.2.2.2.2.2.2.2.2.1 rfl ?_
            refine j_run 81 1 rfl ?_
            refine j_ast 82 rfl hp0.2.2.2.2.2.2.2.2.2.1 rfl ?_
            refine j_goto 83 rfl rfl ?_
            refine j_run 103 1 rfl ?_
            refine j_goto 104 rfl rfl ?_
            exact j_weak (leP_s (leP_s (leP_n (leP_s (leP_s (leP_s (leP_n (leP_n (leP_z))))))))) (ih x4 (bw (x5 + 1)) _)
          · refine j_run 84 2 rfl ?_
            refine j_gr 86 20 rfl rfl hp0.1 rfl ?_
            refine j_run 87 5 rfl ?_
            refine j_gr 92 20 rfl rfl hp0.1 rfl ?_
            refine j_run 93 3 rfl ?_
            refine j_ald 96 rfl hp0.2.2.2.2.2.2.2.2.2.1 rfl ?_
            refine j_run 97 1 rfl ?_
            refine j_gr 98 20 rfl rfl hp0.1 rfl ?_
            refine j_run 99 1 rfl ?_
            refine j_ald 100 rfl hp0.2.2.2.2.2.2.2.2.2.1 rfl ?_
            refine j_csT 101 46 3 rfl rfl mwX11_both (eX11_both hA (rd σ 85 (bw ((bw (976 + (bw (820 * x1)))) + (bw (2 * x5))))) (rd σ 93 (bw ((bw (x4 + -1)) - 1))) (rd σ 93 (bw (x4 + -1))) _) rfl rfl (rok rfl rfl) (Nat.le_of_ble_eq_true rfl) (fun h6 => ?_)
            refine j_ast 102 rfl hp0.2.2.2.2.2.2.2.2.2.1 rfl ?_
            refine j_run 103 1 rfl ?_
            refine j_goto 104 rfl rfl ?_
            exact j_weak (leP_s (leP_s (leP_n (leP_s (leP_s (leP_s (leP_n (leP_n (leP_z))))))))) (ih (bw (x4 + -1)) (bw (x5 + 1)) _)
    · refine j_run 105 1 rfl ?_
      refine j_gr 106 20 rfl rfl hp0.1 rfl ?_
      refine j_run 107 1 rfl ?_
      refine j_ald0 108 rfl hp0.2.2.2.2.2.2.2.2.2.1 (by decide) ?_
      exact j_iret 109 rfl rfl rfl
theorem eX11_comesTo {X : Cx} {ads : List Nat} {sk : List Sk} (hA : ads.length = sk.length ∧ sk.length ≤ 1000) (hp0 : ocM sk) (x1 : Int) (x2 : Int) (x3 : Int) (σ : Sg) : CF X mX11_comesTo ads sk [.inr (some 84), .inl x1, .inl x2, .inl x3] σ wE (fX11_comesTo x1 x2 x3 σ) := by
  refine CF.of ⟨pX11_comesTo_ok, tbX11_ok, hA.1, hA.2⟩ (plainFor_of_name plX11) (Nat.le_of_ble_eq_true rfl) ?_
  show jX11_comesTo X ads sk (0, [some (.inr (some 84)), some (.inl x1), some (.inl x2), some (.inl x3), none, none, none, none], [], σ) (fX11_comesTo x1 x2 x3 σ)
  unfold fX11_comesTo
  refine j_run 0 4 rfl ?_
  exact j_weak (leP_s (leP_s (leP_n (leP_s (leP_s (leP_s (leP_n (leP_n (leP_z))))))))) (JX11_comesTo_L6 hA hp0 x1 x3 FU 0 x2 _)
abbrev jX11_isSo (X : Cx) (ads : List Nat) (sk : List Sk) (ps : PS) (res : Option (Int × Sg)) : Prop := J X mX11_isSo pX11_isSo tbX11 (rmD 2 0 0) 0 0 E0 (fun a => FM X mX11_isSo ads sk (wE a)) ads sk ps res
theorem eX11_isSo {X : Cx} {ads : List Nat} {sk : List Sk} (hA : ads.length = sk.length ∧ sk.length ≤ 1000) (hp0 : ocM sk) (x1 : Int) (σ : Sg) : CF X mX11_isSo ads sk [.inr (some 84), .inl x1] σ wE (fX11_isSo x1 σ) := by
  refine CF.of ⟨pX11_isSo_ok, tbX11_ok, hA.1, hA.2⟩ (plainFor_of_name plX11) (Nat.le_of_ble_eq_true rfl) ?_
  show jX11_isSo X ads sk (0, [some (.inr (some 84)), some (.inl x1)], [], σ) (fX11_isSo x1 σ)
  unfold fX11_isSo
  refine j_run 0 1 rfl ?_
  refine j_gr 1 0 rfl rfl hp0.1 rfl ?_
  refine j_run 2 3 rfl ?_
  refine j_ald 5 rfl hp0.2.1 rfl ?_
  refine j_run 6 1 rfl ?_
  refine j_gr 7 0 rfl rfl hp0.1 rfl ?_
  refine j_run 8 3 rfl ?_
  refine j_ald 11 rfl hp0.2.1 rfl ?_
  refine jc_icmp_eq 12 rfl rfl (fun h1 => ?_) (fun h1 => ?_)
  · refine j_run 30 1 rfl ?_
    refine j_goto 31 rfl rfl ?_
    exact j_zret 33 rfl rfl (by decide) rfl
  · refine j_run 13 3 rfl ?_
    refine j_gr 16 0 rfl rfl hp0.1 rfl ?_
    refine j_run 17 3 rfl ?_
    refine j_ald 20 rfl hp0.2.1 rfl ?_
    refine j_run 21 1 rfl ?_
    refine j_gr 22 0 rfl rfl hp0.1 rfl ?_
    refine j_run 23 3 rfl ?_
    refine j_ald 26 rfl hp0.2.1 rfl ?_
    refine j_cv 27 47 3 rfl rfl mwX11_comesTo hp0.1 rfl rfl (eX11_comesTo hA hp0 0 (rd σ 85 (bw (927 + x1))) (rd σ 85 (bw (943 + x1))) _) rfl rfl (rok rfl rfl) (Nat.le_of_ble_eq_true rfl) (fun q2 _ h2 => ?_)
    refine j_run 28 1 rfl ?_
    refine jc_icmp_ne 29 rfl rfl (fun h3 => ?_) (fun h3 => ?_)
    · refine j_run 30 1 rfl ?_
      refine j_goto 31 rfl rfl ?_
      exact j_zret 33 rfl rfl (by decide) rfl
    · refine j_run 32 1 rfl ?_
      exact j_zret 33 rfl rfl (by decide) rfl
abbrev jX11_clears (X : Cx) (ads : List Nat) (sk : List Sk) (ps : PS) (res : Option (Sg)) : Prop := J X mX11_clears pX11_clears tbX11 (rmD 0 0 0) 0 0 E0 (fun a => FM X mX11_clears ads sk (wV a)) ads sk ps res
theorem JX11_clears_L2 {X : Cx} {ads : List Nat} {sk : List Sk} (hA : ads.length = sk.length ∧ sk.length ≤ 1000) (hp0 : ocM sk) : ∀ (n : Nat) (x1 : Int) (σ : Sg), jX11_clears X ads sk (2, [some (.inr (some 84)), some (.inl x1)], [], σ) (fX11_clears_L2 n x1 σ) := by
  intro n
  induction n with
  | zero => intro x1 σ; exact j_none
  | succ n ih =>
    intro x1 σ
    rw [fX11_clears_L2]
    refine j_run 2 2 rfl ?_
    refine j_gr 4 21 rfl rfl hp0.1 rfl ?_
    refine j_alen 5 rfl hp0.2.2.2.2.2.2.2.2.2.2.1 rfl (by decide) ?_
    refine jc_icmp_ge 6 rfl rfl (fun h1 => ?_) (fun h1 => ?_)
    · refine j_run 7 1 rfl ?_
      refine j_gr 8 21 rfl rfl hp0.1 rfl ?_
      refine j_run 9 2 rfl ?_
      refine j_ast 11 rfl hp0.2.2.2.2.2.2.2.2.2.2.1 rfl ?_
      refine j_run 12 1 rfl ?_
      refine j_goto 13 rfl rfl ?_
      exact j_weak (leP_s (leP_s (leP_z))) (ih (bw (x1 + 1)) _)
    · refine j_run 14 1 rfl ?_
      refine j_gr 15 21 rfl rfl hp0.1 rfl ?_
      refine j_run 16 2 rfl ?_
      refine j_gr 18 0 rfl rfl hp0.1 rfl ?_
      refine j_run 19 1 rfl ?_
      refine j_ald0 20 rfl hp0.2.1 (by decide) ?_
      refine j_ast0 21 rfl hp0.2.2.2.2.2.2.2.2.2.2.1 (by decide) ?_
      exact j_vret 22 rfl rfl rfl
theorem eX11_clears {X : Cx} {ads : List Nat} {sk : List Sk} (hA : ads.length = sk.length ∧ sk.length ≤ 1000) (hp0 : ocM sk) (σ : Sg) : CF X mX11_clears ads sk [.inr (some 84)] σ wV (fX11_clears σ) := by
  refine CF.of ⟨pX11_clears_ok, tbX11_ok, hA.1, hA.2⟩ (plainFor_of_name plX11) (Nat.le_of_ble_eq_true rfl) ?_
  show jX11_clears X ads sk (0, [some (.inr (some 84)), none], [], σ) (fX11_clears σ)
  unfold fX11_clears
  refine j_run 0 2 rfl ?_
  exact j_weak (leP_s (leP_s (leP_z))) (JX11_clears_L2 hA hp0 FU 0 _)
abbrev jX11_says (X : Cx) (ads : List Nat) (sk : List Sk) (ps : PS) (res : Option (Int × Sg)) : Prop := J X mX11_says pX11_says tbX11 (rmD 3 0 0) 0 0 E0 (fun a => FM X mX11_says ads sk (wE a)) ads sk ps res
theorem JX11_says_L3 {X : Cx} {ads : List Nat} {sk : List Sk} (hA : ads.length = sk.length ∧ sk.length ≤ 1000) (hp0 : ocM sk) (x1 : Int) (x2 : Int) (x3 : Int) (k39 : Int → Sg → Option (Int × Sg)) (hk39 : ∀ (x4 : Int) (σ : Sg), jX11_says X ads sk (39, [some (.inr (some 84)), none, none, some (.inl x3), some (.inl x4)], [], σ) (k39 x4 σ)) (k81 : Sg → Option (Int × Sg)) (hk81 : ∀  (σ : Sg), jX11_says X ads sk (81, [none, none, some (.inl x2), some (.inl x3), none], [], σ) (k81 σ)) : ∀ (n : Nat) (x4 : Int) (σ : Sg), jX11_says X ads sk (3, [some (.inr (some 84)), some (.inl x1), some (.inl x2), some (.inl x3), some (.inl x4)], [], σ) (fX11_says_L3 k39 k81 x1 x2 x3 n x4 σ) := by
  intro n
  induction n with
  | zero => intro x4 σ; exact j_none
  | succ n ih =>
    intro x4 σ
    rw [fX11_says_L3]
    refine j_run 2 2 rfl ?_
    refine j_gr 4 0 rfl rfl hp0.1 rfl ?_
    refine j_run 5 1 rfl ?_
    refine j_ald0 6 rfl hp0.2.1 (by decide) ?_
    refine jc_icmp_ge 7 rfl rfl (fun h1 => ?_) (fun h1 => ?_)
    · refine j_run 8 1 rfl ?_
      refine j_gr 9 0 rfl rfl hp0.1 rfl ?_
      refine j_run 10 3 rfl ?_
      refine j_ald 13 rfl hp0.2.1 rfl ?_
      refine j_run 14 1 rfl ?_
      refine jc_icmp_ne 15 rfl rfl (fun h2 => ?_) (fun h2 => ?_)
      · refine j_run 16 2 rfl ?_
        refine j_cv 18 48 1 rfl rfl mwX11_isSo hp0.1 rfl rfl (eX11_isSo hA hp0 x4 _) rfl rfl (rok rfl rfl) (Nat.le_of_ble_eq_true rfl) (fun q3 _ h3 => ?_)
        refine jc_if_eq 19 rfl rfl (fun h4 => ?_) (fun h4 => ?_)
        · refine j_run 40 1 rfl ?_
          refine j_goto 41 rfl rfl ?_
          exact j_weak (leP_s (leP_s (leP_s (leP_s (leP_s (leP_z)))))) (ih (bw (x4 + 1)) _)
        · exact j_weak (leP_s (leP_n (leP_n (leP_s (leP_s (leP_z)))))) (hk39 x4 _)
      · refine j_run 40 1 rfl ?_
        refine j_goto 41 rfl rfl ?_
        exact j_weak (leP_s (leP_s (leP_s (leP_s (leP_s (leP_z)))))) (ih (bw (x4 + 1)) _)
    · exact j_weak (leP_n (leP_n (leP_s (leP_s (leP_n (leP_z)))))) (hk81 _)
theorem eX11_says {X : Cx} {ads : List Nat} {sk : List Sk} (hA : ads.length = sk.length ∧ sk.length ≤ 1000) (hp0 : ocM sk) (x1 : Int) (x2 : Int) (x3 : Int) (σ : Sg) : CF X mX11_says ads sk [.inr (some 84), .inl x1, .inl x2, .inl x3] σ wE (fX11_says x1 x2 x3 σ) := by
  refine CF.of ⟨pX11_says_ok, tbX11_ok, hA.1, hA.2⟩ (plainFor_of_name plX11) (Nat.le_of_ble_eq_true rfl) ?_
  show jX11_says X ads sk (0, [some (.inr (some 84)), some (.inl x1), some (.inl x2), some (.inl x3), none], [], σ) (fX11_says x1 x2 x3 σ)
  unfold fX11_says
  refine j_run 0 2 rfl ?_
  refine j_weak (leP_s (leP_s (leP_s (leP_s (leP_s (leP_z)))))) (JX11_says_L3 hA hp0 x1 x2 x3 _ (fun v5_4 s5 => ?_) _ (fun s9 => ?_) FU 0 _)
  · refine j_run 20 5 rfl ?_
    refine j_gr 25 0 rfl rfl hp0.1 rfl ?_
    refine j_run 26 3 rfl ?_
    refine j_ald 29 rfl hp0.2.1 rfl ?_
    refine j_run 30 1 rfl ?_
    refine j_gr 31 0 rfl rfl hp0.1 rfl ?_
    refine j_run 32 3 rfl ?_
    refine j_ald 35 rfl hp0.2.1 rfl ?_
    refine j_cv 36 47 3 rfl rfl mwX11_comesTo hp0.1 rfl rfl (eX11_comesTo hA hp0 0 (rd s5 85 (bw (911 + v5_4))) (rd s5 85 (bw (927 + v5_4))) _) rfl rfl (rok rfl rfl) (Nat.le_of_ble_eq_true rfl) (fun q6 _ h6 => ?_)
    refine j_csT 37 49 2 rfl rfl mwX11_lesser (eX11_lesser hA x3 q6.1 _) rfl rfl (rok rfl rfl) (Nat.le_of_ble_eq_true rfl) (fun h7 => ?_)
    refine j_csT 38 50 2 rfl rfl mwX11_greater (eX11_greater hA 0 (fX11_lesser x3 q6.1) _) rfl rfl (rok rfl rfl) (Nat.le_of_ble_eq_true rfl) (fun h8 => ?_)
    exact j_iret 39 rfl rfl rfl
  · refine j_run 42 3 rfl ?_
    refine j_csT 45 49 2 rfl rfl mwX11_lesser (eX11_lesser hA x3 x2 _) rfl rfl (rok rfl rfl) (Nat.le_of_ble_eq_true rfl) (fun h10 => ?_)
    refine j_csT 46 50 2 rfl rfl mwX11_greater (eX11_greater hA 0 (fX11_lesser x3 x2) _) rfl rfl (rok rfl rfl) (Nat.le_of_ble_eq_true rfl) (fun h11 => ?_)
    exact j_iret 47 rfl rfl rfl
abbrev jX11_laysTwo (X : Cx) (ads : List Nat) (sk : List Sk) (ps : PS) (res : Option (Sg)) : Prop := J X mX11_laysTwo pX11_laysTwo tbX11 (rmD 1 0 0) 0 0 E0 (fun a => FM X mX11_laysTwo ads sk (wV a)) ads sk ps res
theorem eX11_laysTwo {X : Cx} {ads : List Nat} {sk : List Sk} (hA : ads.length = sk.length ∧ sk.length ≤ 1000) (hp0 : ocM sk) (x1 : Int) (x2 : Int) (σ : Sg) : CF X mX11_laysTwo ads sk [.inr (some 84), .inl x1, .inl x2] σ wV (fX11_laysTwo x1 x2 σ) := by
  refine CF.of ⟨pX11_laysTwo_ok, tbX11_ok, hA.1, hA.2⟩ (plainFor_of_name plX11) (Nat.le_of_ble_eq_true rfl) ?_
  show jX11_laysTwo X ads sk (0, [some (.inr (some 84)), some (.inl x1), some (.inl x2)], [], σ) (fX11_laysTwo x1 x2 σ)
  unfold fX11_laysTwo
  refine j_run 0 1 rfl ?_
  refine j_cv 1 51 0 rfl rfl mwX11_clears hp0.1 rfl rfl (eX11_clears hA hp0 _) rfl rfl (rok rfl rfl) (Nat.le_of_ble_eq_true rfl) (fun s1 _ h1 => ?_)
  refine j_run 2 1 rfl ?_
  refine j_gr 3 21 rfl rfl hp0.1 rfl ?_
  refine j_run 4 2 rfl ?_
  refine j_gr 6 0 rfl rfl hp0.1 rfl ?_
  refine j_run 7 3 rfl ?_
  refine j_ald 10 rfl hp0.2.1 rfl ?_
  refine j_run 11 4 rfl ?_
  refine j_ast0 15 rfl hp0.2.2.2.2.2.2.2.2.2.2.1 (by decide) ?_
  refine j_run 16 1 rfl ?_
  refine j_gr 17 21 rfl rfl hp0.1 rfl ?_
  refine j_run 18 2 rfl ?_
  refine j_gr 20 0 rfl rfl hp0.1 rfl ?_
  refine j_run 21 3 rfl ?_
  refine j_ald 24 rfl hp0.2.1 rfl ?_
  refine j_run 25 1 rfl ?_
  refine j_gr 26 0 rfl rfl hp0.1 rfl ?_
  refine j_run 27 3 rfl ?_
  refine j_ald 30 rfl hp0.2.1 rfl ?_
  refine j_run 31 1 rfl ?_
  refine j_csT 32 4 1 rfl rfl mwX11_size (eX11_size hA (bw ((rd (wr s1 94 5 (band (bshr (rd s1 85 (bw (139 + x1))) x2) 1)) 85 (bw (103 + x1))) - (rd (wr s1 94 5 (band (bshr (rd s1 85 (bw (139 + x1))) x2) 1)) 85 (bw (103 + x2))))) _) rfl rfl (rok rfl rfl) (Nat.le_of_ble_eq_true rfl) (fun h2 => ?_)
  refine j_ast0 33 rfl hp0.2.2.2.2.2.2.2.2.2.2.1 (by decide) ?_
  exact j_vret 34 rfl rfl rfl
abbrev jX11_matchOf (X : Cx) (ads : List Nat) (sk : List Sk) (ps : PS) (res : Option (Int × Sg)) : Prop := J X mX11_matchOf pX11_matchOf tbX11 (rmD 4 0 0) 0 0 E0 (fun a => FM X mX11_matchOf ads sk (wE a)) ads sk ps res
theorem eX11_matchOf {X : Cx} {ads : List Nat} {sk : List Sk} (hA : ads.length = sk.length ∧ sk.length ≤ 1000) (hp0 : ocM sk) (x1 : Int) (x2 : Int) (σ : Sg) : CF X mX11_matchOf ads sk [.inr (some 84), .inl x1, .inl x2] σ wE (fX11_matchOf x1 x2 σ) := by
  refine CF.of ⟨pX11_matchOf_ok, tbX11_ok, hA.1, hA.2⟩ (plainFor_of_name plX11) (Nat.le_of_ble_eq_true rfl) ?_
  show jX11_matchOf X ads sk (0, [some (.inr (some 84)), some (.inl x1), some (.inl x2)], [], σ) (fX11_matchOf x1 x2 σ)
  unfold fX11_matchOf
  refine j_run 0 3 rfl ?_
  refine j_cv 3 52 2 rfl rfl mwX11_laysTwo hp0.1 rfl rfl (eX11_laysTwo hA hp0 x1 x2 _) rfl rfl (rok rfl rfl) (Nat.le_of_ble_eq_true rfl) (fun s1 _ h1 => ?_)
  refine j_run 4 1 rfl ?_
  refine j_gr 5 21 rfl rfl hp0.1 rfl ?_
  refine j_run 6 2 rfl ?_
  refine j_gr 8 0 rfl rfl hp0.1 rfl ?_
  refine j_run 9 3 rfl ?_
  refine j_ald 12 rfl hp0.2.1 rfl ?_
  refine j_ast0 13 rfl hp0.2.2.2.2.2.2.2.2.2.2.1 (by decide) ?_
  refine j_run 14 1 rfl ?_
  refine j_gr 15 21 rfl rfl hp0.1 rfl ?_
  refine j_run 16 2 rfl ?_
  refine j_gr 18 0 rfl rfl hp0.1 rfl ?_
  refine j_run 19 3 rfl ?_
  refine j_ald 22 rfl hp0.2.1 rfl ?_
  refine j_ast0 23 rfl hp0.2.2.2.2.2.2.2.2.2.2.1 (by decide) ?_
  refine j_run 24 1 rfl ?_
  refine j_gr 25 21 rfl rfl hp0.1 rfl ?_
  refine j_run 26 2 rfl ?_
  refine j_gr 28 0 rfl rfl hp0.1 rfl ?_
  refine j_run 29 3 rfl ?_
  refine j_ald 32 rfl hp0.2.1 rfl ?_
  refine j_ast0 33 rfl hp0.2.2.2.2.2.2.2.2.2.2.1 (by decide) ?_
  refine j_run 34 1 rfl ?_
  refine j_gr 35 21 rfl rfl hp0.1 rfl ?_
  refine j_run 36 2 rfl ?_
  refine j_gr 38 0 rfl rfl hp0.1 rfl ?_
  refine j_run 39 3 rfl ?_
  refine j_ald 42 rfl hp0.2.1 rfl ?_
  refine j_ast0 43 rfl hp0.2.2.2.2.2.2.2.2.2.2.1 (by decide) ?_
  refine j_run 44 4 rfl ?_
  refine j_gr 48 21 rfl rfl hp0.1 rfl ?_
  refine j_run 49 1 rfl ?_
  refine j_ald0 50 rfl hp0.2.2.2.2.2.2.2.2.2.2.1 (by decide) ?_
  refine j_run 51 2 rfl ?_
  refine j_cv 53 53 3 rfl rfl mwX11_says hp0.1 rfl rfl (eX11_says hA hp0 20 (bw (9 - (rd (wr (wr (wr (wr s1 94 1 (rd s1 85 (bw (103 + x1)))) 94 2 (rd (wr s1 94 1 (rd s1 85 (bw (103 + x1)))) 85 (bw (115 + x1)))) 94 3 (rd (wr (wr s1 94 1 (rd s1 85 (bw (103 + x1)))) 94 2 (rd (wr s1 94 1 (rd s1 85 (bw (103 + x1)))) 85 (bw (115 + x1)))) 85 (bw (103 + x2)))) 94 4 (rd (wr (wr (wr s1 94 1 (rd s1 85 (bw (103 + x1)))) 94 2 (rd (wr s1 94 1 (rd s1 85 (bw (103 + x1)))) 85 (bw (115 + x1)))) 94 3 (rd (wr (wr s1 94 1 (rd s1 85 (bw (103 + x1)))) 94 2 (rd (wr s1 94 1 (rd s1 85 (bw (103 + x1)))) 85 (bw (115 + x1)))) 85 (bw (103 + x2)))) 85 (bw (115 + x2)))) 94 6))) 9 _) rfl rfl (rok rfl rfl) (Nat.le_of_ble_eq_true rfl) (fun q2 _ h2 => ?_)
  exact j_iret 54 rfl rfl rfl
abbrev jX11_foundOf (X : Cx) (ads : List Nat) (sk : List Sk) (ps : PS) (res : Option (Int × Sg)) : Prop := J X mX11_foundOf pX11_foundOf tbX11 (rmD 5 0 0) 0 0 E0 (fun a => FM X mX11_foundOf ads sk (wE a)) ads sk ps res
theorem eX11_foundOf {X : Cx} {ads : List Nat} {sk : List Sk} (hA : ads.length = sk.length ∧ sk.length ≤ 1000) (hp0 : ocM sk) (x1 : Int) (x2 : Int) (σ : Sg) : CF X mX11_foundOf ads sk [.inr (some 84), .inl x1, .inl x2] σ wE (fX11_foundOf x1 x2 σ) := by
  refine CF.of ⟨pX11_foundOf_ok, tbX11_ok, hA.1, hA.2⟩ (plainFor_of_name plX11) (Nat.le_of_ble_eq_true rfl) ?_
  show jX11_foundOf X ads sk (0, [some (.inr (some 84)), some (.inl x1), some (.inl x2)], [], σ) (fX11_foundOf x1 x2 σ)
  unfold fX11_foundOf
  refine j_run 0 3 rfl ?_
  refine j_cv 3 54 2 rfl rfl mwX11_matchOf hp0.1 rfl rfl (eX11_matchOf hA hp0 x1 x2 _) rfl rfl (rok rfl rfl) (Nat.le_of_ble_eq_true rfl) (fun q1 _ h1 => ?_)
  refine j_run 4 3 rfl ?_
  refine j_cv 7 54 2 rfl rfl mwX11_matchOf hp0.1 rfl rfl (eX11_matchOf hA hp0 x2 x1 _) rfl rfl (rok rfl rfl) (Nat.le_of_ble_eq_true rfl) (fun q2 _ h2 => ?_)
  refine j_csT 8 49 2 rfl rfl mwX11_lesser (eX11_lesser hA q1.1 q2.1 _) rfl rfl (rok rfl rfl) (Nat.le_of_ble_eq_true rfl) (fun h3 => ?_)
  exact j_iret 9 rfl rfl rfl
abbrev jX11_liftOf (X : Cx) (ads : List Nat) (sk : List Sk) (ps : PS) (res : Option (Int × Sg)) : Prop := J X mX11_liftOf pX11_liftOf tbX11 (rmD 6 0 0) 0 0 E0 (fun a => FM X mX11_liftOf ads sk (wE a)) ads sk ps res
theorem eX11_liftOf {X : Cx} {ads : List Nat} {sk : List Sk} (hA : ads.length = sk.length ∧ sk.length ≤ 1000) (hp0 : ocM sk) (x1 : Int) (x2 : Int) (x3 : Int) (x4 : Int) (σ : Sg) : CF X mX11_liftOf ads sk [.inr (some 84), .inl x1, .inl x2, .inl x3, .inl x4] σ wE (fX11_liftOf x1 x2 x3 x4 σ) := by
  refine CF.of ⟨pX11_liftOf_ok, tbX11_ok, hA.1, hA.2⟩ (plainFor_of_name plX11) (Nat.le_of_ble_eq_true rfl) ?_
  show jX11_liftOf X ads sk (0, [some (.inr (some 84)), some (.inl x1), some (.inl x2), some (.inl x3), some (.inl x4), none], [], σ) (fX11_liftOf x1 x2 x3 x4 σ)
  unfold fX11_liftOf
  refine j_run 0 3 rfl ?_
  refine j_cv 3 55 2 rfl rfl mwX11_foundOf hp0.1 rfl rfl (eX11_foundOf hA hp0 x1 x2 _) rfl rfl (rok rfl rfl) (Nat.le_of_ble_eq_true rfl) (fun q1 _ h1 => ?_)
  refine j_run 4 4 rfl ?_
  refine j_cv 8 52 2 rfl rfl mwX11_laysTwo hp0.1 rfl rfl (eX11_laysTwo hA hp0 x1 x2 _) rfl rfl (rok rfl rfl) (Nat.le_of_ble_eq_true rfl) (fun s2 _ h2 => ?_)
  refine j_run 9 1 rfl ?_
  refine j_gr 10 21 rfl rfl hp0.1 rfl ?_
  refine j_run 11 2 rfl ?_
  refine j_ast0 13 rfl hp0.2.2.2.2.2.2.2.2.2.2.1 (by decide) ?_
  refine j_run 14 1 rfl ?_
  refine j_gr 15 21 rfl rfl hp0.1 rfl ?_
  refine j_run 16 3 rfl ?_
  refine j_csT 19 56 2 rfl rfl mwX11_apart (eX11_apart hA x3 x4 _) rfl rfl (rok rfl rfl) (Nat.le_of_ble_eq_true rfl) (fun h3 => ?_)
  refine j_ast0 20 rfl hp0.2.2.2.2.2.2.2.2.2.2.1 (by decide) ?_
  refine j_run 21 1 rfl ?_
  refine j_gr 22 21 rfl rfl hp0.1 rfl ?_
  refine j_run 23 2 rfl ?_
  refine j_gr 25 0 rfl rfl hp0.1 rfl ?_
  refine j_run 26 3 rfl ?_
  refine j_ald 29 rfl hp0.2.1 rfl ?_
  refine j_ast0 30 rfl hp0.2.2.2.2.2.2.2.2.2.2.1 (by decide) ?_
  refine j_run 31 7 rfl ?_
  refine j_csT 38 56 2 rfl rfl mwX11_apart (eX11_apart hA x3 x4 _) rfl rfl (rok rfl rfl) (Nat.le_of_ble_eq_true rfl) (fun h4 => ?_)
  refine j_run 39 2 rfl ?_
  refine j_cv 41 53 3 rfl rfl mwX11_says hp0.1 rfl rfl (eX11_says hA hp0 21 (bw ((bw (2 * q1.1)) - (fX11_apart x3 x4))) 99 _) rfl rfl (rok rfl rfl) (Nat.le_of_ble_eq_true rfl) (fun q5 _ h5 => ?_)
  exact j_iret 42 rfl rfl rfl
abbrev jX11_meltOf (X : Cx) (ads : List Nat) (sk : List Sk) (ps : PS) (res : Option (Int × Sg)) : Prop := J X mX11_meltOf pX11_meltOf tbX11 (rmD 4 0 0) 0 0 E0 (fun a => FM X mX11_meltOf ads sk (wE a)) ads sk ps res
theorem eX11_meltOf {X : Cx} {ads : List Nat} {sk : List Sk} (hA : ads.length = sk.length ∧ sk.length ≤ 1000) (hp0 : ocM sk) (x1 : Int) (σ : Sg) : CF X mX11_meltOf ads sk [.inr (some 84), .inl x1] σ wE (fX11_meltOf x1 σ) := by
  refine CF.of ⟨pX11_meltOf_ok, tbX11_ok, hA.1, hA.2⟩ (plainFor_of_name plX11) (Nat.le_of_ble_eq_true rfl) ?_
  show jX11_meltOf X ads sk (0, [some (.inr (some 84)), some (.inl x1)], [], σ) (fX11_meltOf x1 σ)
  unfold fX11_meltOf
  refine j_run 0 1 rfl ?_
  refine j_cv 1 51 0 rfl rfl mwX11_clears hp0.1 rfl rfl (eX11_clears hA hp0 _) rfl rfl (rok rfl rfl) (Nat.le_of_ble_eq_true rfl) (fun s1 _ h1 => ?_)
  refine j_run 2 1 rfl ?_
  refine j_gr 3 21 rfl rfl hp0.1 rfl ?_
  refine j_run 4 2 rfl ?_
  refine j_gr 6 0 rfl rfl hp0.1 rfl ?_
  refine j_run 7 3 rfl ?_
  refine j_ald 10 rfl hp0.2.1 rfl ?_
  refine j_ast0 11 rfl hp0.2.2.2.2.2.2.2.2.2.2.1 (by decide) ?_
  refine j_run 12 4 rfl ?_
  refine j_cv 16 53 3 rfl rfl mwX11_says hp0.1 rfl rfl (eX11_says hA hp0 22 0 99 _) rfl rfl (rok rfl rfl) (Nat.le_of_ble_eq_true rfl) (fun q2 _ h2 => ?_)
  exact j_iret 17 rfl rfl rfl
abbrev jX11_keeps (X : Cx) (ads : List Nat) (sk : List Sk) (ps : PS) (res : Option (Sg)) : Prop := J X mX11_keeps pX11_keeps tbX11 (rmD 0 0 0) 0 0 E0 (fun a => FM X mX11_keeps ads sk (wV a)) ads sk ps res
theorem JX11_keeps_L51 {X : Cx} {ads : List Nat} {sk : List Sk} (hA : ads.length = sk.length ∧ sk.length ≤ 1000) (hp0 : ocM sk) : ∀ (n : Nat) (x1 : Int) (σ : Sg), jX11_keeps X ads sk (51, [some (.inr (some 84)), some (.inl x1)], [], σ) (fX11_keeps_L51 n x1 σ) := by
  intro n
  induction n with
  | zero => intro x1 σ; exact j_none
  | succ n ih =>
    intro x1 σ
    rw [fX11_keeps_L51]
    refine j_run 29 2 rfl ?_
    refine jc_icmp_ge 31 rfl rfl (fun h1 => ?_) (fun h1 => ?_)
    · refine j_run 32 1 rfl ?_
      refine j_gr 33 22 rfl rfl hp0.1 rfl ?_
      refine j_run 34 2 rfl ?_
      refine j_gf 36 1 rfl rfl hp0.1 rfl ?_
      refine j_run 37 4 rfl ?_
      refine j_gr 41 0 rfl rfl hp0.1 rfl ?_
      refine j_run 42 1 rfl ?_
      refine j_ald 43 rfl hp0.2.1 rfl ?_
      refine j_ast 44 rfl hp0.2.2.2.1 rfl ?_
      refine j_run 45 1 rfl ?_
      refine j_goto 46 rfl rfl ?_
      exact j_weak (leP_s (leP_s (leP_z))) (ih (bw (x1 + 1)) _)
    · refine j_run 47 2 rfl ?_
      refine j_gf 49 1 rfl rfl hp0.1 rfl ?_
      refine j_run 50 2 rfl ?_
      refine j_pf 52 1 rfl rfl hp0.1 rfl rfl (Or.inl rfl) ?_
      exact j_vret 53 rfl rfl rfl
theorem JX11_keeps_J49 {X : Cx} {ads : List Nat} {sk : List Sk} (hA : ads.length = sk.length ∧ sk.length ≤ 1000) (hp0 : ocM sk) (σ : Sg) : jX11_keeps X ads sk (49, [some (.inr (some 84)), none], [], σ) (fX11_keeps_J49 σ) := by
  unfold fX11_keeps_J49
  refine j_run 27 2 rfl ?_
  exact j_weak (leP_s (leP_s (leP_z))) (JX11_keeps_L51 hA hp0 FU 0 _)
theorem JX11_keeps_L11 {X : Cx} {ads : List Nat} {sk : List Sk} (hA : ads.length = sk.length ∧ sk.length ≤ 1000) (hp0 : ocM sk) (k49 : Sg → Option (Sg)) (hk49 : ∀  (σ : Sg), jX11_keeps X ads sk (49, [some (.inr (some 84)), none], [], σ) (k49 σ)) : ∀ (n : Nat) (x1 : Int) (σ : Sg), jX11_keeps X ads sk (11, [some (.inr (some 84)), some (.inl x1)], [], σ) (fX11_keeps_L11 k49 n x1 σ) := by
  intro n
  induction n with
  | zero => intro x1 σ; exact j_none
  | succ n ih =>
    intro x1 σ
    rw [fX11_keeps_L11]
    refine j_run 6 2 rfl ?_
    refine jc_icmp_ge 8 rfl rfl (fun h3 => ?_) (fun h3 => ?_)
    · refine j_run 9 1 rfl ?_
      refine j_gr 10 22 rfl rfl hp0.1 rfl ?_
      refine j_run 11 2 rfl ?_
      refine j_gr 13 22 rfl rfl hp0.1 rfl ?_
      refine j_run 14 3 rfl ?_
      refine j_ald 17 rfl hp0.2.2.2.1 rfl ?_
      refine j_ast 18 rfl hp0.2.2.2.1 rfl ?_
      refine j_run 19 1 rfl ?_
      refine j_goto 20 rfl rfl ?_
      exact j_weak (leP_s (leP_s (leP_z))) (ih (bw (x1 + 1)) _)
    · refine j_run 21 2 rfl ?_
      refine j_gf 23 1 rfl rfl hp0.1 rfl ?_
      refine j_run 24 2 rfl ?_
      refine j_pf 26 1 rfl rfl hp0.1 rfl rfl (Or.inl rfl) ?_
      exact j_weak (leP_s (leP_n (leP_z))) (hk49 _)
theorem eX11_keeps {X : Cx} {ads : List Nat} {sk : List Sk} (hA : ads.length = sk.length ∧ sk.length ≤ 1000) (hp0 : ocM sk) (σ : Sg) : CF X mX11_keeps ads sk [.inr (some 84)] σ wV (fX11_keeps σ) := by
  refine CF.of ⟨pX11_keeps_ok, tbX11_ok, hA.1, hA.2⟩ (plainFor_of_name plX11) (Nat.le_of_ble_eq_true rfl) ?_
  show jX11_keeps X ads sk (0, [some (.inr (some 84)), none], [], σ) (fX11_keeps σ)
  unfold fX11_keeps
  refine j_run 0 1 rfl ?_
  refine j_gf 1 1 rfl rfl hp0.1 rfl ?_
  refine j_run 2 1 rfl ?_
  refine jc_icmp_ne 3 rfl rfl (fun h2 => ?_) (fun h2 => ?_)
  · refine j_run 4 2 rfl ?_
    exact j_weak (leP_s (leP_s (leP_z))) (JX11_keeps_L11 hA hp0 _ (JX11_keeps_J49 hA hp0) FU 0 _)
  · exact j_weak (leP_s (leP_n (leP_z))) (JX11_keeps_J49 hA hp0 _)
abbrev jX11_undo (X : Cx) (ads : List Nat) (sk : List Sk) (ps : PS) (res : Option (Int × Sg)) : Prop := J X mX11_undo pX11_undo tbX11 (rmD 0 0 0) 0 0 E0 (fun a => FM X mX11_undo ads sk (wE a)) ads sk ps res
theorem JX11_undo_L21 {X : Cx} {ads : List Nat} {sk : List Sk} (hA : ads.length = sk.length ∧ sk.length ≤ 1000) (hp0 : ocM sk) : ∀ (n : Nat) (x1 : Int) (σ : Sg), jX11_undo X ads sk (21, [some (.inr (some 84)), some (.inl x1)], [], σ) (fX11_undo_L21 n x1 σ) := by
  intro n
  induction n with
  | zero => intro x1 σ; exact j_none
  | succ n ih =>
    intro x1 σ
    rw [fX11_undo_L21]
    refine j_run 13 2 rfl ?_
    refine jc_icmp_ge 15 rfl rfl (fun h2 => ?_) (fun h2 => ?_)
    · refine j_run 16 1 rfl ?_
      refine j_gr 17 0 rfl rfl hp0.1 rfl ?_
      refine j_run 18 2 rfl ?_
      refine j_gr 20 22 rfl rfl hp0.1 rfl ?_
      refine j_run 21 2 rfl ?_
      refine j_gf 23 1 rfl rfl hp0.1 rfl ?_
      refine j_run 24 3 rfl ?_
      refine j_ald 27 rfl hp0.2.2.2.1 rfl ?_
      refine j_ast 28 rfl hp0.2.1 rfl ?_
      refine j_run 29 1 rfl ?_
      refine j_goto 30 rfl rfl ?_
      exact j_weak (leP_s (leP_s (leP_z))) (ih (bw (x1 + 1)) _)
    · refine j_run 31 1 rfl ?_
      exact j_zret 32 rfl rfl (by decide) rfl
theorem eX11_undo {X : Cx} {ads : List Nat} {sk : List Sk} (hA : ads.length = sk.length ∧ sk.length ≤ 1000) (hp0 : ocM sk) (σ : Sg) : CF X mX11_undo ads sk [.inr (some 84)] σ wE (fX11_undo σ) := by
  refine CF.of ⟨pX11_undo_ok, tbX11_ok, hA.1, hA.2⟩ (plainFor_of_name plX11) (Nat.le_of_ble_eq_true rfl) ?_
  show jX11_undo X ads sk (0, [some (.inr (some 84)), none], [], σ) (fX11_undo σ)
  unfold fX11_undo
  refine j_run 0 1 rfl ?_
  refine j_gf 1 1 rfl rfl hp0.1 rfl ?_
  refine jc_if_ne 2 rfl rfl (fun h1 => ?_) (fun h1 => ?_)
  · refine j_run 3 1 rfl ?_
    exact j_zret 4 rfl rfl (by decide) rfl
  · refine j_run 5 2 rfl ?_
    refine j_gf 7 1 rfl rfl hp0.1 rfl ?_
    refine j_run 8 2 rfl ?_
    refine j_pf 10 1 rfl rfl hp0.1 rfl rfl (Or.inl rfl) ?_
    refine j_run 11 2 rfl ?_
    exact j_weak (leP_s (leP_s (leP_z))) (JX11_undo_L21 hA hp0 FU 0 _)
abbrev jX11_notes (X : Cx) (ads : List Nat) (sk : List Sk) (ps : PS) (res : Option (Sg)) : Prop := J X mX11_notes pX11_notes tbX11 (rmD 0 0 0) 0 0 E0 (fun a => FM X mX11_notes ads sk (wV a)) ads sk ps res
theorem eX11_notes {X : Cx} {ads : List Nat} {sk : List Sk} (hA : ads.length = sk.length ∧ sk.length ≤ 1000) (hp0 : ocM sk) (x1 : Int) (x2 : Int) (x3 : Int) (σ : Sg) : CF X mX11_notes ads sk [.inr (some 84), .inl x1, .inl x2, .inl x3] σ wV (fX11_notes x1 x2 x3 σ) := by
  refine CF.of ⟨pX11_notes_ok, tbX11_ok, hA.1, hA.2⟩ (plainFor_of_name plX11) (Nat.le_of_ble_eq_true rfl) ?_
  show jX11_notes X ads sk (0, [some (.inr (some 84)), some (.inl x1), some (.inl x2), some (.inl x3), none], [], σ) (fX11_notes x1 x2 x3 σ)
  unfold fX11_notes
  refine j_run 0 1 rfl ?_
  refine j_gf 1 23 rfl rfl hp0.1 rfl ?_
  refine jc_if_eq 2 rfl rfl (fun h1 => ?_) (fun h1 => ?_)
  · exact j_vret 9 rfl rfl rfl
  · refine j_run 3 1 rfl ?_
    refine j_gr 4 0 rfl rfl hp0.1 rfl ?_
    refine j_run 5 1 rfl ?_
    refine j_ald0 6 rfl hp0.2.1 (by decide) ?_
    refine j_run 7 1 rfl ?_
    refine jc_icmp_ne 8 rfl rfl (fun h2 => ?_) (fun h2 => ?_)
    · exact j_vret 9 rfl rfl rfl
    · refine j_run 10 3 rfl ?_
      refine j_gr 13 0 rfl rfl hp0.1 rfl ?_
      refine j_run 14 1 rfl ?_
      refine j_ald0 15 rfl hp0.2.1 (by decide) ?_
      refine j_run 16 4 rfl ?_
      refine j_gr 20 0 rfl rfl hp0.1 rfl ?_
      refine j_run 21 2 rfl ?_
      refine j_gr 23 0 rfl rfl hp0.1 rfl ?_
      refine j_run 24 1 rfl ?_
      refine j_ald0 25 rfl hp0.2.1 (by decide) ?_
      refine j_ast 26 rfl hp0.2.1 rfl ?_
      refine j_run 27 1 rfl ?_
      refine j_gr 28 0 rfl rfl hp0.1 rfl ?_
      refine j_run 29 4 rfl ?_
      refine j_ast 33 rfl hp0.2.1 rfl ?_
      refine j_run 34 1 rfl ?_
      refine j_gr 35 0 rfl rfl hp0.1 rfl ?_
      refine j_run 36 4 rfl ?_
      refine j_ast 40 rfl hp0.2.1 rfl ?_
      refine j_run 41 1 rfl ?_
      refine j_gr 42 0 rfl rfl hp0.1 rfl ?_
      refine j_run 43 4 rfl ?_
      refine j_ast 47 rfl hp0.2.1 rfl ?_
      refine j_run 48 1 rfl ?_
      refine j_gr 49 0 rfl rfl hp0.1 rfl ?_
      refine j_run 50 2 rfl ?_
      refine j_ald0 52 rfl hp0.2.1 (by decide) ?_
      refine j_run 53 2 rfl ?_
      refine j_ast0 55 rfl hp0.2.1 (by decide) ?_
      exact j_vret 56 rfl rfl rfl
abbrev jX11_canVow (X : Cx) (ads : List Nat) (sk : List Sk) (σ : Sg) (ps : PS) (res : Option (Int)) : Prop := J X mX11_canVow pX11_canVow tbX11 (rmD 3 0 0) 0 0 E0 (fun a => FM X mX11_canVow ads sk ((wP σ) a)) ads sk ps res
theorem eX11_canVow {X : Cx} {ads : List Nat} {sk : List Sk} (hA : ads.length = sk.length ∧ sk.length ≤ 1000) (hp0 : ocM sk) (x1 : Int) (x2 : Int) (x3 : Int) (σ : Sg) : CF X mX11_canVow ads sk [.inr (some 84), .inl x1, .inl x2, .inl x3] σ (wP σ) (fX11_canVow x1 x2 x3 σ) := by
  refine CF.of ⟨pX11_canVow_ok, tbX11_ok, hA.1, hA.2⟩ (plainFor_of_name plX11) (Nat.le_of_ble_eq_true rfl) ?_
  show jX11_canVow X ads sk σ (0, [some (.inr (some 84)), some (.inl x1), some (.inl x2), some (.inl x3)], [], σ) (fX11_canVow x1 x2 x3 σ)
  unfold fX11_canVow
  refine j_run 0 3 rfl ?_
  refine j_cv 3 36 2 rfl rfl mwX11_areUnlike hp0.1 rfl rfl (eX11_areUnlike hA hp0 x1 x2 _) rfl rfl (rok rfl rfl) (Nat.le_of_ble_eq_true rfl) (fun r1 _ h1 => ?_)
  refine jc_if_eq 4 rfl rfl (fun h2 => ?_) (fun h2 => ?_)
  · refine j_run 19 1 rfl ?_
    exact j_zret 20 rfl rfl (by decide) rfl
  · refine j_run 5 2 rfl ?_
    refine j_cv 7 57 1 rfl rfl mwX11_isFree hp0.1 rfl rfl (eX11_isFree hA hp0 x1 _) rfl rfl (rok rfl rfl) (Nat.le_of_ble_eq_true rfl) (fun r3 _ h3 => ?_)
    refine jc_if_eq 8 rfl rfl (fun h4 => ?_) (fun h4 => ?_)
    · refine j_run 19 1 rfl ?_
      exact j_zret 20 rfl rfl (by decide) rfl
    · refine j_run 9 2 rfl ?_
      refine j_cv 11 57 1 rfl rfl mwX11_isFree hp0.1 rfl rfl (eX11_isFree hA hp0 x2 _) rfl rfl (rok rfl rfl) (Nat.le_of_ble_eq_true rfl) (fun r5 _ h5 => ?_)
      refine jc_if_eq 12 rfl rfl (fun h6 => ?_) (fun h6 => ?_)
      · refine j_run 19 1 rfl ?_
        exact j_zret 20 rfl rfl (by decide) rfl
      · refine j_run 13 2 rfl ?_
        refine j_cvT 15 2 1 rfl rfl mwX11_isField hp0.1 rfl rfl (eX11_isField hA hp0 x3 _) rfl rfl (rok rfl rfl) (Nat.le_of_ble_eq_true rfl) (fun h7 => ?_)
        refine jc_if_eq 16 rfl rfl (fun h8 => ?_) (fun h8 => ?_)
        · refine j_run 19 1 rfl ?_
          exact j_zret 20 rfl rfl (by decide) rfl
        · refine j_run 17 1 rfl ?_
          refine j_goto 18 rfl rfl ?_
          exact j_zret 20 rfl rfl (by decide) rfl
abbrev jX11_lifts (X : Cx) (ads : List Nat) (sk : List Sk) (ps : PS) (res : Option (Int × Sg)) : Prop := J X mX11_lifts pX11_lifts tbX11 (rmD 7 0 0) 0 0 E0 (fun a => FM X mX11_lifts ads sk (wE a)) ads sk ps res
theorem JX11_lifts_L6 {X : Cx} {ads : List Nat} {sk : List Sk} (hA : ads.length = sk.length ∧ sk.length ≤ 1000) (hp0 : ocM sk) (x1 : Int) (x2 : Int) (x3 : Int) (x4 : Int) : ∀ (n : Nat) (x5 : Int) (x6 : Int) (σ : Sg), jX11_lifts X ads sk (6, [some (.inr (some 84)), some (.inl x1), some (.inl x2), some (.inl x3), some (.inl x4), some (.inl x5), some (.inl x6)], [], σ) (fX11_lifts_L6 x1 x2 x3 x4 n x5 x6 σ) := by
  intro n
  induction n with
  | zero => intro x5 x6 σ; exact j_none
  | succ n ih =>
    intro x5 x6 σ
    rw [fX11_lifts_L6]
    refine j_run 4 2 rfl ?_
    refine jc_icmp_ge 6 rfl rfl (fun h1 => ?_) (fun h1 => ?_)
    · refine j_run 7 1 rfl ?_
      refine j_gr 8 24 rfl rfl hp0.1 rfl ?_
      refine j_run 9 3 rfl ?_
      refine j_cvT 12 2 1 rfl rfl mwX11_isField hp0.1 rfl rfl (eX11_isField hA hp0 x6 _) rfl rfl (rok rfl rfl) (Nat.le_of_ble_eq_true rfl) (fun h2 => ?_)
      refine jc_if_eq 13 rfl rfl (fun h3 => ?_) (fun h3 => ?_)
      · refine j_run 30 1 rfl ?_
        refine j_ast 31 rfl hp0.2.2.2.2.2.2.2.2.2.2.2.1 rfl ?_
        refine j_run 32 2 rfl ?_
        refine j_gr 34 24 rfl rfl hp0.1 rfl ?_
        refine j_run 35 1 rfl ?_
        refine j_ald 36 rfl hp0.2.2.2.2.2.2.2.2.2.2.2.1 rfl ?_
        refine j_run 37 3 rfl ?_
        refine j_goto 40 rfl rfl ?_
        exact j_weak (leP_s (leP_s (leP_s (leP_s (leP_s (leP_s (leP_s (leP_z)))))))) (ih (bw (x5 + (rd (wr σ 95 x6 0) 95 x6))) (bw (x6 + 1)) _)
      · refine j_run 14 1 rfl ?_
        refine j_gr 15 0 rfl rfl hp0.1 rfl ?_
        refine j_run 16 3 rfl ?_
        refine j_ald 19 rfl hp0.2.1 rfl ?_
        refine j_run 20 5 rfl ?_
        refine j_cv 25 58 4 rfl rfl mwX11_liftOf hp0.1 rfl rfl (eX11_liftOf hA hp0 x1 x2 x3 x6 _) rfl rfl (rok rfl rfl) (Nat.le_of_ble_eq_true rfl) (fun q4 _ h4 => ?_)
        refine j_run 26 1 rfl ?_
        refine j_div 27 rfl ?_
        refine j_csT 28 49 2 rfl rfl mwX11_lesser (eX11_lesser hA (rd σ 85 (bw (4 + x6))) (tdv q4.1 x4) _) rfl rfl (rok rfl rfl) (Nat.le_of_ble_eq_true rfl) (fun h5 => ?_)
        refine j_goto 29 rfl rfl ?_
        refine j_ast 31 rfl hp0.2.2.2.2.2.2.2.2.2.2.2.1 rfl ?_
        refine j_run 32 2 rfl ?_
        refine j_gr 34 24 rfl rfl hp0.1 rfl ?_
        refine j_run 35 1 rfl ?_
        refine j_ald 36 rfl hp0.2.2.2.2.2.2.2.2.2.2.2.1 rfl ?_
        refine j_run 37 3 rfl ?_
        refine j_goto 40 rfl rfl ?_
        exact j_weak (leP_s (leP_s (leP_s (leP_s (leP_s (leP_s (leP_s (leP_z)))))))) (ih (bw (x5 + (rd (wr q4.2 95 x6 (fX11_lesser (rd σ 85 (bw (4 + x6))) (tdv q4.1 x4))) 95 x6))) (bw (x6 + 1)) _)
    · refine j_run 41 1 rfl ?_
      exact j_iret 42 rfl rfl rfl
theorem eX11_lifts {X : Cx} {ads : List Nat} {sk : List Sk} (hA : ads.length = sk.length ∧ sk.length ≤ 1000) (hp0 : ocM sk) (x1 : Int) (x2 : Int) (x3 : Int) (x4 : Int) (σ : Sg) : CF X mX11_lifts ads sk [.inr (some 84), .inl x1, .inl x2, .inl x3, .inl x4] σ wE (fX11_lifts x1 x2 x3 x4 σ) := by
  refine CF.of ⟨pX11_lifts_ok, tbX11_ok, hA.1, hA.2⟩ (plainFor_of_name plX11) (Nat.le_of_ble_eq_true rfl) ?_
  show jX11_lifts X ads sk (0, [some (.inr (some 84)), some (.inl x1), some (.inl x2), some (.inl x3), some (.inl x4), none, none], [], σ) (fX11_lifts x1 x2 x3 x4 σ)
  unfold fX11_lifts
  refine j_run 0 4 rfl ?_
  exact j_weak (leP_s (leP_s (leP_s (leP_s (leP_s (leP_s (leP_s (leP_z)))))))) (JX11_lifts_L6 hA hp0 x1 x2 x3 x4 FU 0 0 _)
abbrev jX11_rises (X : Cx) (ads : List Nat) (sk : List Sk) (ps : PS) (res : Option (Int × Sg)) : Prop := J X mX11_rises pX11_rises tbX11 (rmD 8 0 0) 0 0 E0 (fun a => FM X mX11_rises ads sk (wE a)) ads sk ps res
theorem JX11_rises_L13 {X : Cx} {ads : List Nat} {sk : List Sk} (hA : ads.length = sk.length ∧ sk.length ≤ 1000) (hp0 : ocM sk) (x4 : Int) : ∀ (n : Nat) (x5 : Int) (σ : Sg), jX11_rises X ads sk (13, [some (.inr (some 84)), none, none, none, some (.inl x4), some (.inl x5)], [], σ) (fX11_rises_L13 x4 n x5 σ) := by
  intro n
  induction n with
  | zero => intro x5 σ; exact j_none
  | succ n ih =>
    intro x5 σ
    rw [fX11_rises_L13]
    refine j_run 9 2 rfl ?_
    refine jc_icmp_ge 11 rfl rfl (fun h2 => ?_) (fun h2 => ?_)
    · refine j_run 12 1 rfl ?_
      refine j_gr 13 0 rfl rfl hp0.1 rfl ?_
      refine j_run 14 4 rfl ?_
      refine j_ald 18 rfl hp0.2.1 rfl ?_
      refine j_run 19 1 rfl ?_
      refine j_gr 20 24 rfl rfl hp0.1 rfl ?_
      refine j_run 21 1 rfl ?_
      refine j_ald 22 rfl hp0.2.2.2.2.2.2.2.2.2.2.2.1 rfl ?_
      refine j_run 23 1 rfl ?_
      refine j_ast 24 rfl hp0.2.1 rfl ?_
      refine j_run 25 1 rfl ?_
      refine j_goto 26 rfl rfl ?_
      exact j_weak (leP_s (leP_n (leP_n (leP_n (leP_s (leP_s (leP_z))))))) (ih (bw (x5 + 1)) _)
    · refine j_run 27 1 rfl ?_
      refine j_gr 28 0 rfl rfl hp0.1 rfl ?_
      refine j_run 29 2 rfl ?_
      refine j_ald0 31 rfl hp0.2.1 (by decide) ?_
      refine j_run 32 2 rfl ?_
      refine j_ast0 34 rfl hp0.2.1 (by decide) ?_
      refine j_run 35 1 rfl ?_
      exact j_iret 36 rfl rfl rfl
theorem eX11_rises {X : Cx} {ads : List Nat} {sk : List Sk} (hA : ads.length = sk.length ∧ sk.length ≤ 1000) (hp0 : ocM sk) (x1 : Int) (x2 : Int) (x3 : Int) (σ : Sg) : CF X mX11_rises ads sk [.inr (some 84), .inl x1, .inl x2, .inl x3] σ wE (fX11_rises x1 x2 x3 σ) := by
  refine CF.of ⟨pX11_rises_ok, tbX11_ok, hA.1, hA.2⟩ (plainFor_of_name plX11) (Nat.le_of_ble_eq_true rfl) ?_
  show jX11_rises X ads sk (0, [some (.inr (some 84)), some (.inl x1), some (.inl x2), some (.inl x3), none, none], [], σ) (fX11_rises x1 x2 x3 σ)
  unfold fX11_rises
  refine j_run 0 5 rfl ?_
  refine j_cv 5 59 4 rfl rfl mwX11_lifts hp0.1 rfl rfl (eX11_lifts hA hp0 x1 x2 x3 1 _) rfl rfl (rok rfl rfl) (Nat.le_of_ble_eq_true rfl) (fun q1 _ h1 => ?_)
  refine j_run 6 3 rfl ?_
  exact j_weak (leP_s (leP_n (leP_n (leP_n (leP_s (leP_s (leP_z))))))) (JX11_rises_L13 hA hp0 q1.1 FU 0 _)
abbrev jX11_drifts (X : Cx) (ads : List Nat) (sk : List Sk) (ps : PS) (res : Option (Int × Sg)) : Prop := J X mX11_drifts pX11_drifts tbX11 (rmD 8 0 0) 0 0 E0 (fun a => FM X mX11_drifts ads sk (wE a)) ads sk ps res
theorem JX11_drifts_L13 {X : Cx} {ads : List Nat} {sk : List Sk} (hA : ads.length = sk.length ∧ sk.length ≤ 1000) (hp0 : ocM sk) (x4 : Int) (k102 : Sg → Option (Int × Sg)) (hk102 : ∀  (σ : Sg), jX11_drifts X ads sk (102, [some (.inr (some 84)), none, none, none, some (.inl x4), none, none], [], σ) (k102 σ)) : ∀ (n : Nat) (x5 : Int) (σ : Sg), jX11_drifts X ads sk (13, [some (.inr (some 84)), none, none, none, some (.inl x4), some (.inl x5), none], [], σ) (fX11_drifts_L13 k102 x4 n x5 σ) := by
  intro n
  induction n with
  | zero => intro x5 σ; exact j_none
  | succ n ih =>
    intro x5 σ
    rw [fX11_drifts_L13]
    refine j_run 9 2 rfl ?_
    refine jc_icmp_ge 11 rfl rfl (fun h2 => ?_) (fun h2 => ?_)
    · refine j_run 12 1 rfl ?_
      refine j_gr 13 0 rfl rfl hp0.1 rfl ?_
      refine j_run 14 4 rfl ?_
      refine j_ald 18 rfl hp0.2.1 rfl ?_
      refine j_run 19 1 rfl ?_
      refine j_gr 20 24 rfl rfl hp0.1 rfl ?_
      refine j_run 21 1 rfl ?_
      refine j_ald 22 rfl hp0.2.2.2.2.2.2.2.2.2.2.2.1 rfl ?_
      refine j_run 23 1 rfl ?_
      refine j_ast 24 rfl hp0.2.1 rfl ?_
      refine j_run 25 1 rfl ?_
      refine j_gr 26 24 rfl rfl hp0.1 rfl ?_
      refine j_run 27 1 rfl ?_
      refine j_ald 28 rfl hp0.2.2.2.2.2.2.2.2.2.2.2.1 rfl ?_
      refine jc_if_ne 29 rfl rfl (fun h3 => ?_) (fun h3 => ?_)
      · refine j_goto 30 rfl rfl ?_
        refine j_run 57 1 rfl ?_
        refine j_goto 58 rfl rfl ?_
        exact j_weak (leP_s (leP_n (leP_n (leP_n (leP_s (leP_s (leP_n (leP_z)))))))) (ih (bw (x5 + 1)) _)
      · refine j_run 31 3 rfl ?_
        refine j_gr 34 0 rfl rfl hp0.1 rfl ?_
        refine j_run 35 1 rfl ?_
        refine j_ald0 36 rfl hp0.2.1 (by decide) ?_
        refine j_cvT 37 60 2 rfl rfl mwX11_wentTo hp0.1 rfl rfl (eX11_wentTo hA hp0 x5 (rd (wr σ 85 (bw (4 + x5)) (bw ((rd σ 85 (bw (4 + x5))) - (rd σ 95 x5)))) 85 82) _) rfl rfl (rok rfl rfl) (Nat.le_of_ble_eq_true rfl) (fun h4 => ?_)
        refine j_run 38 2 rfl ?_
        refine j_gr 40 0 rfl rfl hp0.1 rfl ?_
        refine j_run 41 2 rfl ?_
        refine jc_icmp_ne 43 rfl rfl (fun h5 => ?_) (fun h5 => ?_)
        · refine j_run 44 1 rfl ?_
          refine j_goto 45 rfl rfl ?_
          refine j_run 49 1 rfl ?_
          refine j_ald0 50 rfl hp0.2.1 (by decide) ?_
          refine j_run 51 1 rfl ?_
          refine j_gr 52 24 rfl rfl hp0.1 rfl ?_
          refine j_run 53 1 rfl ?_
          refine j_ald 54 rfl hp0.2.2.2.2.2.2.2.2.2.2.2.1 rfl ?_
          refine j_run 55 1 rfl ?_
          refine j_ast0 56 rfl hp0.2.1 (by decide) ?_
          refine j_run 57 1 rfl ?_
          refine j_goto 58 rfl rfl ?_
          exact j_weak (leP_s (leP_n (leP_n (leP_n (leP_s (leP_s (leP_n (leP_z)))))))) (ih (bw (x5 + 1)) _)
        · refine j_run 46 3 rfl ?_
          refine j_run 49 1 rfl ?_
          refine j_ald 50 rfl hp0.2.1 rfl ?_
          refine j_run 51 1 rfl ?_
          refine j_gr 52 24 rfl rfl hp0.1 rfl ?_
          refine j_run 53 1 rfl ?_
          refine j_ald 54 rfl hp0.2.2.2.2.2.2.2.2.2.2.2.1 rfl ?_
          refine j_run 55 1 rfl ?_
          refine j_ast 56 rfl hp0.2.1 rfl ?_
          refine j_run 57 1 rfl ?_
          refine j_goto 58 rfl rfl ?_
          exact j_weak (leP_s (leP_n (leP_n (leP_n (leP_s (leP_s (leP_n (leP_z)))))))) (ih (bw (x5 + 1)) _)
    · exact j_weak (leP_s (leP_n (leP_n (leP_n (leP_s (leP_n (leP_n (leP_z)))))))) (hk102 _)
theorem JX11_drifts_L105 {X : Cx} {ads : List Nat} {sk : List Sk} (hA : ads.length = sk.length ∧ sk.length ≤ 1000) (hp0 : ocM sk) (x4 : Int) : ∀ (n : Nat) (x5 : Int) (σ : Sg), jX11_drifts X ads sk (105, [some (.inr (some 84)), none, none, none, some (.inl x4), some (.inl x5), none], [], σ) (fX11_drifts_L105 x4 n x5 σ) := by
  intro n
  induction n with
  | zero => intro x5 σ; exact j_none
  | succ n ih =>
    intro x5 σ
    rw [fX11_drifts_L105]
    refine j_run 61 2 rfl ?_
    refine jc_icmp_ge 63 rfl rfl (fun h7 => ?_) (fun h7 => ?_)
    · refine j_run 64 1 rfl ?_
      refine j_gr 65 0 rfl rfl hp0.1 rfl ?_
      refine j_run 66 5 rfl ?_
      refine j_gr 71 0 rfl rfl hp0.1 rfl ?_
      refine j_run 72 3 rfl ?_
      refine j_ald 75 rfl hp0.2.1 rfl ?_
      refine j_csT 76 49 2 rfl rfl mwX11_lesser (eX11_lesser hA 99 (rd σ 85 (bw (4 + x5))) _) rfl rfl (rok rfl rfl) (Nat.le_of_ble_eq_true rfl) (fun h8 => ?_)
      refine j_ast 77 rfl hp0.2.1 rfl ?_
      refine j_run 78 1 rfl ?_
      refine j_goto 79 rfl rfl ?_
      exact j_weak (leP_s (leP_n (leP_n (leP_n (leP_s (leP_s (leP_n (leP_z)))))))) (ih (bw (x5 + 1)) _)
    · refine j_run 80 1 rfl ?_
      exact j_iret 81 rfl rfl rfl
theorem eX11_drifts {X : Cx} {ads : List Nat} {sk : List Sk} (hA : ads.length = sk.length ∧ sk.length ≤ 1000) (hp0 : ocM sk) (x1 : Int) (x2 : Int) (x3 : Int) (σ : Sg) : CF X mX11_drifts ads sk [.inr (some 84), .inl x1, .inl x2, .inl x3] σ wE (fX11_drifts x1 x2 x3 σ) := by
  refine CF.of ⟨pX11_drifts_ok, tbX11_ok, hA.1, hA.2⟩ (plainFor_of_name plX11) (Nat.le_of_ble_eq_true rfl) ?_
  show jX11_drifts X ads sk (0, [some (.inr (some 84)), some (.inl x1), some (.inl x2), some (.inl x3), none, none, none], [], σ) (fX11_drifts x1 x2 x3 σ)
  unfold fX11_drifts
  refine j_run 0 5 rfl ?_
  refine j_cv 5 59 4 rfl rfl mwX11_lifts hp0.1 rfl rfl (eX11_lifts hA hp0 x1 x2 x3 2 _) rfl rfl (rok rfl rfl) (Nat.le_of_ble_eq_true rfl) (fun q1 _ h1 => ?_)
  refine j_run 6 3 rfl ?_
  refine j_weak (leP_s (leP_n (leP_n (leP_n (leP_s (leP_s (leP_n (leP_z)))))))) (JX11_drifts_L13 hA hp0 q1.1 _ (fun s6 => ?_) FU 0 _)
  refine j_run 59 2 rfl ?_
  exact j_weak (leP_s (leP_n (leP_n (leP_n (leP_s (leP_s (leP_n (leP_z)))))))) (JX11_drifts_L105 hA hp0 q1.1 FU 0 _)
abbrev jX11_vows (X : Cx) (ads : List Nat) (sk : List Sk) (ps : PS) (res : Option (Int × Sg)) : Prop := J X mX11_vows pX11_vows tbX11 (rmD 9 0 0) 0 0 E0 (fun a => FM X mX11_vows ads sk (wE a)) ads sk ps res
theorem JX11_vows_J67 {X : Cx} {ads : List Nat} {sk : List Sk} (hA : ads.length = sk.length ∧ sk.length ≤ 1000) (hp0 : ocM sk) (x1 : Int) (x2 : Int) (x4 : Int) (x5 : Int) (y0 : Int) (σ : Sg) : jX11_vows X ads sk (67, [some (.inr (some 84)), some (.inl x1), some (.inl x2), none, some (.inl x4), some (.inl x5)], [.inl y0, .inr (some 84)], σ) (fX11_vows_J67 x1 x2 x4 x5 y0 σ) := by
  unfold fX11_vows_J67
  refine j_run 37 2 rfl ?_
  refine j_cv 39 61 3 rfl rfl mwX11_notes hp0.1 rfl rfl (eX11_notes hA hp0 y0 x1 x5 _) rfl rfl (rok rfl rfl) (Nat.le_of_ble_eq_true rfl) (fun s2 _ h2 => ?_)
  refine j_run 40 1 rfl ?_
  refine j_gr 41 0 rfl rfl hp0.1 rfl ?_
  refine j_run 42 4 rfl ?_
  refine j_ast 46 rfl hp0.2.1 rfl ?_
  refine j_run 47 1 rfl ?_
  refine j_gr 48 0 rfl rfl hp0.1 rfl ?_
  refine j_run 49 4 rfl ?_
  refine j_ast 53 rfl hp0.2.1 rfl ?_
  refine j_run 54 1 rfl ?_
  exact j_iret 55 rfl rfl rfl
theorem JX11_vows_J42 {X : Cx} {ads : List Nat} {sk : List Sk} (hA : ads.length = sk.length ∧ sk.length ≤ 1000) (hp0 : ocM sk) (x1 : Int) (x2 : Int) (x4 : Int) (y0 : Int) (σ : Sg) : jX11_vows X ads sk (42, [some (.inr (some 84)), some (.inl x1), some (.inl x2), none, some (.inl x4), none], [.inl y0], σ) (fX11_vows_J42 x1 x2 x4 y0 σ) := by
  unfold fX11_vows_J42
  refine j_run 24 4 rfl ?_
  refine jc_icmp_lt 28 rfl rfl (fun h3 => ?_) (fun h3 => ?_)
  · refine j_run 31 2 rfl ?_
    refine jc_icmp_lt 33 rfl rfl (fun h4 => ?_) (fun h4 => ?_)
    · refine j_run 36 1 rfl ?_
      exact j_weak (leP_s (leP_s (leP_s (leP_n (leP_s (leP_s (leP_z))))))) (JX11_vows_J67 hA hp0 x1 x2 x4 y0 2 _)
    · refine j_run 34 1 rfl ?_
      refine j_goto 35 rfl rfl ?_
      exact j_weak (leP_s (leP_s (leP_s (leP_n (leP_s (leP_s (leP_z))))))) (JX11_vows_J67 hA hp0 x1 x2 x4 y0 1 _)
  · refine j_run 29 1 rfl ?_
    refine j_goto 30 rfl rfl ?_
    exact j_weak (leP_s (leP_s (leP_s (leP_n (leP_s (leP_s (leP_z))))))) (JX11_vows_J67 hA hp0 x1 x2 x4 y0 0 _)
theorem eX11_vows {X : Cx} {ads : List Nat} {sk : List Sk} (hA : ads.length = sk.length ∧ sk.length ≤ 1000) (hp0 : ocM sk) (x1 : Int) (x2 : Int) (x3 : Int) (σ : Sg) : CF X mX11_vows ads sk [.inr (some 84), .inl x1, .inl x2, .inl x3] σ wE (fX11_vows x1 x2 x3 σ) := by
  refine CF.of ⟨pX11_vows_ok, tbX11_ok, hA.1, hA.2⟩ (plainFor_of_name plX11) (Nat.le_of_ble_eq_true rfl) ?_
  show jX11_vows X ads sk (0, [some (.inr (some 84)), some (.inl x1), some (.inl x2), some (.inl x3), none, none], [], σ) (fX11_vows x1 x2 x3 σ)
  unfold fX11_vows
  refine j_run 0 3 rfl ?_
  refine j_cv 3 55 2 rfl rfl mwX11_foundOf hp0.1 rfl rfl (eX11_foundOf hA hp0 x1 x2 _) rfl rfl (rok rfl rfl) (Nat.le_of_ble_eq_true rfl) (fun q1 _ h1 => ?_)
  refine j_run 4 3 rfl ?_
  refine jc_icmp_lt 7 rfl rfl (fun h5 => ?_) (fun h5 => ?_)
  · refine j_run 14 2 rfl ?_
    refine jc_icmp_lt 16 rfl rfl (fun h6 => ?_) (fun h6 => ?_)
    · refine j_run 23 1 rfl ?_
      exact j_weak (leP_s (leP_s (leP_s (leP_n (leP_s (leP_n (leP_z))))))) (JX11_vows_J42 hA hp0 x1 x2 q1.1 0 _)
    · refine j_run 17 4 rfl ?_
      refine j_cv 21 62 3 rfl rfl mwX11_drifts hp0.1 rfl rfl (eX11_drifts hA hp0 x1 x2 x3 _) rfl rfl (rok rfl rfl) (Nat.le_of_ble_eq_true rfl) (fun q7 _ h7 => ?_)
      refine j_goto 22 rfl rfl ?_
      exact j_weak (leP_s (leP_s (leP_s (leP_n (leP_s (leP_n (leP_z))))))) (JX11_vows_J42 hA hp0 x1 x2 q1.1 q7.1 _)
  · refine j_run 8 4 rfl ?_
    refine j_cv 12 63 3 rfl rfl mwX11_rises hp0.1 rfl rfl (eX11_rises hA hp0 x1 x2 x3 _) rfl rfl (rok rfl rfl) (Nat.le_of_ble_eq_true rfl) (fun q8 _ h8 => ?_)
    refine j_goto 13 rfl rfl ?_
    exact j_weak (leP_s (leP_s (leP_s (leP_n (leP_s (leP_n (leP_z))))))) (JX11_vows_J42 hA hp0 x1 x2 q1.1 q8.1 _)
abbrev jX11_vow (X : Cx) (ads : List Nat) (sk : List Sk) (ps : PS) (res : Option (Int × Sg)) : Prop := J X mX11_vow pX11_vow tbX11 (rmD 10 0 0) 0 0 E0 (fun a => FM X mX11_vow ads sk (wE a)) ads sk ps res
theorem eX11_vow {X : Cx} {ads : List Nat} {sk : List Sk} (hA : ads.length = sk.length ∧ sk.length ≤ 1000) (hp0 : ocM sk) (x1 : Int) (x2 : Int) (x3 : Int) (σ : Sg) : CF X mX11_vow ads sk [.inr (some 84), .inl x1, .inl x2, .inl x3] σ wE (fX11_vow x1 x2 x3 σ) := by
  refine CF.of ⟨pX11_vow_ok, tbX11_ok, hA.1, hA.2⟩ (plainFor_of_name plX11) (Nat.le_of_ble_eq_true rfl) ?_
  show jX11_vow X ads sk (0, [some (.inr (some 84)), some (.inl x1), some (.inl x2), some (.inl x3)], [], σ) (fX11_vow x1 x2 x3 σ)
  unfold fX11_vow
  refine j_run 0 4 rfl ?_
  refine j_cv 4 64 3 rfl rfl mwX11_canVow hp0.1 rfl rfl (eX11_canVow hA hp0 x1 x2 x3 _) rfl rfl (rok rfl rfl) (Nat.le_of_ble_eq_true rfl) (fun r1 _ h1 => ?_)
  refine jc_if_ne 5 rfl rfl (fun h2 => ?_) (fun h2 => ?_)
  · refine j_run 6 1 rfl ?_
    exact j_iret 7 rfl rfl rfl
  · refine j_run 8 1 rfl ?_
    refine j_cv 9 65 0 rfl rfl mwX11_keeps hp0.1 rfl rfl (eX11_keeps hA hp0 _) rfl rfl (rok rfl rfl) (Nat.le_of_ble_eq_true rfl) (fun s3 _ h3 => ?_)
    refine j_run 10 2 rfl ?_
    refine j_pf 12 23 rfl rfl hp0.1 rfl rfl (Or.inr ⟨rfl, by decide⟩) ?_
    refine j_run 13 4 rfl ?_
    refine j_cv 17 66 3 rfl rfl mwX11_vows hp0.1 rfl rfl (eX11_vows hA hp0 x1 x2 x3 _) rfl rfl (rok rfl rfl) (Nat.le_of_ble_eq_true rfl) (fun q4 _ h4 => ?_)
    exact j_iret 18 rfl rfl rfl
abbrev jX11_part (X : Cx) (ads : List Nat) (sk : List Sk) (ps : PS) (res : Option (Int × Sg)) : Prop := J X mX11_part pX11_part tbX11 (rmD 2 0 0) 0 0 E0 (fun a => FM X mX11_part ads sk (wE a)) ads sk ps res
theorem eX11_part {X : Cx} {ads : List Nat} {sk : List Sk} (hA : ads.length = sk.length ∧ sk.length ≤ 1000) (hp0 : ocM sk) (x1 : Int) (x2 : Int) (σ : Sg) : CF X mX11_part ads sk [.inr (some 84), .inl x1, .inl x2] σ wE (fX11_part x1 x2 σ) := by
  refine CF.of ⟨pX11_part_ok, tbX11_ok, hA.1, hA.2⟩ (plainFor_of_name plX11) (Nat.le_of_ble_eq_true rfl) ?_
  show jX11_part X ads sk (0, [some (.inr (some 84)), some (.inl x1), some (.inl x2)], [], σ) (fX11_part x1 x2 σ)
  unfold fX11_part
  refine j_run 0 2 rfl ?_
  refine j_cvT 2 3 1 rfl rfl mwX11_isPerson hp0.1 rfl rfl (eX11_isPerson hA hp0 x1 _) rfl rfl (rok rfl rfl) (Nat.le_of_ble_eq_true rfl) (fun h1 => ?_)
  refine jc_if_eq 3 rfl rfl (fun h2 => ?_) (fun h2 => ?_)
  · refine j_run 19 1 rfl ?_
    exact j_zret 20 rfl rfl (by decide) rfl
  · refine j_run 4 2 rfl ?_
    refine j_cvT 6 3 1 rfl rfl mwX11_isPerson hp0.1 rfl rfl (eX11_isPerson hA hp0 x2 _) rfl rfl (rok rfl rfl) (Nat.le_of_ble_eq_true rfl) (fun h3 => ?_)
    refine jc_if_eq 7 rfl rfl (fun h4 => ?_) (fun h4 => ?_)
    · refine j_run 19 1 rfl ?_
      exact j_zret 20 rfl rfl (by decide) rfl
    · refine j_run 8 2 rfl ?_
      refine jc_icmp_eq 10 rfl rfl (fun h5 => ?_) (fun h5 => ?_)
      · refine j_run 19 1 rfl ?_
        exact j_zret 20 rfl rfl (by decide) rfl
      · refine j_run 11 1 rfl ?_
        refine j_gr 12 0 rfl rfl hp0.1 rfl ?_
        refine j_run 13 3 rfl ?_
        refine j_ald 16 rfl hp0.2.1 rfl ?_
        refine j_run 17 1 rfl ?_
        refine jc_icmp_eq 18 rfl rfl (fun h6 => ?_) (fun h6 => ?_)
        · refine j_run 21 1 rfl ?_
          refine j_cv 22 65 0 rfl rfl mwX11_keeps hp0.1 rfl rfl (eX11_keeps hA hp0 _) rfl rfl (rok rfl rfl) (Nat.le_of_ble_eq_true rfl) (fun s7 _ h7 => ?_)
          refine j_run 23 2 rfl ?_
          refine j_pf 25 23 rfl rfl hp0.1 rfl rfl (Or.inr ⟨rfl, by decide⟩) ?_
          refine j_run 26 1 rfl ?_
          refine j_gr 27 0 rfl rfl hp0.1 rfl ?_
          refine j_run 28 4 rfl ?_
          refine j_ast 32 rfl hp0.2.1 rfl ?_
          refine j_run 33 1 rfl ?_
          refine j_gr 34 0 rfl rfl hp0.1 rfl ?_
          refine j_run 35 4 rfl ?_
          refine j_ast 39 rfl hp0.2.1 rfl ?_
          refine j_run 40 4 rfl ?_
          refine j_csT 44 49 2 rfl rfl mwX11_lesser (eX11_lesser hA x1 x2 _) rfl rfl (rok rfl rfl) (Nat.le_of_ble_eq_true rfl) (fun h8 => ?_)
          refine j_run 45 1 rfl ?_
          refine j_cv 46 61 3 rfl rfl mwX11_notes hp0.1 rfl rfl (eX11_notes hA hp0 5 (fX11_lesser x1 x2) 0 _) rfl rfl (rok rfl rfl) (Nat.le_of_ble_eq_true rfl) (fun s9 _ h9 => ?_)
          refine j_run 47 1 rfl ?_
          exact j_zret 48 rfl rfl (by decide) rfl
        · refine j_run 19 1 rfl ?_
          exact j_zret 20 rfl rfl (by decide) rfl
abbrev jX11_sweep (X : Cx) (ads : List Nat) (sk : List Sk) (ps : PS) (res : Option (Int × Sg)) : Prop := J X mX11_sweep pX11_sweep tbX11 (rmD 3 0 0) 0 0 E0 (fun a => FM X mX11_sweep ads sk (wE a)) ads sk ps res
theorem eX11_sweep {X : Cx} {ads : List Nat} {sk : List Sk} (hA : ads.length = sk.length ∧ sk.length ≤ 1000) (hp0 : ocM sk) (x1 : Int) (σ : Sg) : CF X mX11_sweep ads sk [.inr (some 84), .inl x1] σ wE (fX11_sweep x1 σ) := by
  refine CF.of ⟨pX11_sweep_ok, tbX11_ok, hA.1, hA.2⟩ (plainFor_of_name plX11) (Nat.le_of_ble_eq_true rfl) ?_
  show jX11_sweep X ads sk (0, [some (.inr (some 84)), some (.inl x1), none], [], σ) (fX11_sweep x1 σ)
  unfold fX11_sweep
  refine j_run 0 2 rfl ?_
  refine j_cvT 2 2 1 rfl rfl mwX11_isField hp0.1 rfl rfl (eX11_isField hA hp0 x1 _) rfl rfl (rok rfl rfl) (Nat.le_of_ble_eq_true rfl) (fun h1 => ?_)
  refine jc_if_ne 3 rfl rfl (fun h2 => ?_) (fun h2 => ?_)
  · refine j_run 4 1 rfl ?_
    exact j_iret 5 rfl rfl rfl
  · refine j_run 6 1 rfl ?_
    refine j_cv 7 65 0 rfl rfl mwX11_keeps hp0.1 rfl rfl (eX11_keeps hA hp0 _) rfl rfl (rok rfl rfl) (Nat.le_of_ble_eq_true rfl) (fun s3 _ h3 => ?_)
    refine j_run 8 2 rfl ?_
    refine j_pf 10 23 rfl rfl hp0.1 rfl rfl (Or.inr ⟨rfl, by decide⟩) ?_
    refine j_run 11 1 rfl ?_
    refine j_gr 12 0 rfl rfl hp0.1 rfl ?_
    refine j_run 13 3 rfl ?_
    refine j_ald 16 rfl hp0.2.1 rfl ?_
    refine j_run 17 2 rfl ?_
    refine j_gr 19 0 rfl rfl hp0.1 rfl ?_
    refine j_run 20 4 rfl ?_
    refine j_ast 24 rfl hp0.2.1 rfl ?_
    refine j_run 25 4 rfl ?_
    refine j_cv 29 61 3 rfl rfl mwX11_notes hp0.1 rfl rfl (eX11_notes hA hp0 6 x1 (rd (wr s3 84 26 1) 85 (bw (4 + x1))) _) rfl rfl (rok rfl rfl) (Nat.le_of_ble_eq_true rfl) (fun s4 _ h4 => ?_)
    refine j_run 30 1 rfl ?_
    exact j_iret 31 rfl rfl rfl
abbrev jX11_weatherOf (X : Cx) (ads : List Nat) (sk : List Sk) (σ : Sg) (ps : PS) (res : Option (Int)) : Prop := J X mX11_weatherOf pX11_weatherOf tbX11 (rmD 0 0 0) 0 0 E0 (fun a => FM X mX11_weatherOf ads sk ((wP σ) a)) ads sk ps res
theorem JX11_weatherOf_L4 {X : Cx} {ads : List Nat} {sk : List Sk} (hA : ads.length = sk.length ∧ sk.length ≤ 1000) (hp0 : ocM sk) (σ : Sg) (x1 : Int) (k36 : Int → Option (Int)) (hk36 : ∀ (x2 : Int), jX11_weatherOf X ads sk σ (36, [some (.inr (some 84)), some (.inl x1), some (.inl x2), none, none], [], σ) (k36 x2)) : ∀ (n : Nat) (x2 : Int) (x3 : Int), jX11_weatherOf X ads sk σ (4, [some (.inr (some 84)), some (.inl x1), some (.inl x2), some (.inl x3), none], [], σ) (fX11_weatherOf_L4 σ k36 x1 n x2 x3) := by
  intro n
  induction n with
  | zero => intro x2 x3; exact j_none
  | succ n ih =>
    intro x2 x3
    rw [fX11_weatherOf_L4]
    refine j_run 4 2 rfl ?_
    refine j_gr 6 0 rfl rfl hp0.1 rfl ?_
    refine j_run 7 1 rfl ?_
    refine j_ald0 8 rfl hp0.2.1 (by decide) ?_
    refine jc_icmp_ge 9 rfl rfl (fun h1 => ?_) (fun h1 => ?_)
    · refine j_run 10 2 rfl ?_
      refine j_gr 12 0 rfl rfl hp0.1 rfl ?_
      refine j_run 13 5 rfl ?_
      refine j_ald 18 rfl hp0.2.1 rfl ?_
      refine j_run 19 3 rfl ?_
      refine j_goto 22 rfl rfl ?_
      exact j_weak (leP_s (leP_s (leP_s (leP_s (leP_n (leP_z)))))) (ih (bw (x2 + (rd σ 85 (bw (215 + (bw (2 * x3))))))) (bw (x3 + 1)))
    · exact j_weak (leP_s (leP_s (leP_s (leP_n (leP_n (leP_z)))))) (hk36 x2)
theorem JX11_weatherOf_L49 {X : Cx} {ads : List Nat} {sk : List Sk} (hA : ads.length = sk.length ∧ sk.length ≤ 1000) (hp0 : ocM sk) (σ : Sg) : ∀ (n : Nat) (x3 : Int) (x4 : Int), jX11_weatherOf X ads sk σ (49, [some (.inr (some 84)), none, none, some (.inl x3), some (.inl x4)], [], σ) (fX11_weatherOf_L49 σ n x3 x4) := by
  intro n
  induction n with
  | zero => intro x3 x4; exact j_none
  | succ n ih =>
    intro x3 x4
    rw [fX11_weatherOf_L49]
    refine j_run 33 2 rfl ?_
    refine j_gr 35 0 rfl rfl hp0.1 rfl ?_
    refine j_run 36 5 rfl ?_
    refine j_ald 41 rfl hp0.2.1 rfl ?_
    refine jc_icmp_lt 42 rfl rfl (fun h4 => ?_) (fun h4 => ?_)
    · refine j_run 56 1 rfl ?_
      refine j_gr 57 0 rfl rfl hp0.1 rfl ?_
      refine j_run 58 7 rfl ?_
      refine j_ald 65 rfl hp0.2.1 rfl ?_
      exact j_iret 66 rfl rfl rfl
    · refine j_run 43 2 rfl ?_
      refine j_gr 45 0 rfl rfl hp0.1 rfl ?_
      refine j_run 46 5 rfl ?_
      refine j_ald 51 rfl hp0.2.1 rfl ?_
      refine j_run 52 3 rfl ?_
      refine j_goto 55 rfl rfl ?_
      exact j_weak (leP_s (leP_n (leP_n (leP_s (leP_s (leP_z)))))) (ih (bw (x3 - (rd σ 85 (bw (215 + (bw (2 * x4))))))) (bw (x4 + 1)))
theorem eX11_weatherOf {X : Cx} {ads : List Nat} {sk : List Sk} (hA : ads.length = sk.length ∧ sk.length ≤ 1000) (hp0 : ocM sk) (x1 : Int) (σ : Sg) : CF X mX11_weatherOf ads sk [.inr (some 84), .inl x1] σ (wP σ) (fX11_weatherOf x1 σ) := by
  refine CF.of ⟨pX11_weatherOf_ok, tbX11_ok, hA.1, hA.2⟩ (plainFor_of_name plX11) (Nat.le_of_ble_eq_true rfl) ?_
  show jX11_weatherOf X ads sk σ (0, [some (.inr (some 84)), some (.inl x1), none, none, none], [], σ) (fX11_weatherOf x1 σ)
  unfold fX11_weatherOf
  refine j_run 0 4 rfl ?_
  refine j_weak (leP_s (leP_s (leP_s (leP_s (leP_n (leP_z)))))) (JX11_weatherOf_L4 hA hp0 σ x1 _ (fun v2_2 => ?_) FU 0 0)
  refine j_run 23 1 rfl ?_
  refine jc_if_ne 24 rfl rfl (fun h3 => ?_) (fun h3 => ?_)
  · refine j_run 25 1 rfl ?_
    exact j_iret 26 rfl rfl rfl
  · refine j_run 27 2 rfl ?_
    refine j_rem 29 rfl ?_
    refine j_run 30 3 rfl ?_
    exact j_weak (leP_s (leP_n (leP_n (leP_s (leP_s (leP_z)))))) (JX11_weatherOf_L49 hA hp0 σ FU (trm x1 v2_2) 0)
abbrev jX11_ofVow (X : Cx) (ads : List Nat) (sk : List Sk) (σ : Sg) (ps : PS) (res : Option (Int)) : Prop := J X mX11_ofVow pX11_ofVow tbX11 (rmD 0 0 0) 0 0 E0 (fun a => FM X mX11_ofVow ads sk ((wP σ) a)) ads sk ps res
theorem eX11_ofVow {X : Cx} {ads : List Nat} {sk : List Sk} (hA : ads.length = sk.length ∧ sk.length ≤ 1000) (hp0 : ocM sk) (x1 : Int) (x2 : Int) (σ : Sg) : CF X mX11_ofVow ads sk [.inr (some 84), .inl x1, .inl x2] σ (wP σ) (fX11_ofVow x1 x2 σ) := by
  refine CF.of ⟨pX11_ofVow_ok, tbX11_ok, hA.1, hA.2⟩ (plainFor_of_name plX11) (Nat.le_of_ble_eq_true rfl) ?_
  show jX11_ofVow X ads sk σ (0, [some (.inr (some 84)), some (.inl x1), some (.inl x2)], [], σ) (fX11_ofVow x1 x2 σ)
  unfold fX11_ofVow
  refine j_run 0 1 rfl ?_
  refine j_gr 1 0 rfl rfl hp0.1 rfl ?_
  refine j_run 2 7 rfl ?_
  refine j_ald 9 rfl hp0.2.1 rfl ?_
  exact j_iret 10 rfl rfl rfl
abbrev jX11_snows (X : Cx) (ads : List Nat) (sk : List Sk) (ps : PS) (res : Option (Sg)) : Prop := J X mX11_snows pX11_snows tbX11 (rmD 3 0 0) 0 0 E0 (fun a => FM X mX11_snows ads sk (wV a)) ads sk ps res
theorem JX11_snows_L13 {X : Cx} {ads : List Nat} {sk : List Sk} (hA : ads.length = sk.length ∧ sk.length ≤ 1000) (hp0 : ocM sk) (x1 : Int) : ∀ (n : Nat) (x2 : Int) (σ : Sg), jX11_snows X ads sk (13, [some (.inr (some 84)), some (.inl x1), some (.inl x2)], [], σ) (fX11_snows_L13 x1 n x2 σ) := by
  intro n
  induction n with
  | zero => intro x2 σ; exact j_none
  | succ n ih =>
    intro x2 σ
    rw [fX11_snows_L13]
    refine j_run 9 2 rfl ?_
    refine jc_icmp_ge 11 rfl rfl (fun h2 => ?_) (fun h2 => ?_)
    · refine j_run 12 2 rfl ?_
      refine j_cvT 14 2 1 rfl rfl mwX11_isField hp0.1 rfl rfl (eX11_isField hA hp0 x2 _) rfl rfl (rok rfl rfl) (Nat.le_of_ble_eq_true rfl) (fun h3 => ?_)
      refine jc_if_eq 15 rfl rfl (fun h4 => ?_) (fun h4 => ?_)
      · refine j_run 32 1 rfl ?_
        refine j_goto 33 rfl rfl ?_
        exact j_weak (leP_s (leP_s (leP_s (leP_z)))) (ih (bw (x2 + 1)) _)
      · refine j_run 16 1 rfl ?_
        refine j_gr 17 0 rfl rfl hp0.1 rfl ?_
        refine j_run 18 5 rfl ?_
        refine j_gr 23 0 rfl rfl hp0.1 rfl ?_
        refine j_run 24 3 rfl ?_
        refine j_ald 27 rfl hp0.2.1 rfl ?_
        refine j_run 28 2 rfl ?_
        refine j_csT 30 49 2 rfl rfl mwX11_lesser (eX11_lesser hA 99 (bw ((rd σ 85 (bw (4 + x2))) + x1)) _) rfl rfl (rok rfl rfl) (Nat.le_of_ble_eq_true rfl) (fun h5 => ?_)
        refine j_ast 31 rfl hp0.2.1 rfl ?_
        refine j_run 32 1 rfl ?_
        refine j_goto 33 rfl rfl ?_
        exact j_weak (leP_s (leP_s (leP_s (leP_z)))) (ih (bw (x2 + 1)) _)
    · exact j_vret 34 rfl rfl rfl
theorem eX11_snows {X : Cx} {ads : List Nat} {sk : List Sk} (hA : ads.length = sk.length ∧ sk.length ≤ 1000) (hp0 : ocM sk) (σ : Sg) : CF X mX11_snows ads sk [.inr (some 84)] σ wV (fX11_snows σ) := by
  refine CF.of ⟨pX11_snows_ok, tbX11_ok, hA.1, hA.2⟩ (plainFor_of_name plX11) (Nat.le_of_ble_eq_true rfl) ?_
  show jX11_snows X ads sk (0, [some (.inr (some 84)), none, none], [], σ) (fX11_snows σ)
  unfold fX11_snows
  refine j_run 0 2 rfl ?_
  refine j_gr 2 0 rfl rfl hp0.1 rfl ?_
  refine j_run 3 1 rfl ?_
  refine j_ald0 4 rfl hp0.2.1 (by decide) ?_
  refine j_cv 5 67 1 rfl rfl mwX11_weatherOf hp0.1 rfl rfl (eX11_weatherOf hA hp0 (rd σ 85 0) _) rfl rfl (rok rfl rfl) (Nat.le_of_ble_eq_true rfl) (fun r1 _ h1 => ?_)
  refine j_run 6 3 rfl ?_
  exact j_weak (leP_s (leP_s (leP_s (leP_z)))) (JX11_snows_L13 hA hp0 r1 FU 0 _)
abbrev jX11_vowsOfDay (X : Cx) (ads : List Nat) (sk : List Sk) (ps : PS) (res : Option (Int × Sg)) : Prop := J X mX11_vowsOfDay pX11_vowsOfDay tbX11 (rmD 10 0 0) 0 0 E0 (fun a => FM X mX11_vowsOfDay ads sk (wE a)) ads sk ps res
theorem JX11_vowsOfDay_L4 {X : Cx} {ads : List Nat} {sk : List Sk} (hA : ads.length = sk.length ∧ sk.length ≤ 1000) (hp0 : ocM sk) : ∀ (n : Nat) (x1 : Int) (x2 : Int) (σ : Sg), jX11_vowsOfDay X ads sk (4, [some (.inr (some 84)), some (.inl x1), some (.inl x2)], [], σ) (fX11_vowsOfDay_L4 n x1 x2 σ) := by
  intro n
  induction n with
  | zero => intro x1 x2 σ; exact j_none
  | succ n ih =>
    intro x1 x2 σ
    rw [fX11_vowsOfDay_L4]
    refine j_run 4 2 rfl ?_
    refine j_gr 6 0 rfl rfl hp0.1 rfl ?_
    refine j_run 7 1 rfl ?_
    refine j_ald0 8 rfl hp0.2.1 (by decide) ?_
    refine jc_icmp_ge 9 rfl rfl (fun h1 => ?_) (fun h1 => ?_)
    · refine j_run 10 3 rfl ?_
      refine j_cv 13 68 2 rfl rfl mwX11_ofVow hp0.1 rfl rfl (eX11_ofVow hA hp0 x2 0 _) rfl rfl (rok rfl rfl) (Nat.le_of_ble_eq_true rfl) (fun r2 _ h2 => ?_)
      refine j_run 14 1 rfl ?_
      refine j_gr 15 0 rfl rfl hp0.1 rfl ?_
      refine j_run 16 1 rfl ?_
      refine j_ald0 17 rfl hp0.2.1 (by decide) ?_
      refine jc_icmp_eq 18 rfl rfl (fun h3 => ?_) (fun h3 => ?_)
      · refine j_run 20 4 rfl ?_
        refine j_cv 24 68 2 rfl rfl mwX11_ofVow hp0.1 rfl rfl (eX11_ofVow hA hp0 x2 1 _) rfl rfl (rok rfl rfl) (Nat.le_of_ble_eq_true rfl) (fun r4 _ h4 => ?_)
        refine j_run 25 3 rfl ?_
        refine j_cv 28 68 2 rfl rfl mwX11_ofVow hp0.1 rfl rfl (eX11_ofVow hA hp0 x2 2 _) rfl rfl (rok rfl rfl) (Nat.le_of_ble_eq_true rfl) (fun r5 _ h5 => ?_)
        refine j_run 29 3 rfl ?_
        refine j_cv 32 68 2 rfl rfl mwX11_ofVow hp0.1 rfl rfl (eX11_ofVow hA hp0 x2 3 _) rfl rfl (rok rfl rfl) (Nat.le_of_ble_eq_true rfl) (fun r6 _ h6 => ?_)
        refine j_cv 33 64 3 rfl rfl mwX11_canVow hp0.1 rfl rfl (eX11_canVow hA hp0 r4 r5 r6 _) rfl rfl (rok rfl rfl) (Nat.le_of_ble_eq_true rfl) (fun r7 _ h7 => ?_)
        refine jc_if_eq 34 rfl rfl (fun h8 => ?_) (fun h8 => ?_)
        · refine j_run 52 4 rfl ?_
          refine j_cv 56 61 3 rfl rfl mwX11_notes hp0.1 rfl rfl (eX11_notes hA hp0 3 x2 0 _) rfl rfl (rok rfl rfl) (Nat.le_of_ble_eq_true rfl) (fun s9 _ h9 => ?_)
          refine j_run 57 2 rfl ?_
          refine j_gf 59 25 rfl rfl hp0.1 rfl ?_
          refine j_run 60 1 rfl ?_
          refine jc_icmp_ne 61 rfl rfl (fun h10 => ?_) (fun h10 => ?_)
          · refine j_run 62 1 rfl ?_
            refine j_goto 63 rfl rfl ?_
            refine j_pf 66 25 rfl rfl hp0.1 rfl rfl (Or.inl rfl) ?_
            refine j_run 67 1 rfl ?_
            refine j_goto 68 rfl rfl ?_
            exact j_weak (leP_s (leP_s (leP_s (leP_z)))) (ih x1 (bw (x2 + 1)) _)
          · refine j_run 64 1 rfl ?_
            refine j_gf 65 25 rfl rfl hp0.1 rfl ?_
            refine j_pf 66 25 rfl rfl hp0.1 rfl rfl (Or.inl rfl) ?_
            refine j_run 67 1 rfl ?_
            refine j_goto 68 rfl rfl ?_
            exact j_weak (leP_s (leP_s (leP_s (leP_z)))) (ih x1 (bw (x2 + 1)) _)
        · refine j_run 35 4 rfl ?_
          refine j_cv 39 68 2 rfl rfl mwX11_ofVow hp0.1 rfl rfl (eX11_ofVow hA hp0 x2 1 _) rfl rfl (rok rfl rfl) (Nat.le_of_ble_eq_true rfl) (fun r11 _ h11 => ?_)
          refine j_run 40 3 rfl ?_
          refine j_cv 43 68 2 rfl rfl mwX11_ofVow hp0.1 rfl rfl (eX11_ofVow hA hp0 x2 2 _) rfl rfl (rok rfl rfl) (Nat.le_of_ble_eq_true rfl) (fun r12 _ h12 => ?_)
          refine j_run 44 3 rfl ?_
          refine j_cv 47 68 2 rfl rfl mwX11_ofVow hp0.1 rfl rfl (eX11_ofVow hA hp0 x2 3 _) rfl rfl (rok rfl rfl) (Nat.le_of_ble_eq_true rfl) (fun r13 _ h13 => ?_)
          refine j_cv 48 66 3 rfl rfl mwX11_vows hp0.1 rfl rfl (eX11_vows hA hp0 r11 r12 r13 _) rfl rfl (rok rfl rfl) (Nat.le_of_ble_eq_true rfl) (fun q14 _ h14 => ?_)
          refine j_run 49 2 rfl ?_
          refine j_goto 51 rfl rfl ?_
          refine j_run 67 1 rfl ?_
          refine j_goto 68 rfl rfl ?_
          exact j_weak (leP_s (leP_s (leP_s (leP_z)))) (ih (bw (x1 + 1)) (bw (x2 + 1)) _)
      · refine j_goto 19 rfl rfl ?_
        refine j_run 67 1 rfl ?_
        refine j_goto 68 rfl rfl ?_
        exact j_weak (leP_s (leP_s (leP_s (leP_z)))) (ih x1 (bw (x2 + 1)) _)
    · refine j_run 69 1 rfl ?_
      exact j_iret 70 rfl rfl rfl
theorem eX11_vowsOfDay {X : Cx} {ads : List Nat} {sk : List Sk} (hA : ads.length = sk.length ∧ sk.length ≤ 1000) (hp0 : ocM sk) (σ : Sg) : CF X mX11_vowsOfDay ads sk [.inr (some 84)] σ wE (fX11_vowsOfDay σ) := by
  refine CF.of ⟨pX11_vowsOfDay_ok, tbX11_ok, hA.1, hA.2⟩ (plainFor_of_name plX11) (Nat.le_of_ble_eq_true rfl) ?_
  show jX11_vowsOfDay X ads sk (0, [some (.inr (some 84)), none, none], [], σ) (fX11_vowsOfDay σ)
  unfold fX11_vowsOfDay
  refine j_run 0 4 rfl ?_
  exact j_weak (leP_s (leP_s (leP_s (leP_z)))) (JX11_vowsOfDay_L4 hA hp0 FU 0 0 _)
abbrev jX11_slides (X : Cx) (ads : List Nat) (sk : List Sk) (ps : PS) (res : Option (Sg)) : Prop := J X mX11_slides pX11_slides tbX11 (rmD 3 0 0) 0 0 E0 (fun a => FM X mX11_slides ads sk (wV a)) ads sk ps res
theorem JX11_slides_J129 {X : Cx} {ads : List Nat} {sk : List Sk} (hA : ads.length = sk.length ∧ sk.length ≤ 1000) (hp0 : ocM sk) (x1 : Int) (x2 : Int) (k2 : Int → Sg → Option (Sg)) (hk2 : ∀ (x1 : Int) (σ : Sg), jX11_slides X ads sk (2, [some (.inr (some 84)), some (.inl x1), none, none], [], σ) (k2 x1 σ)) (σ : Sg) : jX11_slides X ads sk (129, [some (.inr (some 84)), some (.inl x1), some (.inl x2), none], [], σ) (fX11_slides_J129 k2 x1 x2 σ) := by
  unfold fX11_slides_J129
  refine j_run 80 4 rfl ?_
  refine j_cv 84 61 3 rfl rfl mwX11_notes hp0.1 rfl rfl (eX11_notes hA hp0 4 x1 x2 _) rfl rfl (rok rfl rfl) (Nat.le_of_ble_eq_true rfl) (fun s10 _ h10 => ?_)
  refine j_run 85 1 rfl ?_
  refine j_goto 86 rfl rfl ?_
  exact j_weak (leP_s (leP_s (leP_n (leP_n (leP_z))))) (hk2 (bw (x1 + 1)) _)
theorem JX11_slides_L2 {X : Cx} {ads : List Nat} {sk : List Sk} (hA : ads.length = sk.length ∧ sk.length ≤ 1000) (hp0 : ocM sk) : ∀ (n : Nat) (x1 : Int) (σ : Sg), jX11_slides X ads sk (2, [some (.inr (some 84)), some (.inl x1), none, none], [], σ) (fX11_slides_L2 n x1 σ) := by
  intro n
  induction n with
  | zero => intro x1 σ; exact j_none
  | succ n ih =>
    intro x1 σ
    rw [fX11_slides_L2]
    refine j_run 2 2 rfl ?_
    refine jc_icmp_ge 4 rfl rfl (fun h1 => ?_) (fun h1 => ?_)
    · refine j_run 5 1 rfl ?_
      refine j_gf 6 23 rfl rfl hp0.1 rfl ?_
      refine jc_if_eq 7 rfl rfl (fun h2 => ?_) (fun h2 => ?_)
      · exact j_vret 87 rfl rfl rfl
      · refine j_run 8 1 rfl ?_
        refine j_gr 9 0 rfl rfl hp0.1 rfl ?_
        refine j_run 10 1 rfl ?_
        refine j_ald0 11 rfl hp0.2.1 (by decide) ?_
        refine jc_if_le 12 rfl rfl (fun h3 => ?_) (fun h3 => ?_)
        · refine j_run 13 2 rfl ?_
          refine j_cvT 15 2 1 rfl rfl mwX11_isField hp0.1 rfl rfl (eX11_isField hA hp0 x1 _) rfl rfl (rok rfl rfl) (Nat.le_of_ble_eq_true rfl) (fun h4 => ?_)
          refine jc_if_eq 16 rfl rfl (fun h5 => ?_) (fun h5 => ?_)
          · refine j_run 85 1 rfl ?_
            refine j_goto 86 rfl rfl ?_
            exact j_weak (leP_s (leP_s (leP_n (leP_n (leP_z))))) (ih (bw (x1 + 1)) _)
          · refine j_run 17 1 rfl ?_
            refine j_gr 18 0 rfl rfl hp0.1 rfl ?_
            refine j_run 19 3 rfl ?_
            refine j_ald 22 rfl hp0.2.1 rfl ?_
            refine j_run 23 1 rfl ?_
            refine j_gr 24 0 rfl rfl hp0.1 rfl ?_
            refine j_run 25 1 rfl ?_
            refine j_ald0 26 rfl hp0.2.1 (by decide) ?_
            refine jc_icmp_lt 27 rfl rfl (fun h6 => ?_) (fun h6 => ?_)
            · refine j_run 85 1 rfl ?_
              refine j_goto 86 rfl rfl ?_
              exact j_weak (leP_s (leP_s (leP_n (leP_n (leP_z))))) (ih (bw (x1 + 1)) _)
            · refine j_run 28 2 rfl ?_
              refine j_cv 30 69 1 rfl rfl mwX11_draw hp0.1 rfl rfl (eX11_draw hA hp0 1000 _) rfl rfl (rok rfl rfl) (Nat.le_of_ble_eq_true rfl) (fun q7 _ h7 => ?_)
              refine j_run 31 1 rfl ?_
              refine j_gr 32 0 rfl rfl hp0.1 rfl ?_
              refine j_run 33 1 rfl ?_
              refine j_ald0 34 rfl hp0.2.1 (by decide) ?_
              refine jc_icmp_lt 35 rfl rfl (fun h8 => ?_) (fun h8 => ?_)
              · refine j_run 37 1 rfl ?_
                refine j_gr 38 0 rfl rfl hp0.1 rfl ?_
                refine j_run 39 3 rfl ?_
                refine j_ald 42 rfl hp0.2.1 rfl ?_
                refine j_run 43 1 rfl ?_
                refine j_div0 44 rfl (by decide) ?_
                refine j_run 45 4 rfl ?_
                refine j_cvT 49 60 2 rfl rfl mwX11_wentTo hp0.1 rfl rfl (eX11_wentTo hA hp0 x1 2 _) rfl rfl (rok rfl rfl) (Nat.le_of_ble_eq_true rfl) (fun h9 => ?_)
                refine j_run 50 2 rfl ?_
                refine j_gr 52 0 rfl rfl hp0.1 rfl ?_
                refine j_run 53 4 rfl ?_
                refine j_ald 57 rfl hp0.2.1 rfl ?_
                refine j_run 58 2 rfl ?_
                refine j_ast 60 rfl hp0.2.1 rfl ?_
                refine j_run 61 2 rfl ?_
                refine jc_icmp_eq 63 rfl rfl (fun h11 => ?_) (fun h11 => ?_)
                · exact j_weak (leP_s (leP_s (leP_s (leP_n (leP_z))))) (JX11_slides_J129 hA hp0 x1 (tdv (rd q7.2 85 (bw (4 + x1))) 2) _ ih _)
                · refine j_run 64 1 rfl ?_
                  refine j_gr 65 0 rfl rfl hp0.1 rfl ?_
                  refine j_run 66 5 rfl ?_
                  refine j_gr 71 0 rfl rfl hp0.1 rfl ?_
                  refine j_run 72 3 rfl ?_
                  refine j_ald 75 rfl hp0.2.1 rfl ?_
                  refine j_run 76 2 rfl ?_
                  refine j_csT 78 49 2 rfl rfl mwX11_lesser (eX11_lesser hA 99 (bw ((rd (wr q7.2 85 (bw (4 + x1)) (bw ((rd q7.2 85 (bw (4 + x1))) - (tdv (rd q7.2 85 (bw (4 + x1))) 2)))) 85 (bw (4 + (fX11_wentTo x1 2 q7.2)))) + (tdv (rd q7.2 85 (bw (4 + x1))) 2))) _) rfl rfl (rok rfl rfl) (Nat.le_of_ble_eq_true rfl) (fun h12 => ?_)
                  refine j_ast 79 rfl hp0.2.1 rfl ?_
                  exact j_weak (leP_s (leP_s (leP_s (leP_n (leP_z))))) (JX11_slides_J129 hA hp0 x1 (tdv (rd q7.2 85 (bw (4 + x1))) 2) _ ih _)
              · refine j_goto 36 rfl rfl ?_
                refine j_run 85 1 rfl ?_
                refine j_goto 86 rfl rfl ?_
                exact j_weak (leP_s (leP_s (leP_n (leP_n (leP_z))))) (ih (bw (x1 + 1)) _)
        · exact j_vret 87 rfl rfl rfl
    · exact j_vret 87 rfl rfl rfl
theorem eX11_slides {X : Cx} {ads : List Nat} {sk : List Sk} (hA : ads.length = sk.length ∧ sk.length ≤ 1000) (hp0 : ocM sk) (σ : Sg) : CF X mX11_slides ads sk [.inr (some 84)] σ wV (fX11_slides σ) := by
  refine CF.of ⟨pX11_slides_ok, tbX11_ok, hA.1, hA.2⟩ (plainFor_of_name plX11) (Nat.le_of_ble_eq_true rfl) ?_
  show jX11_slides X ads sk (0, [some (.inr (some 84)), none, none, none], [], σ) (fX11_slides σ)
  unfold fX11_slides
  refine j_run 0 2 rfl ?_
  exact j_weak (leP_s (leP_s (leP_n (leP_n (leP_z))))) (JX11_slides_L2 hA hp0 FU 0 _)
abbrev jX11_aDay (X : Cx) (ads : List Nat) (sk : List Sk) (ps : PS) (res : Option (Int × Sg)) : Prop := J X mX11_aDay pX11_aDay tbX11 (rmD 11 0 0) 0 0 E0 (fun a => FM X mX11_aDay ads sk (wE a)) ads sk ps res
theorem JX11_aDay_L15 {X : Cx} {ads : List Nat} {sk : List Sk} (hA : ads.length = sk.length ∧ sk.length ≤ 1000) (hp0 : ocM sk) (x1 : Int) : ∀ (n : Nat) (x2 : Int) (σ : Sg), jX11_aDay X ads sk (15, [some (.inr (some 84)), some (.inl x1), some (.inl x2)], [], σ) (fX11_aDay_L15 x1 n x2 σ) := by
  intro n
  induction n with
  | zero => intro x2 σ; exact j_none
  | succ n ih =>
    intro x2 σ
    rw [fX11_aDay_L15]
    refine j_run 9 2 rfl ?_
    refine jc_icmp_ge 11 rfl rfl (fun h4 => ?_) (fun h4 => ?_)
    · refine j_run 12 2 rfl ?_
      refine j_cvT 14 2 1 rfl rfl mwX11_isField hp0.1 rfl rfl (eX11_isField hA hp0 x2 _) rfl rfl (rok rfl rfl) (Nat.le_of_ble_eq_true rfl) (fun h5 => ?_)
      refine jc_if_eq 15 rfl rfl (fun h6 => ?_) (fun h6 => ?_)
      · refine j_run 34 1 rfl ?_
        refine j_goto 35 rfl rfl ?_
        exact j_weak (leP_s (leP_s (leP_s (leP_z)))) (ih (bw (x2 + 1)) _)
      · refine j_run 16 1 rfl ?_
        refine j_gr 17 0 rfl rfl hp0.1 rfl ?_
        refine j_run 18 5 rfl ?_
        refine j_gr 23 0 rfl rfl hp0.1 rfl ?_
        refine j_run 24 3 rfl ?_
        refine j_ald 27 rfl hp0.2.1 rfl ?_
        refine j_run 28 2 rfl ?_
        refine j_cv 30 73 1 rfl rfl mwX11_meltOf hp0.1 rfl rfl (eX11_meltOf hA hp0 x2 _) rfl rfl (rok rfl rfl) (Nat.le_of_ble_eq_true rfl) (fun q7 _ h7 => ?_)
        refine j_run 31 1 rfl ?_
        refine j_csT 32 50 2 rfl rfl mwX11_greater (eX11_greater hA 0 (bw ((rd σ 85 (bw (4 + x2))) - q7.1)) _) rfl rfl (rok rfl rfl) (Nat.le_of_ble_eq_true rfl) (fun h8 => ?_)
        refine j_ast 33 rfl hp0.2.1 rfl ?_
        refine j_run 34 1 rfl ?_
        refine j_goto 35 rfl rfl ?_
        exact j_weak (leP_s (leP_s (leP_s (leP_z)))) (ih (bw (x2 + 1)) _)
    · refine j_run 36 1 rfl ?_
      refine j_gr 37 0 rfl rfl hp0.1 rfl ?_
      refine j_run 38 2 rfl ?_
      refine j_ald0 40 rfl hp0.2.1 (by decide) ?_
      refine j_run 41 2 rfl ?_
      refine j_ast0 43 rfl hp0.2.1 (by decide) ?_
      refine j_run 44 1 rfl ?_
      exact j_iret 45 rfl rfl rfl
theorem eX11_aDay {X : Cx} {ads : List Nat} {sk : List Sk} (hA : ads.length = sk.length ∧ sk.length ≤ 1000) (hp0 : ocM sk) (σ : Sg) : CF X mX11_aDay ads sk [.inr (some 84)] σ wE (fX11_aDay σ) := by
  refine CF.of ⟨pX11_aDay_ok, tbX11_ok, hA.1, hA.2⟩ (plainFor_of_name plX11) (Nat.le_of_ble_eq_true rfl) ?_
  show jX11_aDay X ads sk (0, [some (.inr (some 84)), none, none], [], σ) (fX11_aDay σ)
  unfold fX11_aDay
  refine j_run 0 1 rfl ?_
  refine j_cv 1 70 0 rfl rfl mwX11_snows hp0.1 rfl rfl (eX11_snows hA hp0 _) rfl rfl (rok rfl rfl) (Nat.le_of_ble_eq_true rfl) (fun s1 _ h1 => ?_)
  refine j_run 2 1 rfl ?_
  refine j_cv 3 71 0 rfl rfl mwX11_vowsOfDay hp0.1 rfl rfl (eX11_vowsOfDay hA hp0 _) rfl rfl (rok rfl rfl) (Nat.le_of_ble_eq_true rfl) (fun q2 _ h2 => ?_)
  refine j_run 4 2 rfl ?_
  refine j_cv 6 72 0 rfl rfl mwX11_slides hp0.1 rfl rfl (eX11_slides hA hp0 _) rfl rfl (rok rfl rfl) (Nat.le_of_ble_eq_true rfl) (fun s3 _ h3 => ?_)
  refine j_run 7 2 rfl ?_
  exact j_weak (leP_s (leP_s (leP_s (leP_z)))) (JX11_aDay_L15 hA hp0 q2.1 FU 0 _)
abbrev jX11_days (X : Cx) (ads : List Nat) (sk : List Sk) (ps : PS) (res : Option (Int × Sg)) : Prop := J X mX11_days pX11_days tbX11 (rmD 12 0 0) 0 0 E0 (fun a => FM X mX11_days ads sk (wE a)) ads sk ps res
theorem JX11_days_L35 {X : Cx} {ads : List Nat} {sk : List Sk} (hA : ads.length = sk.length ∧ sk.length ≤ 1000) (hp0 : ocM sk) (x1 : Int) : ∀ (n : Nat) (x2 : Int) (x3 : Int) (σ : Sg), jX11_days X ads sk (35, [some (.inr (some 84)), some (.inl x1), some (.inl x2), some (.inl x3)], [], σ) (fX11_days_L35 x1 n x2 x3 σ) := by
  intro n
  induction n with
  | zero => intro x2 x3 σ; exact j_none
  | succ n ih =>
    intro x2 x3 σ
    rw [fX11_days_L35]
    refine j_run 22 2 rfl ?_
    refine jc_icmp_ge 24 rfl rfl (fun h4 => ?_) (fun h4 => ?_)
    · refine j_run 25 1 rfl ?_
      refine j_cv 26 65 0 rfl rfl mwX11_keeps hp0.1 rfl rfl (eX11_keeps hA hp0 _) rfl rfl (rok rfl rfl) (Nat.le_of_ble_eq_true rfl) (fun s5 _ h5 => ?_)
      refine j_run 27 2 rfl ?_
      refine j_cv 29 74 0 rfl rfl mwX11_aDay hp0.1 rfl rfl (eX11_aDay hA hp0 _) rfl rfl (rok rfl rfl) (Nat.le_of_ble_eq_true rfl) (fun q6 _ h6 => ?_)
      refine j_run 30 3 rfl ?_
      refine j_goto 33 rfl rfl ?_
      exact j_weak (leP_s (leP_s (leP_s (leP_s (leP_z))))) (ih (bw (x2 + q6.1)) (bw (x3 + 1)) _)
    · refine j_run 34 1 rfl ?_
      exact j_iret 35 rfl rfl rfl
theorem eX11_days {X : Cx} {ads : List Nat} {sk : List Sk} (hA : ads.length = sk.length ∧ sk.length ≤ 1000) (hp0 : ocM sk) (x1 : Int) (σ : Sg) : CF X mX11_days ads sk [.inr (some 84), .inl x1] σ wE (fX11_days x1 σ) := by
  refine CF.of ⟨pX11_days_ok, tbX11_ok, hA.1, hA.2⟩ (plainFor_of_name plX11) (Nat.le_of_ble_eq_true rfl) ?_
  show jX11_days X ads sk (0, [some (.inr (some 84)), some (.inl x1), none, none], [], σ) (fX11_days x1 σ)
  unfold fX11_days
  refine j_run 0 3 rfl ?_
  refine j_csT 3 0 3 rfl rfl mwX11_isIn (eX11_isIn hA x1 1 60 _) rfl rfl (rok rfl rfl) (Nat.le_of_ble_eq_true rfl) (fun h1 => ?_)
  refine jc_if_eq 4 rfl rfl (fun h2 => ?_) (fun h2 => ?_)
  · refine j_run 13 1 rfl ?_
    exact j_iret 14 rfl rfl rfl
  · refine j_run 5 1 rfl ?_
    refine j_gr 6 0 rfl rfl hp0.1 rfl ?_
    refine j_run 7 1 rfl ?_
    refine j_ald0 8 rfl hp0.2.1 (by decide) ?_
    refine j_run 9 3 rfl ?_
    refine jc_icmp_le 12 rfl rfl (fun h3 => ?_) (fun h3 => ?_)
    · refine j_run 13 1 rfl ?_
      exact j_iret 14 rfl rfl rfl
    · refine j_run 15 4 rfl ?_
      refine j_pf 19 23 rfl rfl hp0.1 rfl rfl (Or.inr ⟨rfl, by decide⟩) ?_
      refine j_run 20 2 rfl ?_
      exact j_weak (leP_s (leP_s (leP_s (leP_s (leP_z))))) (JX11_days_L35 hA hp0 x1 FU 0 0 _)
abbrev jX11_of (X : Cx) (ads : List Nat) (sk : List Sk) (σ : Sg) (ps : PS) (res : Option (Int)) : Prop := J X mX11_of pX11_of tbX11 (rmD 2 0 0) 0 0 E0 (fun a => FM X mX11_of ads sk ((wP σ) a)) ads sk ps res
theorem eX11_of {X : Cx} {ads : List Nat} {sk : List Sk} (hA : ads.length = sk.length ∧ sk.length ≤ 1000) (hp0 : ocM sk) (x1 : Int) (x2 : Int) (σ : Sg) : CF X mX11_of ads sk [.inr (some 84), .inl x1, .inl x2] σ (wP σ) (fX11_of x1 x2 σ) := by
  refine CF.of ⟨pX11_of_ok, tbX11_ok, hA.1, hA.2⟩ (plainFor_of_name plX11) (Nat.le_of_ble_eq_true rfl) ?_
  show jX11_of X ads sk σ (0, [some (.inr (some 84)), some (.inl x1), some (.inl x2)], [], σ) (fX11_of x1 x2 σ)
  unfold fX11_of
  refine j_run 0 2 rfl ?_
  refine j_cvT 2 3 1 rfl rfl mwX11_isPerson hp0.1 rfl rfl (eX11_isPerson hA hp0 x1 _) rfl rfl (rok rfl rfl) (Nat.le_of_ble_eq_true rfl) (fun h1 => ?_)
  refine jc_if_ne 3 rfl rfl (fun h2 => ?_) (fun h2 => ?_)
  · refine j_run 4 1 rfl ?_
    exact j_iret 5 rfl rfl rfl
  · refine j_run 6 1 rfl ?_
    refine jc_ite (fun h3 => ?_) (fun h3 => ?_)
    · refine j_tsIn 7 rfl h3 ⟨by decide, by decide⟩ rfl rfl ?_
      refine j_run 8 1 rfl ?_
      refine j_gr 9 0 rfl rfl hp0.1 rfl ?_
      refine j_run 10 3 rfl ?_
      refine j_ald 13 rfl hp0.2.1 rfl ?_
      exact j_iret 14 rfl rfl rfl
    refine jc_ite (fun h4 => ?_) (fun h4 => ?_)
    · refine j_tsIn 7 rfl h4 ⟨by decide, by decide⟩ rfl rfl ?_
      refine j_run 15 1 rfl ?_
      refine j_gr 16 0 rfl rfl hp0.1 rfl ?_
      refine j_run 17 3 rfl ?_
      refine j_ald 20 rfl hp0.2.1 rfl ?_
      exact j_iret 21 rfl rfl rfl
    refine jc_ite (fun h5 => ?_) (fun h5 => ?_)
    · refine j_tsIn 7 rfl h5 ⟨by decide, by decide⟩ rfl rfl ?_
      refine j_run 22 1 rfl ?_
      refine j_gr 23 0 rfl rfl hp0.1 rfl ?_
      refine j_run 24 3 rfl ?_
      refine j_ald 27 rfl hp0.2.1 rfl ?_
      exact j_iret 28 rfl rfl rfl
    refine jc_ite (fun h6 => ?_) (fun h6 => ?_)
    · refine j_tsIn 7 rfl h6 ⟨by decide, by decide⟩ rfl rfl ?_
      refine j_run 29 1 rfl ?_
      refine j_gr 30 0 rfl rfl hp0.1 rfl ?_
      refine j_run 31 3 rfl ?_
      refine j_ald 34 rfl hp0.2.1 rfl ?_
      exact j_iret 35 rfl rfl rfl
    refine jc_ite (fun h7 => ?_) (fun h7 => ?_)
    · refine j_tsIn 7 rfl h7 ⟨by decide, by decide⟩ rfl rfl ?_
      refine j_run 36 1 rfl ?_
      refine j_gr 37 0 rfl rfl hp0.1 rfl ?_
      refine j_run 38 3 rfl ?_
      refine j_ald 41 rfl hp0.2.1 rfl ?_
      exact j_iret 42 rfl rfl rfl
    refine jc_ite (fun h8 => ?_) (fun h8 => ?_)
    · refine j_tsIn 7 rfl h8 ⟨by decide, by decide⟩ rfl rfl ?_
      refine j_run 43 1 rfl ?_
      refine j_gr 44 0 rfl rfl hp0.1 rfl ?_
      refine j_run 45 3 rfl ?_
      refine j_ald 48 rfl hp0.2.1 rfl ?_
      exact j_iret 49 rfl rfl rfl
    refine j_tsOut 7 rfl (by omega) rfl ?_
    refine j_run 50 1 rfl ?_
    exact j_iret 51 rfl rfl rfl
