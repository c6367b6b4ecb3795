/-! each method does what its function says -/
abbrev jX11_hasWay (X : Cx) (ads : List Nat) (sk : List Sk) (ps : PS) (res : Option (Int × Sg)) : Prop := J X mX11_hasWay pX11_hasWay tbX11 (rmD 5 0 0) 0 0 E0 (fun a => FM X mX11_hasWay ads sk (wE a)) ads sk ps res
theorem JX11_hasWay_L2 {X : Cx} {ads : List Nat} {sk : List Sk} (hA : ads.length = sk.length ∧ sk.length ≤ 1000) (hp0 : ocM sk) (x1 : Int) (x2 : Int) (k22 : Sg → Option (Int × Sg)) (hk22 : ∀  (σ : Sg), jX11_hasWay X ads sk (22, [some (.inr (some 84)), some (.inl x1), some (.inl x2), none], [], σ) (k22 σ)) : ∀ (n : Nat) (x3 : Int) (σ : Sg), jX11_hasWay X ads sk (2, [some (.inr (some 84)), some (.inl x1), some (.inl x2), some (.inl x3)], [], σ) (fX11_hasWay_L2 k22 x1 x2 n x3 σ) := by
  intro n
  induction n with
  | zero => intro x3 σ; exact j_none
  | succ n ih =>
    intro x3 σ
    rw [fX11_hasWay_L2]
    refine j_run 2 2 rfl ?_
    refine jc_icmp_ge 4 rfl rfl (fun h1 => ?_) (fun h1 => ?_)
    · refine j_run 5 1 rfl ?_
      refine j_gr 6 32 rfl rfl hp0.1 rfl ?_
      refine j_run 7 2 rfl ?_
      refine j_ast 9 rfl hp0.2.2.2.2.2.2.2.2.2.2.2.2.2.2.2.2.2.1 rfl ?_
      refine j_run 10 1 rfl ?_
      refine j_goto 11 rfl rfl ?_
      exact j_weak (leP_s (leP_s (leP_s (leP_s (leP_z))))) (ih (bw (x3 + 1)) _)
    · exact j_weak (leP_s (leP_s (leP_s (leP_n (leP_z))))) (hk22 _)
theorem JX11_hasWay_L43 {X : Cx} {ads : List Nat} {sk : List Sk} (hA : ads.length = sk.length ∧ sk.length ≤ 1000) (hp0 : ocM sk) (x1 : Int) (x2 : Int) (k107 : Sg → Option (Int × Sg)) (hk107 : ∀  (σ : Sg), jX11_hasWay X ads sk (107, [some (.inr (some 84)), some (.inl x1), some (.inl x2), none], [], σ) (k107 σ)) : ∀ (n : Nat) (x3 : Int) (σ : Sg), jX11_hasWay X ads sk (43, [some (.inr (some 84)), some (.inl x1), some (.inl x2), some (.inl x3)], [], σ) (fX11_hasWay_L43 k107 x1 x2 n x3 σ) := by
  intro n
  induction n with
  | zero => intro x3 σ; exact j_none
  | succ n ih =>
    intro x3 σ
    rw [fX11_hasWay_L43]
    refine j_run 29 2 rfl ?_
    refine j_gf 31 34 rfl rfl hp0.1 rfl ?_
    refine jc_icmp_ge 32 rfl rfl (fun h4 => ?_) (fun h4 => ?_)
    · refine j_run 33 1 rfl ?_
      refine j_gr 34 32 rfl rfl hp0.1 rfl ?_
      refine j_run 35 3 rfl ?_
      refine j_ald 38 rfl hp0.2.2.2.2.2.2.2.2.2.2.2.2.2.2.2.2.2.1 rfl ?_
      refine j_run 39 1 rfl ?_
      refine jc_icmp_ne 40 rfl rfl (fun h5 => ?_) (fun h5 => ?_)
      · refine j_run 41 1 rfl ?_
        refine j_gr 42 33 rfl rfl hp0.1 rfl ?_
        refine j_run 43 1 rfl ?_
        refine j_ald 44 rfl hp0.2.2.2.2.2.2.2.2.2.2.2.2.2.2.2.2.2.2.1 rfl ?_
        refine j_run 45 1 rfl ?_
        refine j_rem0 46 rfl (by decide) ?_
        refine jc_if_ne 47 rfl rfl (fun h6 => ?_) (fun h6 => ?_)
        · refine j_run 48 2 rfl ?_
          refine j_gr 50 33 rfl rfl hp0.1 rfl ?_
          refine j_run 51 1 rfl ?_
          refine j_ald 52 rfl hp0.2.2.2.2.2.2.2.2.2.2.2.2.2.2.2.2.2.2.1 rfl ?_
          refine j_run 53 1 rfl ?_
          refine j_div0 54 rfl (by decide) ?_
          refine j_cv 55 93 1 rfl rfl mwX11_goesIn hp0.1 rfl rfl (eX11_goesIn hA hp0 (tdv (rd σ 102 x3) 2) _) rfl rfl (rok rfl rfl) (Nat.le_of_ble_eq_true rfl) (fun s7 _ h7 => ?_)
          refine j_goto 56 rfl rfl ?_
          refine j_run 65 1 rfl ?_
          refine j_goto 66 rfl rfl ?_
          exact j_weak (leP_s (leP_s (leP_s (leP_s (leP_z))))) (ih (bw (x3 + 1)) _)
        · refine j_run 57 2 rfl ?_
          refine j_gr 59 33 rfl rfl hp0.1 rfl ?_
          refine j_run 60 1 rfl ?_
          refine j_ald 61 rfl hp0.2.2.2.2.2.2.2.2.2.2.2.2.2.2.2.2.2.2.1 rfl ?_
          refine j_run 62 1 rfl ?_
          refine j_div0 63 rfl (by decide) ?_
          refine j_cv 64 94 1 rfl rfl mwX11_goesOut hp0.1 rfl rfl (eX11_goesOut hA hp0 (tdv (rd σ 102 x3) 2) _) rfl rfl (rok rfl rfl) (Nat.le_of_ble_eq_true rfl) (fun s8 _ h8 => ?_)
          refine j_run 65 1 rfl ?_
          refine j_goto 66 rfl rfl ?_
          exact j_weak (leP_s (leP_s (leP_s (leP_s (leP_z))))) (ih (bw (x3 + 1)) _)
      · exact j_weak (leP_s (leP_s (leP_s (leP_n (leP_z))))) (hk107 _)
    · exact j_weak (leP_s (leP_s (leP_s (leP_n (leP_z))))) (hk107 _)
theorem JX11_hasWay_L125 {X : Cx} {ads : List Nat} {sk : List Sk} (hA : ads.length = sk.length ∧ sk.length ≤ 1000) (hp0 : ocM sk) (x1 : Int) : ∀ (n : Nat) (x3 : Int) (σ : Sg), jX11_hasWay X ads sk (125, [some (.inr (some 84)), some (.inl x1), none, some (.inl x3)], [], σ) (fX11_hasWay_L125 x1 n x3 σ) := by
  intro n
  induction n with
  | zero => intro x3 σ; exact j_none
  | succ n ih =>
    intro x3 σ
    rw [fX11_hasWay_L125]
    refine j_run 81 6 rfl ?_
    refine jc_icmp_eq 87 rfl rfl (fun h11 => ?_) (fun h11 => ?_)
    · refine j_run 101 1 rfl ?_
      exact j_zret 102 rfl rfl (by decide) rfl
    · refine j_run 88 2 rfl ?_
      refine j_gr 90 32 rfl rfl hp0.1 rfl ?_
      refine j_run 91 1 rfl ?_
      refine j_ald 92 rfl hp0.2.2.2.2.2.2.2.2.2.2.2.2.2.2.2.2.2.1 rfl ?_
      refine j_run 93 1 rfl ?_
      refine j_cv 94 95 2 rfl rfl mwX11_turns hp0.1 rfl rfl (eX11_turns hA hp0 (rd σ 101 x3) x3 _) rfl rfl (rok rfl rfl) (Nat.le_of_ble_eq_true rfl) (fun s12 _ h12 => ?_)
      refine j_run 95 1 rfl ?_
      refine j_gr 96 32 rfl rfl hp0.1 rfl ?_
      refine j_run 97 1 rfl ?_
      refine j_ald 98 rfl hp0.2.2.2.2.2.2.2.2.2.2.2.2.2.2.2.2.2.1 rfl ?_
      refine j_run 99 1 rfl ?_
      refine j_goto 100 rfl rfl ?_
      exact j_weak (leP_s (leP_s (leP_n (leP_s (leP_z))))) (ih (rd s12 101 x3) _)
theorem eX11_hasWay {X : Cx} {ads : List Nat} {sk : List Sk} (hA : ads.length = sk.length ∧ sk.length ≤ 1000) (hp0 : ocM sk) (x1 : Int) (x2 : Int) (σ : Sg) : CF X mX11_hasWay ads sk [.inr (some 84), .inl x1, .inl x2] σ wE (fX11_hasWay x1 x2 σ) := by
  refine CF.of ⟨pX11_hasWay_ok, tbX11_ok, hA.1, hA.2⟩ (plainFor_of_name plX11) (Nat.le_of_ble_eq_true rfl) ?_
  show jX11_hasWay X ads sk (0, [some (.inr (some 84)), some (.inl x1), some (.inl x2), none], [], σ) (fX11_hasWay x1 x2 σ)
  unfold fX11_hasWay
  refine j_run 0 2 rfl ?_
  refine j_weak (leP_s (leP_s (leP_s (leP_s (leP_z))))) (JX11_hasWay_L2 hA hp0 x1 x2 _ (fun s2 => ?_) FU 0 _)
  refine j_run 12 2 rfl ?_
  refine j_pf 14 34 rfl rfl hp0.1 rfl rfl (Or.inl rfl) ?_
  refine j_run 15 11 rfl ?_
  refine j_cv 26 91 2 rfl rfl mwX11_isComeTo hp0.1 rfl rfl (eX11_isComeTo hA hp0 (bw ((bw (2 * x1)) + 1)) (bw ((bw (2 * x1)) + 1)) _) rfl rfl (rok rfl rfl) (Nat.le_of_ble_eq_true rfl) (fun s3 _ h3 => ?_)
  refine j_run 27 2 rfl ?_
  refine j_weak (leP_s (leP_s (leP_s (leP_s (leP_z))))) (JX11_hasWay_L43 hA hp0 x1 x2 _ (fun s9 => ?_) FU 0 _)
  refine j_run 67 1 rfl ?_
  refine j_gr 68 32 rfl rfl hp0.1 rfl ?_
  refine j_run 69 3 rfl ?_
  refine j_ald 72 rfl hp0.2.2.2.2.2.2.2.2.2.2.2.2.2.2.2.2.2.1 rfl ?_
  refine j_run 73 1 rfl ?_
  refine jc_icmp_ne 74 rfl rfl (fun h10 => ?_) (fun h10 => ?_)
  · refine j_run 75 1 rfl ?_
    exact j_zret 76 rfl rfl (by decide) rfl
  · refine j_run 77 4 rfl ?_
    exact j_weak (leP_s (leP_s (leP_n (leP_s (leP_z))))) (JX11_hasWay_L125 hA hp0 x1 FU (bw (2 * x2)) _)
abbrev jX11_cut (X : Cx) (ads : List Nat) (sk : List Sk) (ps : PS) (res : Option (Int × Sg)) : Prop := J X mX11_cut pX11_cut tbX11 (rmD 6 0 0) 0 0 E0 (fun a => FM X mX11_cut ads sk (wE a)) ads sk ps res
theorem JX11_cut_L29 {X : Cx} {ads : List Nat} {sk : List Sk} (hA : ads.length = sk.length ∧ sk.length ≤ 1000) (hp0 : ocM sk) (x1 : Int) (x2 : Int) (k48 : Sg → Option (Int × Sg)) (hk48 : ∀  (σ : Sg), jX11_cut X ads sk (48, [some (.inr (some 84)), some (.inl x1), some (.inl x2), none], [], σ) (k48 σ)) : ∀ (n : Nat) (x3 : Int) (σ : Sg), jX11_cut X ads sk (29, [some (.inr (some 84)), some (.inl x1), some (.inl x2), some (.inl x3)], [], σ) (fX11_cut_L29 k48 x1 x2 n x3 σ) := by
  intro n
  induction n with
  | zero => intro x3 σ; exact j_none
  | succ n ih =>
    intro x3 σ
    rw [fX11_cut_L29]
    refine j_run 17 2 rfl ?_
    refine jc_icmp_ge 19 rfl rfl (fun h7 => ?_) (fun h7 => ?_)
    · refine j_run 20 1 rfl ?_
      refine j_gr 21 35 rfl rfl hp0.1 rfl ?_
      refine j_run 22 2 rfl ?_
      refine j_ast 24 rfl hp0.2.2.2.2.2.2.2.2.2.2.2.2.2.2.2.2.2.2.2.1 rfl ?_
      refine j_run 25 1 rfl ?_
      refine j_goto 26 rfl rfl ?_
      exact j_weak (leP_s (leP_s (leP_s (leP_s (leP_z))))) (ih (bw (x3 + 1)) _)
    · exact j_weak (leP_s (leP_s (leP_s (leP_n (leP_z))))) (hk48 _)
theorem JX11_cut_L50 {X : Cx} {ads : List Nat} {sk : List Sk} (hA : ads.length = sk.length ∧ sk.length ≤ 1000) (hp0 : ocM sk) (x1 : Int) (x2 : Int) (k70 : Sg → Option (Int × Sg)) (hk70 : ∀  (σ : Sg), jX11_cut X ads sk (70, [some (.inr (some 84)), some (.inl x1), some (.inl x2), none], [], σ) (k70 σ)) : ∀ (n : Nat) (x3 : Int) (σ : Sg), jX11_cut X ads sk (50, [some (.inr (some 84)), some (.inl x1), some (.inl x2), some (.inl x3)], [], σ) (fX11_cut_L50 k70 x1 x2 n x3 σ) := by
  intro n
  induction n with
  | zero => intro x3 σ; exact j_none
  | succ n ih =>
    intro x3 σ
    rw [fX11_cut_L50]
    refine j_run 29 2 rfl ?_
    refine jc_icmp_ge 31 rfl rfl (fun h9 => ?_) (fun h9 => ?_)
    · refine j_run 32 1 rfl ?_
      refine j_gr 33 36 rfl rfl hp0.1 rfl ?_
      refine j_run 34 2 rfl ?_
      refine j_ast 36 rfl hp0.2.2.2.2.2.2.2.2.2.2.2.2.2.2.2.2.2.2.2.2.1 rfl ?_
      refine j_run 37 1 rfl ?_
      refine j_goto 38 rfl rfl ?_
      exact j_weak (leP_s (leP_s (leP_s (leP_s (leP_z))))) (ih (bw (x3 + 1)) _)
    · exact j_weak (leP_s (leP_s (leP_s (leP_n (leP_z))))) (hk70 _)
theorem JX11_cut_L72 {X : Cx} {ads : List Nat} {sk : List Sk} (hA : ads.length = sk.length ∧ sk.length ≤ 1000) (hp0 : ocM sk) (x1 : Int) (x2 : Int) : ∀ (n : Nat) (x3 : Int) (σ : Sg), jX11_cut X ads sk (72, [some (.inr (some 84)), some (.inl x1), some (.inl x2), some (.inl x3)], [], σ) (fX11_cut_L72 x1 x2 n x3 σ) := by
  intro n
  induction n with
  | zero => intro x3 σ; exact j_none
  | succ n ih =>
    intro x3 σ
    rw [fX11_cut_L72]
    refine j_run 41 3 rfl ?_
    refine j_cv 44 96 2 rfl rfl mwX11_hasWay hp0.1 rfl rfl (eX11_hasWay hA hp0 x1 x2 _) rfl rfl (rok rfl rfl) (Nat.le_of_ble_eq_true rfl) (fun q11 _ h11 => ?_)
    refine jc_if_eq 45 rfl rfl (fun h12 => ?_) (fun h12 => ?_)
    · refine j_run 48 1 rfl ?_
      exact j_iret 49 rfl rfl rfl
    · refine j_run 46 1 rfl ?_
      refine j_goto 47 rfl rfl ?_
      exact j_weak (leP_s (leP_s (leP_s (leP_s (leP_z))))) (ih (bw (x3 + 1)) _)
theorem eX11_cut {X : Cx} {ads : List Nat} {sk : List Sk} (hA : ads.length = sk.length ∧ sk.length ≤ 1000) (hp0 : ocM sk) (x1 : Int) (x2 : Int) (σ : Sg) : CF X mX11_cut ads sk [.inr (some 84), .inl x1, .inl x2] σ wE (fX11_cut x1 x2 σ) := by
  refine CF.of ⟨pX11_cut_ok, tbX11_ok, hA.1, hA.2⟩ (plainFor_of_name plX11) (Nat.le_of_ble_eq_true rfl) ?_
  show jX11_cut X ads sk (0, [some (.inr (some 84)), some (.inl x1), some (.inl x2), none], [], σ) (fX11_cut x1 x2 σ)
  unfold fX11_cut
  refine j_run 0 2 rfl ?_
  refine j_cv 2 90 1 rfl rfl mwX11_isSafe hp0.1 rfl rfl (eX11_isSafe hA hp0 x1 _) rfl rfl (rok rfl rfl) (Nat.le_of_ble_eq_true rfl) (fun r1 _ h1 => ?_)
  refine jc_if_eq 3 rfl rfl (fun h2 => ?_) (fun h2 => ?_)
  · refine j_run 13 1 rfl ?_
    exact j_iret 14 rfl rfl rfl
  · refine j_run 4 2 rfl ?_
    refine j_cv 6 90 1 rfl rfl mwX11_isSafe hp0.1 rfl rfl (eX11_isSafe hA hp0 x2 _) rfl rfl (rok rfl rfl) (Nat.le_of_ble_eq_true rfl) (fun r3 _ h3 => ?_)
    refine jc_if_eq 7 rfl rfl (fun h4 => ?_) (fun h4 => ?_)
    · refine j_run 13 1 rfl ?_
      exact j_iret 14 rfl rfl rfl
    · refine j_run 8 2 rfl ?_
      refine j_csT 10 56 2 rfl rfl mwX11_apart (eX11_apart hA x1 x2 _) rfl rfl (rok rfl rfl) (Nat.le_of_ble_eq_true rfl) (fun h5 => ?_)
      refine j_run 11 1 rfl ?_
      refine jc_icmp_ge 12 rfl rfl (fun h6 => ?_) (fun h6 => ?_)
      · refine j_run 13 1 rfl ?_
        exact j_iret 14 rfl rfl rfl
      · refine j_run 15 2 rfl ?_
        refine j_weak (leP_s (leP_s (leP_s (leP_s (leP_z))))) (JX11_cut_L29 hA hp0 x1 x2 _ (fun s8 => ?_) FU 0 _)
        refine j_run 27 2 rfl ?_
        refine j_weak (leP_s (leP_s (leP_s (leP_s (leP_z))))) (JX11_cut_L50 hA hp0 x1 x2 _ (fun s10 => ?_) FU 0 _)
        refine j_run 39 2 rfl ?_
        exact j_weak (leP_s (leP_s (leP_s (leP_s (leP_z))))) (JX11_cut_L72 hA hp0 x1 x2 FU 0 _)
abbrev jX11_counting (X : Cx) (ads : List Nat) (sk : List Sk) (σ : Sg) (ps : PS) (res : Option (Int)) : Prop := J X mX11_counting pX11_counting tbX11 (rmD 1 0 0) 0 0 E0 (fun a => FM X mX11_counting ads sk ((wP σ) a)) ads sk ps res
theorem JX11_counting_L6 {X : Cx} {ads : List Nat} {sk : List Sk} (hA : ads.length = sk.length ∧ sk.length ≤ 1000) (hp0 : ocM sk) (σ : Sg) : ∀ (n : Nat) (x1 : Int) (x2 : Int) (x3 : Int), jX11_counting X ads sk σ (6, [some (.inr (some 84)), some (.inl x1), some (.inl x2), some (.inl x3), none], [], σ) (fX11_counting_L6 σ n x1 x2 x3) := by
  intro n
  induction n with
  | zero => intro x1 x2 x3; exact j_none
  | succ n ih =>
    intro x1 x2 x3
    rw [fX11_counting_L6]
    refine j_run 6 2 rfl ?_
    refine j_gr 8 0 rfl rfl hp0.1 rfl ?_
    refine j_run 9 1 rfl ?_
    refine j_ald0 10 rfl hp0.2.1 (by decide) ?_
    refine jc_icmp_ge 11 rfl rfl (fun h1 => ?_) (fun h1 => ?_)
    · refine j_run 12 4 rfl ?_
      refine j_cv 16 68 2 rfl rfl mwX11_ofVow hp0.1 rfl rfl (eX11_ofVow hA hp0 x3 1 _) rfl rfl (rok rfl rfl) (Nat.le_of_ble_eq_true rfl) (fun r2 _ h2 => ?_)
      refine j_run 17 5 rfl ?_
      refine j_cv 22 68 2 rfl rfl mwX11_ofVow hp0.1 rfl rfl (eX11_ofVow hA hp0 x3 2 _) rfl rfl (rok rfl rfl) (Nat.le_of_ble_eq_true rfl) (fun r3 _ h3 => ?_)
      refine j_run 23 6 rfl ?_
      refine jc_if_ne 29 rfl rfl (fun h4 => ?_) (fun h4 => ?_)
      · refine j_run 30 4 rfl ?_
        refine j_cv 34 68 2 rfl rfl mwX11_ofVow hp0.1 rfl rfl (eX11_ofVow hA hp0 x3 1 _) rfl rfl (rok rfl rfl) (Nat.le_of_ble_eq_true rfl) (fun r5 _ h5 => ?_)
        refine j_cv 35 57 1 rfl rfl mwX11_isFree hp0.1 rfl rfl (eX11_isFree hA hp0 r5 _) rfl rfl (rok rfl rfl) (Nat.le_of_ble_eq_true rfl) (fun r6 _ h6 => ?_)
        refine jc_if_eq 36 rfl rfl (fun h7 => ?_) (fun h7 => ?_)
        · refine j_run 55 1 rfl ?_
          refine j_goto 56 rfl rfl ?_
          exact j_weak (leP_s (leP_s (leP_s (leP_s (leP_n (leP_z)))))) (ih x1 x2 (bw (x3 + 1)))
        · refine j_run 37 4 rfl ?_
          refine j_cv 41 68 2 rfl rfl mwX11_ofVow hp0.1 rfl rfl (eX11_ofVow hA hp0 x3 2 _) rfl rfl (rok rfl rfl) (Nat.le_of_ble_eq_true rfl) (fun r8 _ h8 => ?_)
          refine j_cv 42 57 1 rfl rfl mwX11_isFree hp0.1 rfl rfl (eX11_isFree hA hp0 r8 _) rfl rfl (rok rfl rfl) (Nat.le_of_ble_eq_true rfl) (fun r9 _ h9 => ?_)
          refine jc_if_ne 43 rfl rfl (fun h10 => ?_) (fun h10 => ?_)
          · refine j_goto 44 rfl rfl ?_
            refine j_run 55 1 rfl ?_
            refine j_goto 56 rfl rfl ?_
            exact j_weak (leP_s (leP_s (leP_s (leP_s (leP_n (leP_z)))))) (ih x1 x2 (bw (x3 + 1)))
          · refine j_run 45 10 rfl ?_
            refine j_run 55 1 rfl ?_
            refine j_goto 56 rfl rfl ?_
            exact j_weak (leP_s (leP_s (leP_s (leP_s (leP_n (leP_z)))))) (ih (bor x1 (bshl 1 x3)) (bor x2 (bor (bshl 1 r2) (bshl 1 r3))) (bw (x3 + 1)))
      · refine j_run 55 1 rfl ?_
        refine j_goto 56 rfl rfl ?_
        exact j_weak (leP_s (leP_s (leP_s (leP_s (leP_n (leP_z)))))) (ih x1 x2 (bw (x3 + 1)))
    · refine j_run 57 1 rfl ?_
      exact j_iret 58 rfl rfl rfl
theorem eX11_counting {X : Cx} {ads : List Nat} {sk : List Sk} (hA : ads.length = sk.length ∧ sk.length ≤ 1000) (hp0 : ocM sk) (σ : Sg) : CF X mX11_counting ads sk [.inr (some 84)] σ (wP σ) (fX11_counting σ) := by
  refine CF.of ⟨pX11_counting_ok, tbX11_ok, hA.1, hA.2⟩ (plainFor_of_name plX11) (Nat.le_of_ble_eq_true rfl) ?_
  show jX11_counting X ads sk σ (0, [some (.inr (some 84)), none, none, none, none], [], σ) (fX11_counting σ)
  unfold fX11_counting
  refine j_run 0 6 rfl ?_
  exact j_weak (leP_s (leP_s (leP_s (leP_s (leP_n (leP_z)))))) (JX11_counting_L6 hA hp0 σ FU 0 0 0)
abbrev jX11_isAloneIn (X : Cx) (ads : List Nat) (sk : List Sk) (σ : Sg) (ps : PS) (res : Option (Int)) : Prop := J X mX11_isAloneIn pX11_isAloneIn tbX11 (rmD 2 0 0) 0 0 E0 (fun a => FM X mX11_isAloneIn ads sk ((wP σ) a)) ads sk ps res
theorem JX11_isAloneIn_L2 {X : Cx} {ads : List Nat} {sk : List Sk} (hA : ads.length = sk.length ∧ sk.length ≤ 1000) (hp0 : ocM sk) (σ : Sg) (x1 : Int) (x2 : Int) : ∀ (n : Nat) (x3 : Int), jX11_isAloneIn X ads sk σ (2, [some (.inr (some 84)), some (.inl x1), some (.inl x2), some (.inl x3)], [], σ) (fX11_isAloneIn_L2 σ x1 x2 n x3) := by
  intro n
  induction n with
  | zero => intro x3; exact j_none
  | succ n ih =>
    intro x3
    rw [fX11_isAloneIn_L2]
    refine j_run 2 2 rfl ?_
    refine jc_icmp_ge 4 rfl rfl (fun h1 => ?_) (fun h1 => ?_)
    · refine j_run 5 1 rfl ?_
      refine j_gr 6 37 rfl rfl hp0.1 rfl ?_
      refine j_run 7 1 rfl ?_
      refine j_ald 8 rfl hp0.2.2.2.2.2.2.2.2.2.2.2.2.2.2.2.2.2.2.2.2.2 rfl ?_
      refine j_run 9 1 rfl ?_
      refine jc_icmp_ne 10 rfl rfl (fun h2 => ?_) (fun h2 => ?_)
      · refine j_run 11 3 rfl ?_
        refine j_cv 14 68 2 rfl rfl mwX11_ofVow hp0.1 rfl rfl (eX11_ofVow hA hp0 x3 3 _) rfl rfl (rok rfl rfl) (Nat.le_of_ble_eq_true rfl) (fun r3 _ h3 => ?_)
        refine j_run 15 3 rfl ?_
        refine j_cv 18 68 2 rfl rfl mwX11_ofVow hp0.1 rfl rfl (eX11_ofVow hA hp0 x1 3 _) rfl rfl (rok rfl rfl) (Nat.le_of_ble_eq_true rfl) (fun r4 _ h4 => ?_)
        refine j_csT 19 56 2 rfl rfl mwX11_apart (eX11_apart hA r3 r4 _) rfl rfl (rok rfl rfl) (Nat.le_of_ble_eq_true rfl) (fun h5 => ?_)
        refine j_run 20 1 rfl ?_
        refine jc_icmp_gt 21 rfl rfl (fun h6 => ?_) (fun h6 => ?_)
        · refine j_run 24 1 rfl ?_
          refine j_goto 25 rfl rfl ?_
          exact j_weak (leP_s (leP_s (leP_s (leP_s (leP_z))))) (ih (bw (x3 + 1)))
        · refine j_run 22 1 rfl ?_
          exact j_zret 23 rfl rfl (by decide) rfl
      · refine j_run 24 1 rfl ?_
        refine j_goto 25 rfl rfl ?_
        exact j_weak (leP_s (leP_s (leP_s (leP_s (leP_z))))) (ih (bw (x3 + 1)))
    · refine j_run 26 1 rfl ?_
      exact j_zret 27 rfl rfl (by decide) rfl
theorem eX11_isAloneIn {X : Cx} {ads : List Nat} {sk : List Sk} (hA : ads.length = sk.length ∧ sk.length ≤ 1000) (hp0 : ocM sk) (x1 : Int) (x2 : Int) (σ : Sg) : CF X mX11_isAloneIn ads sk [.inr (some 84), .inl x1, .inl x2] σ (wP σ) (fX11_isAloneIn x1 x2 σ) := by
  refine CF.of ⟨pX11_isAloneIn_ok, tbX11_ok, hA.1, hA.2⟩ (plainFor_of_name plX11) (Nat.le_of_ble_eq_true rfl) ?_
  show jX11_isAloneIn X ads sk σ (0, [some (.inr (some 84)), some (.inl x1), some (.inl x2), none], [], σ) (fX11_isAloneIn x1 x2 σ)
  unfold fX11_isAloneIn
  refine j_run 0 2 rfl ?_
  exact j_weak (leP_s (leP_s (leP_s (leP_s (leP_z))))) (JX11_isAloneIn_L2 hA hp0 σ x1 x2 FU 0)
abbrev jX11_roundsFrom (X : Cx) (ads : List Nat) (sk : List Sk) (e : Nat) (ps : PS) (res : Option (Int × Sg)) : Prop := J X (mX11_roundsFrom e) pX11_roundsFrom tbX11 (rmD e 0 0) 0 0 E0 (fun a => FM X (mX11_roundsFrom e) ads sk (wE a)) ads sk ps res
theorem JX11_roundsFrom_L41 {X : Cx} {ads : List Nat} {sk : List Sk} (hA : ads.length = sk.length ∧ sk.length ≤ 1000) (hp0 : ocM sk) {e e2 : Nat} (he : e2 + 1 ≤ e) (hb : 3 ≤ e) {r_roundsFrom : Int → Int → Int → Sg → Option (Int × Sg)} (hr_roundsFrom : ∀  (x1 : Int) (x2 : Int) (x3 : Int) (σ : Sg), CF X (mX11_roundsFrom e2) ads sk [.inr (some 84), .inl x1, .inl x2, .inl x3] σ wE (r_roundsFrom x1 x2 x3 σ)) (x1 : Int) (x2 : Int) (x3 : Int) : ∀ (n : Nat) (x4 : Int) (σ : Sg), jX11_roundsFrom X ads sk e (41, [some (.inr (some 84)), some (.inl x1), some (.inl x2), some (.inl x3), some (.inl x4)], [], σ) (fX11_roundsFrom_L41 r_roundsFrom x1 x2 x3 n x4 σ) := by
  intro n
  induction n with
  | zero => intro x4 σ; exact j_none
  | succ n ih =>
    intro x4 σ
    rw [fX11_roundsFrom_L41]
    refine j_run 29 2 rfl ?_
    refine jc_icmp_ge 31 rfl rfl (fun h4 => ?_) (fun h4 => ?_)
    · refine j_run 32 3 rfl ?_
      refine j_cv 35 98 2 rfl rfl mwX11_isAloneIn hp0.1 rfl rfl (eX11_isAloneIn hA hp0 x1 x4 _) rfl rfl (rokS (Nat.le_trans (Nat.le_of_ble_eq_true (rfl : Nat.ble (2 + 1) 3 = true)) hb) (Nat.le_of_ble_eq_true rfl)) (Nat.le_of_ble_eq_true rfl) (fun r5 _ h5 => ?_)
      refine jc_if_ne 36 rfl rfl (fun h6 => ?_) (fun h6 => ?_)
      · refine j_goto 37 rfl rfl ?_
        refine j_run 58 1 rfl ?_
        refine j_goto 59 rfl rfl ?_
        exact j_weak (leP_s (leP_s (leP_s (leP_s (leP_s (leP_z)))))) (ih (bw (x4 + 1)) _)
      · refine j_run 38 1 rfl ?_
        refine j_gr 39 37 rfl rfl hp0.1 rfl ?_
        refine j_run 40 2 rfl ?_
        refine j_ast 42 rfl hp0.2.2.2.2.2.2.2.2.2.2.2.2.2.2.2.2.2.2.2.2.2 rfl ?_
        refine j_run 43 6 rfl ?_
        refine j_cv 49 97 3 rfl rfl (mwX11_roundsFrom _) hp0.1 rfl rfl (hr_roundsFrom (bw (x1 + 1)) x2 x3 _) rfl rfl (rokS he (Nat.le_of_ble_eq_true rfl)) (Nat.le_of_ble_eq_true rfl) (fun q7 _ h7 => ?_)
        refine jc_if_eq 50 rfl rfl (fun h8 => ?_) (fun h8 => ?_)
        · refine j_run 53 1 rfl ?_
          refine j_gr 54 37 rfl rfl hp0.1 rfl ?_
          refine j_run 55 2 rfl ?_
          refine j_ast 57 rfl hp0.2.2.2.2.2.2.2.2.2.2.2.2.2.2.2.2.2.2.2.2.2 rfl ?_
          refine j_run 58 1 rfl ?_
          refine j_goto 59 rfl rfl ?_
          exact j_weak (leP_s (leP_s (leP_s (leP_s (leP_s (leP_z)))))) (ih (bw (x4 + 1)) _)
        · refine j_run 51 1 rfl ?_
          exact j_zret 52 rfl rfl (by decide) rfl
    · refine j_run 60 1 rfl ?_
      exact j_zret 61 rfl rfl (by decide) rfl
theorem egX11_roundsFrom {X : Cx} {ads : List Nat} {sk : List Sk} (hA : ads.length = sk.length ∧ sk.length ≤ 1000) (hp0 : ocM sk) {e e2 : Nat} (he : e2 + 1 ≤ e) (hb : 3 ≤ e) {r_roundsFrom : Int → Int → Int → Sg → Option (Int × Sg)} (hr_roundsFrom : ∀  (x1 : Int) (x2 : Int) (x3 : Int) (σ : Sg), CF X (mX11_roundsFrom e2) ads sk [.inr (some 84), .inl x1, .inl x2, .inl x3] σ wE (r_roundsFrom x1 x2 x3 σ)) (x1 : Int) (x2 : Int) (x3 : Int) (σ : Sg) : CF X (mX11_roundsFrom e) ads sk [.inr (some 84), .inl x1, .inl x2, .inl x3] σ wE (gX11_roundsFrom r_roundsFrom x1 x2 x3 σ) := by
  refine CF.of ⟨pX11_roundsFrom_ok, tbX11_ok, hA.1, hA.2⟩ (plainFor_of_name plX11) (Nat.le_of_ble_eq_true rfl) ?_
  show jX11_roundsFrom X ads sk e (0, [some (.inr (some 84)), some (.inl x1), some (.inl x2), some (.inl x3), none], [], σ) (gX11_roundsFrom r_roundsFrom x1 x2 x3 σ)
  unfold gX11_roundsFrom
  refine j_run 0 2 rfl ?_
  refine j_gr 2 0 rfl rfl hp0.1 rfl ?_
  refine j_run 3 1 rfl ?_
  refine j_ald0 4 rfl hp0.2.1 (by decide) ?_
  refine jc_icmp_ne 5 rfl rfl (fun h1 => ?_) (fun h1 => ?_)
  · refine j_run 6 1 rfl ?_
    exact j_zret 7 rfl rfl (by decide) rfl
  · refine j_run 8 1 rfl ?_
    refine j_gr 9 37 rfl rfl hp0.1 rfl ?_
    refine j_run 10 2 rfl ?_
    refine j_ast 12 rfl hp0.2.2.2.2.2.2.2.2.2.2.2.2.2.2.2.2.2.2.2.2.2 rfl ?_
    refine j_run 13 5 rfl ?_
    refine jc_if_ne 18 rfl rfl (fun h2 => ?_) (fun h2 => ?_)
    · refine j_run 19 6 rfl ?_
      refine j_cv 25 97 3 rfl rfl (mwX11_roundsFrom _) hp0.1 rfl rfl (hr_roundsFrom (bw (x1 + 1)) x2 x3 _) rfl rfl (rokS he (Nat.le_of_ble_eq_true rfl)) (Nat.le_of_ble_eq_true rfl) (fun q3 _ h3 => ?_)
      exact j_zret 26 rfl rfl (nrR_b h3 rfl) rfl
    · refine j_run 27 2 rfl ?_
      exact j_weak (leP_s (leP_s (leP_s (leP_s (leP_s (leP_z)))))) (JX11_roundsFrom_L41 hA hp0 he hb hr_roundsFrom x1 x2 x3 FU 0 _)
theorem et_X11_roundsFrom {X : Cx} {ads : List Nat} {sk : List Sk} (hA : ads.length = sk.length ∧ sk.length ≤ 1000) (hp0 : ocM sk) : ∀ n : Nat, (∀ (x1 : Int) (x2 : Int) (x3 : Int) (σ : Sg), CF X (mX11_roundsFrom (3 + n)) ads sk [.inr (some 84), .inl x1, .inl x2, .inl x3] σ wE ((rg_X11_roundsFrom n) x1 x2 x3 σ))
  | 0 => by intros; intro a ha; cases ha
  | n + 1 => by
    have ih := et_X11_roundsFrom (X := X) hA hp0 n
    exact ((by intros; exact egX11_roundsFrom hA hp0 (e := 3 + (n + 1)) (e2 := 3 + n) (by omega) (by omega) (ih) _ _ _ _))
theorem eX11_roundsFrom_n {X : Cx} {ads : List Nat} {sk : List Sk} (hA : ads.length = sk.length ∧ sk.length ≤ 1000) (hp0 : ocM sk) (n : Nat) (x1 : Int) (x2 : Int) (x3 : Int) (σ : Sg) : CF X (mX11_roundsFrom (3 + n)) ads sk [.inr (some 84), .inl x1, .inl x2, .inl x3] σ wE (fX11_roundsFrom n x1 x2 x3 σ) := (et_X11_roundsFrom hA hp0 n) x1 x2 x3 σ
abbrev jX11_rounds (X : Cx) (ads : List Nat) (sk : List Sk) (ps : PS) (res : Option (Int × Sg)) : Prop := J X mX11_rounds pX11_rounds tbX11 (rmD 44 0 0) 0 0 E0 (fun a => FM X mX11_rounds ads sk (wE a)) ads sk ps res
theorem JX11_rounds_L32 {X : Cx} {ads : List Nat} {sk : List Sk} (hA : ads.length = sk.length ∧ sk.length ≤ 1000) (hp0 : ocM sk) (x1 : Int) (x2 : Int) (k48 : Int → Sg → Option (Int × Sg)) (hk48 : ∀ (x3 : Int) (σ : Sg), jX11_rounds X ads sk (48, [some (.inr (some 84)), some (.inl x1), none, some (.inl x3)], [], σ) (k48 x3 σ)) : ∀ (n : Nat) (x3 : Int) (σ : Sg), jX11_rounds X ads sk (32, [some (.inr (some 84)), some (.inl x1), some (.inl x2), some (.inl x3)], [], σ) (fX11_rounds_L32 k48 x1 x2 n x3 σ) := by
  intro n
  induction n with
  | zero => intro x3 σ; exact j_none
  | succ n ih =>
    intro x3 σ
    rw [fX11_rounds_L32]
    refine j_run 19 4 rfl ?_
    refine j_cv 23 97 3 rfl rfl (mwX11_roundsFrom _) hp0.1 rfl rfl (eX11_roundsFrom_n hA hp0 40 0 x3 x2 _) rfl rfl (rok rfl rfl) (Nat.le_of_ble_eq_true rfl) (fun q2 _ h2 => ?_)
    refine jc_if_ne 24 rfl rfl (fun h3 => ?_) (fun h3 => ?_)
    · refine j_run 25 1 rfl ?_
      refine j_goto 26 rfl rfl ?_
      exact j_weak (leP_s (leP_s (leP_s (leP_s (leP_z))))) (ih (bw (x3 + 1)) _)
    · exact j_weak (leP_s (leP_s (leP_n (leP_s (leP_z))))) (hk48 x3 _)
theorem JX11_rounds_J25 {X : Cx} {ads : List Nat} {sk : List Sk} (hA : ads.length = sk.length ∧ sk.length ≤ 1000) (hp0 : ocM sk) (x1 : Int) (σ : Sg) : jX11_rounds X ads sk (25, [some (.inr (some 84)), some (.inl x1), none, none], [], σ) (fX11_rounds_J25 x1 σ) := by
  unfold fX11_rounds_J25
  refine j_run 14 1 rfl ?_
  refine j_cv 15 99 0 rfl rfl mwX11_counting hp0.1 rfl rfl (eX11_counting hA hp0 _) rfl rfl (rok rfl rfl) (Nat.le_of_ble_eq_true rfl) (fun r1 _ h1 => ?_)
  refine j_run 16 3 rfl ?_
  refine j_weak (leP_s (leP_s (leP_s (leP_s (leP_z))))) (JX11_rounds_L32 hA hp0 x1 r1 _ (fun v4_3 s4 => ?_) FU 0 _)
  refine j_run 27 1 rfl ?_
  refine jc_if_ne 28 rfl rfl (fun h5 => ?_) (fun h5 => ?_)
  · refine j_run 29 1 rfl ?_
    refine j_goto 30 rfl rfl ?_
    exact j_iret 37 rfl rfl rfl
  · refine j_run 31 1 rfl ?_
    refine j_gr 32 37 rfl rfl hp0.1 rfl ?_
    refine j_run 33 3 rfl ?_
    refine j_ald 36 rfl hp0.2.2.2.2.2.2.2.2.2.2.2.2.2.2.2.2.2.2.2.2.2 rfl ?_
    exact j_iret 37 rfl rfl rfl
theorem eX11_rounds {X : Cx} {ads : List Nat} {sk : List Sk} (hA : ads.length = sk.length ∧ sk.length ≤ 1000) (hp0 : ocM sk) (x1 : Int) (σ : Sg) : CF X mX11_rounds ads sk [.inr (some 84), .inl x1] σ wE (fX11_rounds x1 σ) := by
  refine CF.of ⟨pX11_rounds_ok, tbX11_ok, hA.1, hA.2⟩ (plainFor_of_name plX11) (Nat.le_of_ble_eq_true rfl) ?_
  show jX11_rounds X ads sk (0, [some (.inr (some 84)), some (.inl x1), none, none], [], σ) (fX11_rounds x1 σ)
  unfold fX11_rounds
  refine j_run 0 1 rfl ?_
  refine jc_if_eq 1 rfl rfl (fun h6 => ?_) (fun h6 => ?_)
  · exact j_weak (leP_s (leP_s (leP_n (leP_n (leP_z))))) (JX11_rounds_J25 hA hp0 x1 _)
  · refine j_run 2 4 rfl ?_
    refine j_gr 6 0 rfl rfl hp0.1 rfl ?_
    refine j_run 7 1 rfl ?_
    refine j_ald0 8 rfl hp0.2.1 (by decide) ?_
    refine j_run 9 1 rfl ?_
    refine j_csT 10 0 3 rfl rfl mwX11_isIn (eX11_isIn hA x1 10 (bw (9 + (rd σ 85 87))) _) rfl rfl (rok rfl rfl) (Nat.le_of_ble_eq_true rfl) (fun h7 => ?_)
    refine jc_if_ne 11 rfl rfl (fun h8 => ?_) (fun h8 => ?_)
    · refine j_run 12 1 rfl ?_
      exact j_iret 13 rfl rfl rfl
    · exact j_weak (leP_s (leP_s (leP_n (leP_n (leP_z))))) (JX11_rounds_J25 hA hp0 x1 _)
abbrev jX11_comes (X : Cx) (ads : List Nat) (sk : List Sk) (ps : PS) (res : Option (Int × Sg)) : Prop := J X mX11_comes pX11_comes tbX11 (rmD 6 0 0) 0 0 E0 (fun a => FM X mX11_comes ads sk (wE a)) ads sk ps res
theorem JX11_comes_J125 {X : Cx} {ads : List Nat} {sk : List Sk} (hA : ads.length = sk.length ∧ sk.length ≤ 1000) (hp0 : ocM sk) (x1 : Int) (x2 : Int) (x3 : Int) (x4 : Int) (x5 : Int) (x6 : Int) (k38 : Int → Int → Sg → Option (Int × Sg)) (hk38 : ∀ (x5 : Int) (x6 : Int) (σ : Sg), jX11_comes X ads sk (38, [some (.inr (some 84)), some (.inl x1), some (.inl x2), some (.inl x3), some (.inl x4), some (.inl x5), some (.inl x6), none], [], σ) (k38 x5 x6 σ)) (y0 : Int) (σ : Sg) : jX11_comes X ads sk (125, [some (.inr (some 84)), some (.inl x1), some (.inl x2), some (.inl x3), some (.inl x4), some (.inl x5), some (.inl x6), none], [.inl y0], σ) (fX11_comes_J125 k38 x1 x2 x3 x4 x5 x6 y0 σ) := by
  unfold fX11_comes_J125
  refine j_run 74 2 rfl ?_
  refine j_gr 76 0 rfl rfl hp0.1 rfl ?_
  refine j_run 77 4 rfl ?_
  refine j_ald 81 rfl hp0.2.1 rfl ?_
  refine j_run 82 2 rfl ?_
  refine j_ast 84 rfl hp0.2.1 rfl ?_
  refine j_run 85 1 rfl ?_
  refine j_gr 86 0 rfl rfl hp0.1 rfl ?_
  refine j_run 87 4 rfl ?_
  refine j_ald 91 rfl hp0.2.1 rfl ?_
  refine j_run 92 2 rfl ?_
  refine j_ast 94 rfl hp0.2.1 rfl ?_
  refine j_run 95 1 rfl ?_
  refine j_goto 96 rfl rfl ?_
  exact j_weak (leP_s (leP_s (leP_s (leP_s (leP_s (leP_s (leP_s (leP_n (leP_z))))))))) (hk38 x5 (bw (x6 + 1)) _)
theorem JX11_comes_J68 {X : Cx} {ads : List Nat} {sk : List Sk} (hA : ads.length = sk.length ∧ sk.length ≤ 1000) (hp0 : ocM sk) (x1 : Int) (x2 : Int) (x3 : Int) (x4 : Int) (x6 : Int) (k38 : Int → Int → Sg → Option (Int × Sg)) (hk38 : ∀ (x5 : Int) (x6 : Int) (σ : Sg), jX11_comes X ads sk (38, [some (.inr (some 84)), some (.inl x1), some (.inl x2), some (.inl x3), some (.inl x4), some (.inl x5), some (.inl x6), none], [], σ) (k38 x5 x6 σ)) (y0 : Int) (σ : Sg) : jX11_comes X ads sk (68, [some (.inr (some 84)), some (.inl x1), some (.inl x2), some (.inl x3), some (.inl x4), none, some (.inl x6), none], [.inl y0], σ) (fX11_comes_J68 k38 x1 x2 x3 x4 x6 y0 σ) := by
  unfold fX11_comes_J68
  refine j_run 40 2 rfl ?_
  refine j_gr 42 0 rfl rfl hp0.1 rfl ?_
  refine j_run 43 3 rfl ?_
  refine j_ald 46 rfl hp0.2.1 rfl ?_
  refine j_run 47 1 rfl ?_
  refine j_gr 48 0 rfl rfl hp0.1 rfl ?_
  refine j_run 49 3 rfl ?_
  refine j_ald 52 rfl hp0.2.1 rfl ?_
  refine j_run 53 1 rfl ?_
  refine j_csT 54 4 1 rfl rfl mwX11_size (eX11_size hA (bw ((rd σ 85 (bw (103 + x1))) - (rd σ 85 (bw (103 + x2))))) _) rfl rfl (rok rfl rfl) (Nat.le_of_ble_eq_true rfl) (fun h6 => ?_)
  refine j_run 55 1 rfl ?_
  refine jc_icmp_ge 56 rfl rfl (fun h7 => ?_) (fun h7 => ?_)
  · refine j_goto 57 rfl rfl ?_
    refine j_run 95 1 rfl ?_
    refine j_goto 96 rfl rfl ?_
    exact j_weak (leP_s (leP_s (leP_s (leP_s (leP_s (leP_s (leP_s (leP_n (leP_z))))))))) (hk38 y0 (bw (x6 + 1)) _)
  · refine j_run 58 1 rfl ?_
    refine j_gr 59 0 rfl rfl hp0.1 rfl ?_
    refine j_run 60 3 rfl ?_
    refine j_ald 63 rfl hp0.2.1 rfl ?_
    refine j_run 64 1 rfl ?_
    refine j_gr 65 0 rfl rfl hp0.1 rfl ?_
    refine j_run 66 3 rfl ?_
    refine j_ald 69 rfl hp0.2.1 rfl ?_
    refine jc_icmp_le 70 rfl rfl (fun h8 => ?_) (fun h8 => ?_)
    · refine j_run 71 1 rfl ?_
      refine j_goto 72 rfl rfl ?_
      exact j_weak (leP_s (leP_s (leP_s (leP_s (leP_s (leP_s (leP_s (leP_n (leP_z))))))))) (JX11_comes_J125 hA hp0 x1 x2 x3 x4 y0 x6 _ hk38 1 _)
    · refine j_run 73 1 rfl ?_
      exact j_weak (leP_s (leP_s (leP_s (leP_s (leP_s (leP_s (leP_s (leP_n (leP_z))))))))) (JX11_comes_J125 hA hp0 x1 x2 x3 x4 y0 x6 _ hk38 (-1) _)
theorem JX11_comes_L38 {X : Cx} {ads : List Nat} {sk : List Sk} (hA : ads.length = sk.length ∧ sk.length ≤ 1000) (hp0 : ocM sk) (x1 : Int) (x2 : Int) (x3 : Int) (x4 : Int) (k161 : Int → Sg → Option (Int × Sg)) (hk161 : ∀ (x5 : Int) (σ : Sg), jX11_comes X ads sk (161, [some (.inr (some 84)), some (.inl x1), some (.inl x2), some (.inl x3), some (.inl x4), some (.inl x5), none, none], [], σ) (k161 x5 σ)) : ∀ (n : Nat) (x5 : Int) (x6 : Int) (σ : Sg), jX11_comes X ads sk (38, [some (.inr (some 84)), some (.inl x1), some (.inl x2), some (.inl x3), some (.inl x4), some (.inl x5), some (.inl x6), none], [], σ) (fX11_comes_L38 k161 x1 x2 x3 x4 n x5 x6 σ) := by
  intro n
  induction n with
  | zero => intro x5 x6 σ; exact j_none
  | succ n ih =>
    intro x5 x6 σ
    rw [fX11_comes_L38]
    refine j_run 25 2 rfl ?_
    refine jc_icmp_gt 27 rfl rfl (fun h3 => ?_) (fun h3 => ?_)
    · exact j_weak (leP_s (leP_s (leP_s (leP_s (leP_s (leP_s (leP_n (leP_n (leP_z))))))))) (hk161 x5 _)
    · refine j_run 28 2 rfl ?_
      refine jc_icmp_ne 30 rfl rfl (fun h4 => ?_) (fun h4 => ?_)
      · refine j_run 31 3 rfl ?_
        refine j_cv 34 55 2 rfl rfl mwX11_foundOf hp0.1 rfl rfl (eX11_foundOf hA hp0 x1 x2 _) rfl rfl (rok rfl rfl) (Nat.le_of_ble_eq_true rfl) (fun q5 _ h5 => ?_)
        refine j_run 35 1 rfl ?_
        refine jc_icmp_lt 36 rfl rfl (fun h9 => ?_) (fun h9 => ?_)
        · refine j_run 39 1 rfl ?_
          exact j_weak (leP_s (leP_s (leP_s (leP_s (leP_s (leP_n (leP_s (leP_n (leP_z))))))))) (JX11_comes_J68 hA hp0 x1 x2 x3 x4 x6 _ ih (-1) _)
        · refine j_run 37 1 rfl ?_
          refine j_goto 38 rfl rfl ?_
          exact j_weak (leP_s (leP_s (leP_s (leP_s (leP_s (leP_n (leP_s (leP_n (leP_z))))))))) (JX11_comes_J68 hA hp0 x1 x2 x3 x4 x6 _ ih x6 _)
      · exact j_weak (leP_s (leP_s (leP_s (leP_s (leP_s (leP_s (leP_n (leP_n (leP_z))))))))) (hk161 x5 _)
theorem eX11_comes {X : Cx} {ads : List Nat} {sk : List Sk} (hA : ads.length = sk.length ∧ sk.length ≤ 1000) (hp0 : ocM sk) (x1 : Int) (x2 : Int) (σ : Sg) : CF X mX11_comes ads sk [.inr (some 84), .inl x1, .inl x2] σ wE (fX11_comes x1 x2 σ) := by
  refine CF.of ⟨pX11_comes_ok, tbX11_ok, hA.1, hA.2⟩ (plainFor_of_name plX11) (Nat.le_of_ble_eq_true rfl) ?_
  show jX11_comes X ads sk (0, [some (.inr (some 84)), some (.inl x1), some (.inl x2), none, none, none, none, none], [], σ) (fX11_comes x1 x2 σ)
  unfold fX11_comes
  refine j_run 0 3 rfl ?_
  refine j_cv 3 36 2 rfl rfl mwX11_areUnlike hp0.1 rfl rfl (eX11_areUnlike hA hp0 x1 x2 _) rfl rfl (rok rfl rfl) (Nat.le_of_ble_eq_true rfl) (fun r1 _ h1 => ?_)
  refine jc_if_ne 4 rfl rfl (fun h2 => ?_) (fun h2 => ?_)
  · refine j_run 5 1 rfl ?_
    exact j_iret 6 rfl rfl rfl
  · refine j_run 7 1 rfl ?_
    refine j_gr 8 0 rfl rfl hp0.1 rfl ?_
    refine j_run 9 3 rfl ?_
    refine j_ald 12 rfl hp0.2.1 rfl ?_
    refine j_run 13 2 rfl ?_
    refine j_gr 15 0 rfl rfl hp0.1 rfl ?_
    refine j_run 16 3 rfl ?_
    refine j_ald 19 rfl hp0.2.1 rfl ?_
    refine j_run 20 5 rfl ?_
    refine j_weak (leP_s (leP_s (leP_s (leP_s (leP_s (leP_s (leP_s (leP_n (leP_z))))))))) (JX11_comes_L38 hA hp0 x1 x2 (rd σ 85 (bw (103 + x1))) (rd σ 85 (bw (103 + x2))) _ (fun v10_5 s10 => ?_) FU (-1) 0 _)
    refine j_run 97 1 rfl ?_
    refine j_gr 98 0 rfl rfl hp0.1 rfl ?_
    refine j_run 99 4 rfl ?_
    refine j_ast 103 rfl hp0.2.1 rfl ?_
    refine j_run 104 1 rfl ?_
    refine j_gr 105 0 rfl rfl hp0.1 rfl ?_
    refine j_run 106 4 rfl ?_
    refine j_ast 110 rfl hp0.2.1 rfl ?_
    refine j_run 111 1 rfl ?_
    exact j_iret 112 rfl rfl rfl
abbrev jX11_asks (X : Cx) (ads : List Nat) (sk : List Sk) (σ : Sg) (ps : PS) (res : Option (Int)) : Prop := J X mX11_asks pX11_asks tbX11 (rmD 0 0 0) 0 0 E0 (fun a => FM X mX11_asks ads sk ((wP σ) a)) ads sk ps res
theorem JX11_asks_L14 {X : Cx} {ads : List Nat} {sk : List Sk} (hA : ads.length = sk.length ∧ sk.length ≤ 1000) (hp0 : ocM sk) (σ : Sg) (x1 : Int) (k74 : Int → Option (Int)) (hk74 : ∀ (x2 : Int), jX11_asks X ads sk σ (74, [none, some (.inl x1), some (.inl x2), none], [], σ) (k74 x2)) : ∀ (n : Nat) (x2 : Int) (x3 : Int), jX11_asks X ads sk σ (14, [some (.inr (some 84)), some (.inl x1), some (.inl x2), some (.inl x3)], [], σ) (fX11_asks_L14 σ k74 x1 n x2 x3) := by
  intro n
  induction n with
  | zero => intro x2 x3; exact j_none
  | succ n ih =>
    intro x2 x3
    rw [fX11_asks_L14]
    refine j_run 11 2 rfl ?_
    refine j_gr 13 0 rfl rfl hp0.1 rfl ?_
    refine j_run 14 1 rfl ?_
    refine j_ald0 15 rfl hp0.2.1 (by decide) ?_
    refine jc_icmp_ge 16 rfl rfl (fun h1 => ?_) (fun h1 => ?_)
    · refine j_run 17 2 rfl ?_
      refine j_gr 19 0 rfl rfl hp0.1 rfl ?_
      refine j_run 20 2 rfl ?_
      refine j_gr 22 0 rfl rfl hp0.1 rfl ?_
      refine j_run 23 5 rfl ?_
      refine j_ald 28 rfl hp0.2.1 rfl ?_
      refine j_run 29 1 rfl ?_
      refine j_ald 30 rfl hp0.2.1 rfl ?_
      refine jc_if_ne 31 rfl rfl (fun h2 => ?_) (fun h2 => ?_)
      · refine j_run 32 1 rfl ?_
        refine j_gr 33 0 rfl rfl hp0.1 rfl ?_
        refine j_run 34 7 rfl ?_
        refine j_ald 41 rfl hp0.2.1 rfl ?_
        refine j_goto 42 rfl rfl ?_
        refine j_run 44 3 rfl ?_
        refine j_goto 47 rfl rfl ?_
        exact j_weak (leP_s (leP_s (leP_s (leP_s (leP_z))))) (ih (bw (x2 + (rd σ 85 (bw ((bw (239 + (bw (3 * x3)))) + 2))))) (bw (x3 + 1)))
      · refine j_run 43 1 rfl ?_
        refine j_run 44 3 rfl ?_
        refine j_goto 47 rfl rfl ?_
        exact j_weak (leP_s (leP_s (leP_s (leP_s (leP_z))))) (ih (bw (x2 + 0)) (bw (x3 + 1)))
    · exact j_weak (leP_n (leP_s (leP_s (leP_n (leP_z))))) (hk74 x2)
theorem eX11_asks {X : Cx} {ads : List Nat} {sk : List Sk} (hA : ads.length = sk.length ∧ sk.length ≤ 1000) (hp0 : ocM sk) (σ : Sg) : CF X mX11_asks ads sk [.inr (some 84)] σ (wP σ) (fX11_asks σ) := by
  refine CF.of ⟨pX11_asks_ok, tbX11_ok, hA.1, hA.2⟩ (plainFor_of_name plX11) (Nat.le_of_ble_eq_true rfl) ?_
  show jX11_asks X ads sk σ (0, [some (.inr (some 84)), none, none, none], [], σ) (fX11_asks σ)
  unfold fX11_asks
  refine j_run 0 1 rfl ?_
  refine j_gr 1 0 rfl rfl hp0.1 rfl ?_
  refine j_run 2 1 rfl ?_
  refine j_ald0 3 rfl hp0.2.1 (by decide) ?_
  refine j_run 4 1 rfl ?_
  refine j_div0 5 rfl (by decide) ?_
  refine j_run 6 5 rfl ?_
  refine j_weak (leP_s (leP_s (leP_s (leP_s (leP_z))))) (JX11_asks_L14 hA hp0 σ (tdv (rd σ 85 1) 10) _ (fun v3_2 => ?_) FU 0 0)
  refine j_run 48 2 rfl ?_
  refine jc_icmp_le 50 rfl rfl (fun h4 => ?_) (fun h4 => ?_)
  · refine j_run 51 1 rfl ?_
    refine j_goto 52 rfl rfl ?_
    exact j_iret 58 rfl rfl rfl
  · refine j_run 53 4 rfl ?_
    refine j_div0 57 rfl (by decide) ?_
    exact j_iret 58 rfl rfl rfl
abbrev jX11_tribe (X : Cx) (ads : List Nat) (sk : List Sk) (σ : Sg) (ps : PS) (res : Option (Int)) : Prop := J X mX11_tribe pX11_tribe tbX11 (rmD 2 0 0) 0 0 E0 (fun a => FM X mX11_tribe ads sk ((wP σ) a)) ads sk ps res
theorem JX11_tribe_L25 {X : Cx} {ads : List Nat} {sk : List Sk} (hA : ads.length = sk.length ∧ sk.length ≤ 1000) (hp0 : ocM sk) (σ : Sg) (x3 : Int) (k16 : Int → Int → Option (Int)) (hk16 : ∀ (x2 : Int) (x3 : Int), jX11_tribe X ads sk σ (16, [some (.inr (some 84)), none, some (.inl x2), some (.inl x3), none], [], σ) (k16 x2 x3)) : ∀ (n : Nat) (x2 : Int) (x4 : Int), jX11_tribe X ads sk σ (25, [some (.inr (some 84)), none, some (.inl x2), some (.inl x3), some (.inl x4)], [], σ) (fX11_tribe_L25 σ k16 x3 n x2 x4) := by
  intro n
  induction n with
  | zero => intro x2 x4; exact j_none
  | succ n ih =>
    intro x2 x4
    rw [fX11_tribe_L25]
    refine j_run 17 2 rfl ?_
    refine j_gr 19 0 rfl rfl hp0.1 rfl ?_
    refine j_run 20 1 rfl ?_
    refine j_ald0 21 rfl hp0.2.1 (by decide) ?_
    refine jc_icmp_ge 22 rfl rfl (fun h4 => ?_) (fun h4 => ?_)
    · refine j_run 23 7 rfl ?_
      refine jc_icmp_ne 30 rfl rfl (fun h5 => ?_) (fun h5 => ?_)
      · refine j_run 31 1 rfl ?_
        refine j_gr 32 0 rfl rfl hp0.1 rfl ?_
        refine j_run 33 3 rfl ?_
        refine j_ald 36 rfl hp0.2.1 rfl ?_
        refine j_goto 37 rfl rfl ?_
        refine j_run 39 3 rfl ?_
        refine j_goto 42 rfl rfl ?_
        exact j_weak (leP_s (leP_n (leP_s (leP_s (leP_s (leP_z)))))) (ih (bor x2 (rd σ 85 (bw (139 + x4)))) (bw (x4 + 1)))
      · refine j_run 38 1 rfl ?_
        refine j_run 39 3 rfl ?_
        refine j_goto 42 rfl rfl ?_
        exact j_weak (leP_s (leP_n (leP_s (leP_s (leP_s (leP_z)))))) (ih (bor x2 0) (bw (x4 + 1)))
    · refine j_run 43 1 rfl ?_
      refine j_goto 44 rfl rfl ?_
      exact j_weak (leP_s (leP_n (leP_s (leP_s (leP_n (leP_z)))))) (hk16 x2 (bw (x3 + 1)))
theorem JX11_tribe_L16 {X : Cx} {ads : List Nat} {sk : List Sk} (hA : ads.length = sk.length ∧ sk.length ≤ 1000) (hp0 : ocM sk) (σ : Sg) : ∀ (n : Nat) (x2 : Int) (x3 : Int), jX11_tribe X ads sk σ (16, [some (.inr (some 84)), none, some (.inl x2), some (.inl x3), none], [], σ) (fX11_tribe_L16 σ n x2 x3) := by
  intro n
  induction n with
  | zero => intro x2 x3; exact j_none
  | succ n ih =>
    intro x2 x3
    rw [fX11_tribe_L16]
    refine j_run 12 2 rfl ?_
    refine jc_icmp_ge 14 rfl rfl (fun h3 => ?_) (fun h3 => ?_)
    · refine j_run 15 2 rfl ?_
      exact j_weak (leP_s (leP_n (leP_s (leP_s (leP_s (leP_z)))))) (JX11_tribe_L25 hA hp0 σ x3 _ ih FU x2 0)
    · refine j_run 45 1 rfl ?_
      exact j_iret 46 rfl rfl rfl
theorem eX11_tribe {X : Cx} {ads : List Nat} {sk : List Sk} (hA : ads.length = sk.length ∧ sk.length ≤ 1000) (hp0 : ocM sk) (x1 : Int) (σ : Sg) : CF X mX11_tribe ads sk [.inr (some 84), .inl x1] σ (wP σ) (fX11_tribe x1 σ) := by
  refine CF.of ⟨pX11_tribe_ok, tbX11_ok, hA.1, hA.2⟩ (plainFor_of_name plX11) (Nat.le_of_ble_eq_true rfl) ?_
  show jX11_tribe X ads sk σ (0, [some (.inr (some 84)), some (.inl x1), none, none, none], [], σ) (fX11_tribe x1 σ)
  unfold fX11_tribe
  refine j_run 0 2 rfl ?_
  refine j_cvT 2 3 1 rfl rfl mwX11_isPerson hp0.1 rfl rfl (eX11_isPerson hA hp0 x1 _) rfl rfl (rok rfl rfl) (Nat.le_of_ble_eq_true rfl) (fun h1 => ?_)
  refine jc_if_ne 3 rfl rfl (fun h2 => ?_) (fun h2 => ?_)
  · refine j_run 4 1 rfl ?_
    exact j_iret 5 rfl rfl rfl
  · refine j_run 6 6 rfl ?_
    exact j_weak (leP_s (leP_n (leP_s (leP_s (leP_n (leP_z)))))) (JX11_tribe_L16 hA hp0 σ FU (bshl 1 x1) 0)
abbrev jX11_hopeOf (X : Cx) (ads : List Nat) (sk : List Sk) (σ : Sg) (ps : PS) (res : Option (Int)) : Prop := J X mX11_hopeOf pX11_hopeOf tbX11 (rmD 0 0 0) 0 0 E0 (fun a => FM X mX11_hopeOf ads sk ((wP σ) a)) ads sk ps res
theorem JX11_hopeOf_L4 {X : Cx} {ads : List Nat} {sk : List Sk} (hA : ads.length = sk.length ∧ sk.length ≤ 1000) (hp0 : ocM sk) (σ : Sg) (x1 : Int) : ∀ (n : Nat) (x2 : Int) (x3 : Int), jX11_hopeOf X ads sk σ (4, [some (.inr (some 84)), some (.inl x1), some (.inl x2), some (.inl x3)], [], σ) (fX11_hopeOf_L4 σ x1 n x2 x3) := by
  intro n
  induction n with
  | zero => intro x2 x3; exact j_none
  | succ n ih =>
    intro x2 x3
    rw [fX11_hopeOf_L4]
    refine j_run 4 2 rfl ?_
    refine j_gr 6 0 rfl rfl hp0.1 rfl ?_
    refine j_run 7 1 rfl ?_
    refine j_ald0 8 rfl hp0.2.1 (by decide) ?_
    refine jc_icmp_ge 9 rfl rfl (fun h1 => ?_) (fun h1 => ?_)
    · refine j_run 10 5 rfl ?_
      refine jc_if_ne 15 rfl rfl (fun h2 => ?_) (fun h2 => ?_)
      · refine j_goto 16 rfl rfl ?_
        refine j_run 37 1 rfl ?_
        refine j_goto 38 rfl rfl ?_
        exact j_weak (leP_s (leP_s (leP_s (leP_s (leP_z))))) (ih x2 (bw (x3 + 1)))
      · refine j_run 17 1 rfl ?_
        refine j_gr 18 0 rfl rfl hp0.1 rfl ?_
        refine j_run 19 3 rfl ?_
        refine j_ald 22 rfl hp0.2.1 rfl ?_
        refine j_run 23 2 rfl ?_
        refine jc_if_eq 25 rfl rfl (fun h3 => ?_) (fun h3 => ?_)
        · refine j_run 28 2 rfl ?_
          refine j_gr 30 0 rfl rfl hp0.1 rfl ?_
          refine j_run 31 3 rfl ?_
          refine j_ald 34 rfl hp0.2.1 rfl ?_
          refine j_run 35 2 rfl ?_
          refine j_run 37 1 rfl ?_
          refine j_goto 38 rfl rfl ?_
          exact j_weak (leP_s (leP_s (leP_s (leP_s (leP_z))))) (ih (bw (x2 + (rd σ 85 (bw (115 + x3))))) (bw (x3 + 1)))
        · refine j_run 26 1 rfl ?_
          exact j_iret 27 rfl rfl rfl
    · refine j_run 39 1 rfl ?_
      exact j_iret 40 rfl rfl rfl
theorem eX11_hopeOf {X : Cx} {ads : List Nat} {sk : List Sk} (hA : ads.length = sk.length ∧ sk.length ≤ 1000) (hp0 : ocM sk) (x1 : Int) (σ : Sg) : CF X mX11_hopeOf ads sk [.inr (some 84), .inl x1] σ (wP σ) (fX11_hopeOf x1 σ) := by
  refine CF.of ⟨pX11_hopeOf_ok, tbX11_ok, hA.1, hA.2⟩ (plainFor_of_name plX11) (Nat.le_of_ble_eq_true rfl) ?_
  show jX11_hopeOf X ads sk σ (0, [some (.inr (some 84)), some (.inl x1), none, none], [], σ) (fX11_hopeOf x1 σ)
  unfold fX11_hopeOf
  refine j_run 0 4 rfl ?_
  exact j_weak (leP_s (leP_s (leP_s (leP_s (leP_z))))) (JX11_hopeOf_L4 hA hp0 σ x1 FU 0 0)
abbrev jX11_hopes (X : Cx) (ads : List Nat) (sk : List Sk) (σ : Sg) (ps : PS) (res : Option (Int)) : Prop := J X mX11_hopes pX11_hopes tbX11 (rmD 1 0 0) 0 0 E0 (fun a => FM X mX11_hopes ads sk ((wP σ) a)) ads sk ps res
theorem JX11_hopes_L15 {X : Cx} {ads : List Nat} {sk : List Sk} (hA : ads.length = sk.length ∧ sk.length ≤ 1000) (hp0 : ocM sk) (σ : Sg) (x1 : Int) (k49 : Int → Option (Int)) (hk49 : ∀ (x2 : Int), jX11_hopes X ads sk σ (49, [some (.inr (some 84)), some (.inl x1), some (.inl x2), none], [], σ) (k49 x2)) : ∀ (n : Nat) (x2 : Int) (x3 : Int), jX11_hopes X ads sk σ (15, [some (.inr (some 84)), some (.inl x1), some (.inl x2), some (.inl x3)], [], σ) (fX11_hopes_L15 σ k49 x1 n x2 x3) := by
  intro n
  induction n with
  | zero => intro x2 x3; exact j_none
  | succ n ih =>
    intro x2 x3
    rw [fX11_hopes_L15]
    refine j_run 11 3 rfl ?_
    refine j_gr 14 0 rfl rfl hp0.1 rfl ?_
    refine j_run 15 1 rfl ?_
    refine j_ald0 16 rfl hp0.2.1 (by decide) ?_
    refine j_run 17 1 rfl ?_
    refine jc_icmp_ge 18 rfl rfl (fun h3 => ?_) (fun h3 => ?_)
    · refine j_run 19 2 rfl ?_
      refine j_cv 21 100 1 rfl rfl mwX11_hopeOf hp0.1 rfl rfl (eX11_hopeOf hA hp0 x3 _) rfl rfl (rok rfl rfl) (Nat.le_of_ble_eq_true rfl) (fun r4 _ h4 => ?_)
      refine j_run 22 2 rfl ?_
      refine j_cv 24 100 1 rfl rfl mwX11_hopeOf hp0.1 rfl rfl (eX11_hopeOf hA hp0 x2 _) rfl rfl (rok rfl rfl) (Nat.le_of_ble_eq_true rfl) (fun r5 _ h5 => ?_)
      refine jc_icmp_le 25 rfl rfl (fun h6 => ?_) (fun h6 => ?_)
      · refine j_run 26 2 rfl ?_
        refine j_run 28 1 rfl ?_
        refine j_goto 29 rfl rfl ?_
        exact j_weak (leP_s (leP_s (leP_s (leP_s (leP_z))))) (ih x3 (bw (x3 + 1)))
      · refine j_run 28 1 rfl ?_
        refine j_goto 29 rfl rfl ?_
        exact j_weak (leP_s (leP_s (leP_s (leP_s (leP_z))))) (ih x2 (bw (x3 + 1)))
    · exact j_weak (leP_s (leP_s (leP_s (leP_n (leP_z))))) (hk49 x2)
theorem eX11_hopes {X : Cx} {ads : List Nat} {sk : List Sk} (hA : ads.length = sk.length ∧ sk.length ≤ 1000) (hp0 : ocM sk) (x1 : Int) (σ : Sg) : CF X mX11_hopes ads sk [.inr (some 84), .inl x1] σ (wP σ) (fX11_hopes x1 σ) := by
  refine CF.of ⟨pX11_hopes_ok, tbX11_ok, hA.1, hA.2⟩ (plainFor_of_name plX11) (Nat.le_of_ble_eq_true rfl) ?_
  show jX11_hopes X ads sk σ (0, [some (.inr (some 84)), some (.inl x1), none, none], [], σ) (fX11_hopes x1 σ)
  unfold fX11_hopes
  refine j_run 0 3 rfl ?_
  refine j_csT 3 0 3 rfl rfl mwX11_isIn (eX11_isIn hA x1 0 1 _) rfl rfl (rok rfl rfl) (Nat.le_of_ble_eq_true rfl) (fun h1 => ?_)
  refine jc_if_ne 4 rfl rfl (fun h2 => ?_) (fun h2 => ?_)
  · refine j_run 5 1 rfl ?_
    exact j_iret 6 rfl rfl rfl
  · refine j_run 7 4 rfl ?_
    refine j_weak (leP_s (leP_s (leP_s (leP_s (leP_z))))) (JX11_hopes_L15 hA hp0 σ x1 _ (fun v7_2 => ?_) FU 0 1)
    refine j_run 30 1 rfl ?_
    refine jc_if_ne 31 rfl rfl (fun h8 => ?_) (fun h8 => ?_)
    · refine j_run 32 2 rfl ?_
      refine j_cv 34 100 1 rfl rfl mwX11_hopeOf hp0.1 rfl rfl (eX11_hopeOf hA hp0 v7_2 _) rfl rfl (rok rfl rfl) (Nat.le_of_ble_eq_true rfl) (fun r9 _ h9 => ?_)
      refine j_goto 35 rfl rfl ?_
      exact j_iret 37 rfl rfl rfl
    · refine j_run 36 1 rfl ?_
      exact j_iret 37 rfl rfl rfl
abbrev jX11_image (X : Cx) (ads : List Nat) (sk : List Sk) (ps : PS) (res : Option (Int × Sg)) : Prop := J X mX11_image pX11_image tbX11 (rmD 1 0 0) 0 0 E0 (fun a => FM X mX11_image ads sk (wE a)) ads sk ps res
theorem JX11_image_L15 {X : Cx} {ads : List Nat} {sk : List Sk} (hA : ads.length = sk.length ∧ sk.length ≤ 1000) (hp0 : ocM sk) (x1 : Int) (k59 : Sg → Option (Int × Sg)) (hk59 : ∀  (σ : Sg), jX11_image X ads sk (59, [some (.inr (some 84)), some (.inl x1), none], [], σ) (k59 σ)) : ∀ (n : Nat) (x2 : Int) (σ : Sg), jX11_image X ads sk (15, [some (.inr (some 84)), some (.inl x1), some (.inl x2)], [], σ) (fX11_image_L15 k59 x1 n x2 σ) := by
  intro n
  induction n with
  | zero => intro x2 σ; exact j_none
  | succ n ih =>
    intro x2 σ
    rw [fX11_image_L15]
    refine j_run 9 2 rfl ?_
    refine jc_icmp_ge 11 rfl rfl (fun h1 => ?_) (fun h1 => ?_)
    · refine j_run 12 1 rfl ?_
      refine jc_if_eq 13 rfl rfl (fun h2 => ?_) (fun h2 => ?_)
      · refine j_run 23 1 rfl ?_
        refine j_gr 24 0 rfl rfl hp0.1 rfl ?_
        refine j_run 25 2 rfl ?_
        refine j_gr 27 38 rfl rfl hp0.1 rfl ?_
        refine j_run 28 1 rfl ?_
        refine j_ald 29 rfl hp0.2.2.1 rfl ?_
        refine j_ast 30 rfl hp0.2.1 rfl ?_
        refine j_run 31 1 rfl ?_
        refine j_goto 32 rfl rfl ?_
        exact j_weak (leP_s (leP_s (leP_s (leP_z)))) (ih (bw (x2 + 1)) _)
      · refine j_run 14 1 rfl ?_
        refine j_gr 15 38 rfl rfl hp0.1 rfl ?_
        refine j_run 16 2 rfl ?_
        refine j_gr 18 0 rfl rfl hp0.1 rfl ?_
        refine j_run 19 1 rfl ?_
        refine j_ald 20 rfl hp0.2.1 rfl ?_
        refine j_ast 21 rfl hp0.2.2.1 rfl ?_
        refine j_goto 22 rfl rfl ?_
        refine j_run 31 1 rfl ?_
        refine j_goto 32 rfl rfl ?_
        exact j_weak (leP_s (leP_s (leP_s (leP_z)))) (ih (bw (x2 + 1)) _)
    · exact j_weak (leP_s (leP_s (leP_n (leP_z)))) (hk59 _)
theorem JX11_image_J13 {X : Cx} {ads : List Nat} {sk : List Sk} (hA : ads.length = sk.length ∧ sk.length ≤ 1000) (hp0 : ocM sk) (x1 : Int) (σ : Sg) : jX11_image X ads sk (13, [some (.inr (some 84)), some (.inl x1), none], [], σ) (fX11_image_J13 x1 σ) := by
  unfold fX11_image_J13
  refine j_run 7 2 rfl ?_
  refine j_weak (leP_s (leP_s (leP_s (leP_z)))) (JX11_image_L15 hA hp0 x1 _ (fun s3 => ?_) FU 0 _)
  refine j_run 33 1 rfl ?_
  refine jc_if_ne 34 rfl rfl (fun h4 => ?_) (fun h4 => ?_)
  · refine j_run 35 1 rfl ?_
    refine j_cv 36 5 0 rfl rfl mwX11_forgets hp0.1 rfl rfl (eX11_forgets hA hp0 _) rfl rfl (rok rfl rfl) (Nat.le_of_ble_eq_true rfl) (fun s5 _ h5 => ?_)
    refine j_run 37 2 rfl ?_
    refine j_pf 39 39 rfl rfl hp0.1 rfl rfl (Or.inr ⟨rfl, by decide⟩) ?_
    refine j_run 40 1 rfl ?_
    exact j_zret 41 rfl rfl (by decide) rfl
  · refine j_run 37 2 rfl ?_
    refine j_pf 39 39 rfl rfl hp0.1 rfl rfl (Or.inr ⟨rfl, by decide⟩) ?_
    refine j_run 40 1 rfl ?_
    exact j_zret 41 rfl rfl (by decide) rfl
theorem eX11_image {X : Cx} {ads : List Nat} {sk : List Sk} (hA : ads.length = sk.length ∧ sk.length ≤ 1000) (hp0 : ocM sk) (x1 : Int) (σ : Sg) : CF X mX11_image ads sk [.inr (some 84), .inl x1] σ wE (fX11_image x1 σ) := by
  refine CF.of ⟨pX11_image_ok, tbX11_ok, hA.1, hA.2⟩ (plainFor_of_name plX11) (Nat.le_of_ble_eq_true rfl) ?_
  show jX11_image X ads sk (0, [some (.inr (some 84)), some (.inl x1), none], [], σ) (fX11_image x1 σ)
  unfold fX11_image
  refine j_run 0 1 rfl ?_
  refine jc_if_ne 1 rfl rfl (fun h6 => ?_) (fun h6 => ?_)
  · refine j_run 2 1 rfl ?_
    refine j_gf 3 39 rfl rfl hp0.1 rfl ?_
    refine jc_if_ne 4 rfl rfl (fun h7 => ?_) (fun h7 => ?_)
    · refine j_run 5 1 rfl ?_
      exact j_zret 6 rfl rfl (by decide) rfl
    · exact j_weak (leP_s (leP_s (leP_n (leP_z)))) (JX11_image_J13 hA hp0 x1 _)
  · exact j_weak (leP_s (leP_s (leP_n (leP_z)))) (JX11_image_J13 hA hp0 x1 _)
abbrev jX11_bareFields (X : Cx) (ads : List Nat) (sk : List Sk) (σ : Sg) (ps : PS) (res : Option (Int)) : Prop := J X mX11_bareFields pX11_bareFields tbX11 (rmD 3 0 0) 0 0 E0 (fun a => FM X mX11_bareFields ads sk ((wP σ) a)) ads sk ps res
theorem JX11_bareFields_L4 {X : Cx} {ads : List Nat} {sk : List Sk} (hA : ads.length = sk.length ∧ sk.length ≤ 1000) (hp0 : ocM sk) (σ : Sg) : ∀ (n : Nat) (x1 : Int) (x2 : Int), jX11_bareFields X ads sk σ (4, [some (.inr (some 84)), some (.inl x1), some (.inl x2)], [], σ) (fX11_bareFields_L4 σ n x1 x2) := by
  intro n
  induction n with
  | zero => intro x1 x2; exact j_none
  | succ n ih =>
    intro x1 x2
    rw [fX11_bareFields_L4]
    refine j_run 4 2 rfl ?_
    refine jc_icmp_ge 6 rfl rfl (fun h1 => ?_) (fun h1 => ?_)
    · refine j_run 7 3 rfl ?_
      refine j_cvT 10 2 1 rfl rfl mwX11_isField hp0.1 rfl rfl (eX11_isField hA hp0 x2 _) rfl rfl (rok rfl rfl) (Nat.le_of_ble_eq_true rfl) (fun h2 => ?_)
      refine jc_if_eq 11 rfl rfl (fun h3 => ?_) (fun h3 => ?_)
      · refine j_run 21 1 rfl ?_
        refine j_run 22 3 rfl ?_
        refine j_goto 25 rfl rfl ?_
        exact j_weak (leP_s (leP_s (leP_s (leP_z)))) (ih (bw (x1 + 0)) (bw (x2 + 1)))
      · refine j_run 12 1 rfl ?_
        refine j_gr 13 0 rfl rfl hp0.1 rfl ?_
        refine j_run 14 3 rfl ?_
        refine j_ald 17 rfl hp0.2.1 rfl ?_
        refine jc_if_ne 18 rfl rfl (fun h4 => ?_) (fun h4 => ?_)
        · refine j_run 19 1 rfl ?_
          refine j_goto 20 rfl rfl ?_
          refine j_run 22 3 rfl ?_
          refine j_goto 25 rfl rfl ?_
          exact j_weak (leP_s (leP_s (leP_s (leP_z)))) (ih (bw (x1 + 1)) (bw (x2 + 1)))
        · refine j_run 21 1 rfl ?_
          refine j_run 22 3 rfl ?_
          refine j_goto 25 rfl rfl ?_
          exact j_weak (leP_s (leP_s (leP_s (leP_z)))) (ih (bw (x1 + 0)) (bw (x2 + 1)))
    · refine j_run 26 1 rfl ?_
      exact j_iret 27 rfl rfl rfl
theorem eX11_bareFields {X : Cx} {ads : List Nat} {sk : List Sk} (hA : ads.length = sk.length ∧ sk.length ≤ 1000) (hp0 : ocM sk) (σ : Sg) : CF X mX11_bareFields ads sk [.inr (some 84)] σ (wP σ) (fX11_bareFields σ) := by
  refine CF.of ⟨pX11_bareFields_ok, tbX11_ok, hA.1, hA.2⟩ (plainFor_of_name plX11) (Nat.le_of_ble_eq_true rfl) ?_
  show jX11_bareFields X ads sk σ (0, [some (.inr (some 84)), none, none], [], σ) (fX11_bareFields σ)
  unfold fX11_bareFields
  refine j_run 0 4 rfl ?_
  exact j_weak (leP_s (leP_s (leP_s (leP_z)))) (JX11_bareFields_L4 hA hp0 σ FU 0 0)
abbrev jX11_look (X : Cx) (ads : List Nat) (sk : List Sk) (σ : Sg) (ps : PS) (res : Option (Int)) : Prop := J X mX11_look pX11_look tbX11 (rmD 4 0 0) 0 0 E0 (fun a => FM X mX11_look ads sk ((wP σ) a)) ads sk ps res
theorem eX11_look {X : Cx} {ads : List Nat} {sk : List Sk} (hA : ads.length = sk.length ∧ sk.length ≤ 1000) (hp0 : ocM sk) (x1 : Int) (σ : Sg) : CF X mX11_look ads sk [.inr (some 84), .inl x1] σ (wP σ) (fX11_look x1 σ) := by
  refine CF.of ⟨pX11_look_ok, tbX11_ok, hA.1, hA.2⟩ (plainFor_of_name plX11) (Nat.le_of_ble_eq_true rfl) ?_
  show jX11_look X ads sk σ (0, [some (.inr (some 84)), some (.inl x1)], [], σ) (fX11_look x1 σ)
  unfold fX11_look
  refine j_run 0 1 rfl ?_
  refine jc_ite (fun h1 => ?_) (fun h1 => ?_)
  · refine j_tsIn 1 rfl h1 ⟨by decide, by decide⟩ rfl rfl ?_
    refine j_run 2 1 rfl ?_
    refine j_gr 3 0 rfl rfl hp0.1 rfl ?_
    refine j_run 4 1 rfl ?_
    refine j_ald0 5 rfl hp0.2.1 (by decide) ?_
    exact j_iret 6 rfl rfl rfl
  refine jc_ite (fun h2 => ?_) (fun h2 => ?_)
  · refine j_tsIn 1 rfl h2 ⟨by decide, by decide⟩ rfl rfl ?_
    refine j_run 7 1 rfl ?_
    refine j_gr 8 0 rfl rfl hp0.1 rfl ?_
    refine j_run 9 1 rfl ?_
    refine j_ald0 10 rfl hp0.2.1 (by decide) ?_
    exact j_iret 11 rfl rfl rfl
  refine jc_ite (fun h3 => ?_) (fun h3 => ?_)
  · refine j_tsIn 1 rfl h3 ⟨by decide, by decide⟩ rfl rfl ?_
    refine j_run 12 1 rfl ?_
    refine j_gr 13 0 rfl rfl hp0.1 rfl ?_
    refine j_run 14 1 rfl ?_
    refine j_ald0 15 rfl hp0.2.1 (by decide) ?_
    exact j_iret 16 rfl rfl rfl
  refine jc_ite (fun h4 => ?_) (fun h4 => ?_)
  · refine j_tsIn 1 rfl h4 ⟨by decide, by decide⟩ rfl rfl ?_
    refine j_run 17 1 rfl ?_
    refine j_gr 18 0 rfl rfl hp0.1 rfl ?_
    refine j_run 19 1 rfl ?_
    refine j_ald0 20 rfl hp0.2.1 (by decide) ?_
    exact j_iret 21 rfl rfl rfl
  refine jc_ite (fun h5 => ?_) (fun h5 => ?_)
  · refine j_tsIn 1 rfl h5 ⟨by decide, by decide⟩ rfl rfl ?_
    refine j_run 22 1 rfl ?_
    refine j_gr 23 0 rfl rfl hp0.1 rfl ?_
    refine j_run 24 1 rfl ?_
    refine j_ald0 25 rfl hp0.2.1 (by decide) ?_
    exact j_iret 26 rfl rfl rfl
  refine jc_ite (fun h6 => ?_) (fun h6 => ?_)
  · refine j_tsIn 1 rfl h6 ⟨by decide, by decide⟩ rfl rfl ?_
    refine j_run 27 1 rfl ?_
    refine j_gr 28 0 rfl rfl hp0.1 rfl ?_
    refine j_run 29 1 rfl ?_
    refine j_ald0 30 rfl hp0.2.1 (by decide) ?_
    exact j_iret 31 rfl rfl rfl
  refine jc_ite (fun h7 => ?_) (fun h7 => ?_)
  · refine j_tsIn 1 rfl h7 ⟨by decide, by decide⟩ rfl rfl ?_
    refine j_run 32 1 rfl ?_
    refine j_gr 33 0 rfl rfl hp0.1 rfl ?_
    refine j_run 34 1 rfl ?_
    refine j_ald0 35 rfl hp0.2.1 (by decide) ?_
    exact j_iret 36 rfl rfl rfl
  refine jc_ite (fun h8 => ?_) (fun h8 => ?_)
  · refine j_tsIn 1 rfl h8 ⟨by decide, by decide⟩ rfl rfl ?_
    refine j_run 37 1 rfl ?_
    refine j_gr 38 0 rfl rfl hp0.1 rfl ?_
    refine j_run 39 1 rfl ?_
    refine j_ald0 40 rfl hp0.2.1 (by decide) ?_
    exact j_iret 41 rfl rfl rfl
  refine jc_ite (fun h9 => ?_) (fun h9 => ?_)
  · refine j_tsIn 1 rfl h9 ⟨by decide, by decide⟩ rfl rfl ?_
    refine j_run 42 1 rfl ?_
    refine j_gr 43 0 rfl rfl hp0.1 rfl ?_
    refine j_run 44 1 rfl ?_
    refine j_ald0 45 rfl hp0.2.1 (by decide) ?_
    exact j_iret 46 rfl rfl rfl
  refine jc_ite (fun h10 => ?_) (fun h10 => ?_)
  · refine j_tsIn 1 rfl h10 ⟨by decide, by decide⟩ rfl rfl ?_
    refine j_run 47 1 rfl ?_
    refine j_gr 48 0 rfl rfl hp0.1 rfl ?_
    refine j_run 49 1 rfl ?_
    refine j_ald0 50 rfl hp0.2.1 (by decide) ?_
    exact j_iret 51 rfl rfl rfl
  refine jc_ite (fun h11 => ?_) (fun h11 => ?_)
  · refine j_tsIn 1 rfl h11 ⟨by decide, by decide⟩ rfl rfl ?_
    refine j_run 52 1 rfl ?_
    refine j_gr 53 0 rfl rfl hp0.1 rfl ?_
    refine j_run 54 1 rfl ?_
    refine j_ald0 55 rfl hp0.2.1 (by decide) ?_
    exact j_iret 56 rfl rfl rfl
  refine jc_ite (fun h12 => ?_) (fun h12 => ?_)
  · refine j_tsIn 1 rfl h12 ⟨by decide, by decide⟩ rfl rfl ?_
    refine j_run 57 1 rfl ?_
    refine j_gr 58 0 rfl rfl hp0.1 rfl ?_
    refine j_run 59 1 rfl ?_
    refine j_ald0 60 rfl hp0.2.1 (by decide) ?_
    exact j_iret 61 rfl rfl rfl
  refine jc_ite (fun h13 => ?_) (fun h13 => ?_)
  · refine j_tsIn 1 rfl h13 ⟨by decide, by decide⟩ rfl rfl ?_
    refine j_run 62 1 rfl ?_
    refine j_gr 63 0 rfl rfl hp0.1 rfl ?_
    refine j_run 64 1 rfl ?_
    refine j_ald0 65 rfl hp0.2.1 (by decide) ?_
    exact j_iret 66 rfl rfl rfl
  refine jc_ite (fun h14 => ?_) (fun h14 => ?_)
  · refine j_tsIn 1 rfl h14 ⟨by decide, by decide⟩ rfl rfl ?_
    refine j_run 67 1 rfl ?_
    refine j_gr 68 0 rfl rfl hp0.1 rfl ?_
    refine j_run 69 1 rfl ?_
    refine j_ald0 70 rfl hp0.2.1 (by decide) ?_
    exact j_iret 71 rfl rfl rfl
  refine jc_ite (fun h15 => ?_) (fun h15 => ?_)
  · refine j_tsIn 1 rfl h15 ⟨by decide, by decide⟩ rfl rfl ?_
    refine j_run 72 1 rfl ?_
    refine j_gr 73 0 rfl rfl hp0.1 rfl ?_
    refine j_run 74 1 rfl ?_
    refine j_ald0 75 rfl hp0.2.1 (by decide) ?_
    exact j_iret 76 rfl rfl rfl
  refine jc_ite (fun h16 => ?_) (fun h16 => ?_)
  · refine j_tsIn 1 rfl h16 ⟨by decide, by decide⟩ rfl rfl ?_
    refine j_run 77 1 rfl ?_
    refine j_gf 78 1 rfl rfl hp0.1 rfl ?_
    exact j_iret 79 rfl rfl rfl
  refine jc_ite (fun h17 => ?_) (fun h17 => ?_)
  · refine j_tsIn 1 rfl h17 ⟨by decide, by decide⟩ rfl rfl ?_
    refine j_run 80 1 rfl ?_
    refine j_cv 81 101 0 rfl rfl mwX11_bareFields hp0.1 rfl rfl (eX11_bareFields hA hp0 _) rfl rfl (rok rfl rfl) (Nat.le_of_ble_eq_true rfl) (fun r18 _ h18 => ?_)
    exact j_iret 82 rfl rfl rfl
  refine j_tsOut 1 rfl (by omega) rfl ?_
  refine j_run 83 1 rfl ?_
  exact j_iret 84 rfl rfl rfl
