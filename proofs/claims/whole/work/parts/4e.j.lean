/-! each method does what its function says -/
abbrev jX11_begins (X : Cx) (ads : List Nat) (sk : List Sk) (ps : PS) (res : Option (Sg)) : Prop := J X mX11_begins pX11_begins tbX11 (rmD 3 0 0) 0 0 E0 (fun a => FM X mX11_begins ads sk (wV a)) ads sk ps res
theorem JX11_begins_L10 {X : Cx} {ads : List Nat} {sk : List Sk} (hA : ads.length = sk.length ∧ sk.length ≤ 1000) (hp0 : ocM sk) (x1 : Int) (x2 : Int) (x3 : Int) (k32 : Sg → Option (Sg)) (hk32 : ∀  (σ : Sg), jX11_begins X ads sk (32, [some (.inr (some 84)), some (.inl x1), some (.inl x2), some (.inl x3), none], [], σ) (k32 σ)) : ∀ (n : Nat) (x4 : Int) (σ : Sg), jX11_begins X ads sk (10, [some (.inr (some 84)), some (.inl x1), some (.inl x2), some (.inl x3), some (.inl x4)], [], σ) (fX11_begins_L10 k32 x1 x2 x3 n x4 σ) := by
  intro n
  induction n with
  | zero => intro x4 σ; exact j_none
  | succ n ih =>
    intro x4 σ
    rw [fX11_begins_L10]
    refine j_run 7 2 rfl ?_
    refine jc_icmp_ge 9 rfl rfl (fun h1 => ?_) (fun h1 => ?_)
    · refine j_run 10 1 rfl ?_
      refine j_gr 11 0 rfl rfl hp0.1 rfl ?_
      refine j_run 12 2 rfl ?_
      refine j_ast 14 rfl hp0.2.1 rfl ?_
      refine j_run 15 1 rfl ?_
      refine j_goto 16 rfl rfl ?_
      exact j_weak (leP_s (leP_s (leP_s (leP_s (leP_s (leP_z)))))) (ih (bw (x4 + 1)) _)
    · exact j_weak (leP_s (leP_s (leP_s (leP_s (leP_n (leP_z)))))) (hk32 _)
theorem JX11_begins_L75 {X : Cx} {ads : List Nat} {sk : List Sk} (hA : ads.length = sk.length ∧ sk.length ≤ 1000) (hp0 : ocM sk) (k112 : Sg → Option (Sg)) (hk112 : ∀  (σ : Sg), jX11_begins X ads sk (112, [some (.inr (some 84)), none, none, none, none], [], σ) (k112 σ)) : ∀ (n : Nat) (x4 : Int) (σ : Sg), jX11_begins X ads sk (75, [some (.inr (some 84)), none, none, none, some (.inl x4)], [], σ) (fX11_begins_L75 k112 n x4 σ) := by
  intro n
  induction n with
  | zero => intro x4 σ; exact j_none
  | succ n ih =>
    intro x4 σ
    rw [fX11_begins_L75]
    refine j_run 44 2 rfl ?_
    refine jc_icmp_ge 46 rfl rfl (fun h3 => ?_) (fun h3 => ?_)
    · refine j_run 47 1 rfl ?_
      refine j_gr 48 0 rfl rfl hp0.1 rfl ?_
      refine j_run 49 5 rfl ?_
      refine j_cvT 54 2 1 rfl rfl mwX11_isField hp0.1 rfl rfl (eX11_isField hA hp0 x4 _) rfl rfl (rok rfl rfl) (Nat.le_of_ble_eq_true rfl) (fun h4 => ?_)
      refine jc_if_eq 55 rfl rfl (fun h5 => ?_) (fun h5 => ?_)
      · refine j_run 58 1 rfl ?_
        refine j_ast 59 rfl hp0.2.1 rfl ?_
        refine j_run 60 1 rfl ?_
        refine j_goto 61 rfl rfl ?_
        exact j_weak (leP_s (leP_n (leP_n (leP_n (leP_s (leP_z)))))) (ih (bw (x4 + 1)) _)
      · refine j_run 56 1 rfl ?_
        refine j_goto 57 rfl rfl ?_
        refine j_ast 59 rfl hp0.2.1 rfl ?_
        refine j_run 60 1 rfl ?_
        refine j_goto 61 rfl rfl ?_
        exact j_weak (leP_s (leP_n (leP_n (leP_n (leP_s (leP_z)))))) (ih (bw (x4 + 1)) _)
    · exact j_weak (leP_s (leP_n (leP_n (leP_n (leP_n (leP_z)))))) (hk112 _)
theorem JX11_begins_L115 {X : Cx} {ads : List Nat} {sk : List Sk} (hA : ads.length = sk.length ∧ sk.length ≤ 1000) (hp0 : ocM sk) : ∀ (n : Nat) (x4 : Int) (σ : Sg), jX11_begins X ads sk (115, [some (.inr (some 84)), none, none, none, some (.inl x4)], [], σ) (fX11_begins_L115 n x4 σ) := by
  intro n
  induction n with
  | zero => intro x4 σ; exact j_none
  | succ n ih =>
    intro x4 σ
    rw [fX11_begins_L115]
    refine j_run 64 2 rfl ?_
    refine jc_icmp_ge 66 rfl rfl (fun h7 => ?_) (fun h7 => ?_)
    · refine j_run 67 1 rfl ?_
      refine j_gr 68 0 rfl rfl hp0.1 rfl ?_
      refine j_run 69 4 rfl ?_
      refine j_ast 73 rfl hp0.2.1 rfl ?_
      refine j_run 74 1 rfl ?_
      refine j_goto 75 rfl rfl ?_
      exact j_weak (leP_s (leP_n (leP_n (leP_n (leP_s (leP_z)))))) (ih (bw (x4 + 1)) _)
    · refine j_run 76 2 rfl ?_
      refine j_pf 78 1 rfl rfl hp0.1 rfl rfl (Or.inl rfl) ?_
      exact j_vret 79 rfl rfl rfl
theorem eX11_begins {X : Cx} {ads : List Nat} {sk : List Sk} (hA : ads.length = sk.length ∧ sk.length ≤ 1000) (hp0 : ocM sk) (x1 : Int) (x2 : Int) (σ : Sg) : CF X mX11_begins ads sk [.inr (some 84), .inl x1, .inl x2] σ wV (fX11_begins x1 x2 σ) := by
  refine CF.of ⟨pX11_begins_ok, tbX11_ok, hA.1, hA.2⟩ (plainFor_of_name plX11) (Nat.le_of_ble_eq_true rfl) ?_
  show jX11_begins X ads sk (0, [some (.inr (some 84)), some (.inl x1), some (.inl x2), none, none], [], σ) (fX11_begins x1 x2 σ)
  unfold fX11_begins
  refine j_run 0 1 rfl ?_
  refine j_gr 1 0 rfl rfl hp0.1 rfl ?_
  refine j_run 2 1 rfl ?_
  refine j_ald0 3 rfl hp0.2.1 (by decide) ?_
  refine j_run 4 3 rfl ?_
  refine j_weak (leP_s (leP_s (leP_s (leP_s (leP_s (leP_z)))))) (JX11_begins_L10 hA hp0 x1 x2 (rd σ 85 2) _ (fun s2 => ?_) FU 0 _)
  refine j_run 17 1 rfl ?_
  refine j_gr 18 0 rfl rfl hp0.1 rfl ?_
  refine j_run 19 2 rfl ?_
  refine j_ast0 21 rfl hp0.2.1 (by decide) ?_
  refine j_run 22 1 rfl ?_
  refine j_gr 23 0 rfl rfl hp0.1 rfl ?_
  refine j_run 24 2 rfl ?_
  refine j_ast0 26 rfl hp0.2.1 (by decide) ?_
  refine j_run 27 1 rfl ?_
  refine j_gr 28 0 rfl rfl hp0.1 rfl ?_
  refine j_run 29 2 rfl ?_
  refine j_ast0 31 rfl hp0.2.1 (by decide) ?_
  refine j_run 32 1 rfl ?_
  refine j_gr 33 0 rfl rfl hp0.1 rfl ?_
  refine j_run 34 2 rfl ?_
  refine j_ast0 36 rfl hp0.2.1 (by decide) ?_
  refine j_run 37 1 rfl ?_
  refine j_gr 38 0 rfl rfl hp0.1 rfl ?_
  refine j_run 39 2 rfl ?_
  refine j_ast0 41 rfl hp0.2.1 (by decide) ?_
  refine j_run 42 2 rfl ?_
  refine j_weak (leP_s (leP_n (leP_n (leP_n (leP_s (leP_z)))))) (JX11_begins_L75 hA hp0 _ (fun s6 => ?_) FU 0 _)
  refine j_run 62 2 rfl ?_
  exact j_weak (leP_s (leP_n (leP_n (leP_n (leP_s (leP_z)))))) (JX11_begins_L115 hA hp0 FU 0 _)
abbrev jX11_lesser (X : Cx) (ads : List Nat) (sk : List Sk) (σ : Sg) (ps : PS) (res : Option (Int)) : Prop := J X mX11_lesser pX11_lesser tbX11 (rmD 0 0 0) 0 0 E0 (fun a => FM X mX11_lesser ads sk ((wP σ) a)) ads sk ps res
theorem eX11_lesser {X : Cx} {ads : List Nat} {sk : List Sk} (hA : ads.length = sk.length ∧ sk.length ≤ 1000) (x0 : Int) (x1 : Int) (σ : Sg) : CF X mX11_lesser ads sk [.inl x0, .inl x1] σ (wP σ) (some (fX11_lesser x0 x1)) := by
  refine CF.of ⟨pX11_lesser_ok, tbX11_ok, hA.1, hA.2⟩ (plainFor_of_name plX11) (Nat.le_of_ble_eq_true rfl) ?_
  show jX11_lesser X ads sk σ (0, [some (.inl x0), some (.inl x1)], [], σ) (some (fX11_lesser x0 x1))
  unfold fX11_lesser
  refine j_run 0 2 rfl ?_
  refine jt_icmp_ge 2 rfl rfl (fun h1 => ?_) (fun h1 => ?_)
  · refine j_run 3 1 rfl ?_
    refine j_goto 4 rfl rfl ?_
    exact j_iret 6 rfl rfl rfl
  · refine j_run 5 1 rfl ?_
    exact j_iret 6 rfl rfl rfl
abbrev jX11_greater (X : Cx) (ads : List Nat) (sk : List Sk) (σ : Sg) (ps : PS) (res : Option (Int)) : Prop := J X mX11_greater pX11_greater tbX11 (rmD 0 0 0) 0 0 E0 (fun a => FM X mX11_greater ads sk ((wP σ) a)) ads sk ps res
theorem eX11_greater {X : Cx} {ads : List Nat} {sk : List Sk} (hA : ads.length = sk.length ∧ sk.length ≤ 1000) (x0 : Int) (x1 : Int) (σ : Sg) : CF X mX11_greater ads sk [.inl x0, .inl x1] σ (wP σ) (some (fX11_greater x0 x1)) := by
  refine CF.of ⟨pX11_greater_ok, tbX11_ok, hA.1, hA.2⟩ (plainFor_of_name plX11) (Nat.le_of_ble_eq_true rfl) ?_
  show jX11_greater X ads sk σ (0, [some (.inl x0), some (.inl x1)], [], σ) (some (fX11_greater x0 x1))
  unfold fX11_greater
  refine j_run 0 2 rfl ?_
  refine jt_icmp_le 2 rfl rfl (fun h1 => ?_) (fun h1 => ?_)
  · refine j_run 3 1 rfl ?_
    refine j_goto 4 rfl rfl ?_
    exact j_iret 6 rfl rfl rfl
  · refine j_run 5 1 rfl ?_
    exact j_iret 6 rfl rfl rfl
abbrev jX11_size (X : Cx) (ads : List Nat) (sk : List Sk) (σ : Sg) (ps : PS) (res : Option (Int)) : Prop := J X mX11_size pX11_size tbX11 (rmD 0 0 0) 0 0 E0 (fun a => FM X mX11_size ads sk ((wP σ) a)) ads sk ps res
theorem eX11_size {X : Cx} {ads : List Nat} {sk : List Sk} (hA : ads.length = sk.length ∧ sk.length ≤ 1000) (x0 : Int) (σ : Sg) : CF X mX11_size ads sk [.inl x0] σ (wP σ) (some (fX11_size x0)) := by
  refine CF.of ⟨pX11_size_ok, tbX11_ok, hA.1, hA.2⟩ (plainFor_of_name plX11) (Nat.le_of_ble_eq_true rfl) ?_
  show jX11_size X ads sk σ (0, [some (.inl x0)], [], σ) (some (fX11_size x0))
  unfold fX11_size
  refine j_run 0 1 rfl ?_
  refine jt_if_ge 1 rfl rfl (fun h1 => ?_) (fun h1 => ?_)
  · refine j_run 2 2 rfl ?_
    refine j_goto 4 rfl rfl ?_
    exact j_iret 6 rfl rfl rfl
  · refine j_run 5 1 rfl ?_
    exact j_iret 6 rfl rfl rfl
abbrev jX11_isPerson (X : Cx) (ads : List Nat) (sk : List Sk) (σ : Sg) (ps : PS) (res : Option (Int)) : Prop := J X mX11_isPerson pX11_isPerson tbX11 (rmD 1 0 0) 0 0 E0 (fun a => FM X mX11_isPerson ads sk ((wP σ) a)) ads sk ps res
theorem eX11_isPerson {X : Cx} {ads : List Nat} {sk : List Sk} (hA : ads.length = sk.length ∧ sk.length ≤ 1000) (hp0 : ocM sk) (x1 : Int) (σ : Sg) : CF X mX11_isPerson ads sk [.inr (some 84), .inl x1] σ (wP σ) (some (fX11_isPerson x1 σ)) := by
  refine CF.of ⟨pX11_isPerson_ok, tbX11_ok, hA.1, hA.2⟩ (plainFor_of_name plX11) (Nat.le_of_ble_eq_true rfl) ?_
  show jX11_isPerson X ads sk σ (0, [some (.inr (some 84)), some (.inl x1)], [], σ) (some (fX11_isPerson x1 σ))
  unfold fX11_isPerson
  refine j_run 0 3 rfl ?_
  refine j_gr 3 0 rfl rfl hp0.1 rfl ?_
  refine j_run 4 1 rfl ?_
  refine j_ald0 5 rfl hp0.2.1 (by decide) ?_
  refine j_run 6 2 rfl ?_
  refine j_csT 8 0 3 rfl rfl mwX11_isIn (eX11_isIn hA x1 0 (bw ((rd σ 85 85) - 1)) _) rfl rfl (rok rfl rfl) (Nat.le_of_ble_eq_true rfl) (fun h1 => ?_)
  exact j_zret 9 rfl rfl (nrR_b h1 rfl) rfl
abbrev jX11_isFree (X : Cx) (ads : List Nat) (sk : List Sk) (σ : Sg) (ps : PS) (res : Option (Int)) : Prop := J X mX11_isFree pX11_isFree tbX11 (rmD 0 0 0) 0 0 E0 (fun a => FM X mX11_isFree ads sk ((wP σ) a)) ads sk ps res
theorem eX11_isFree {X : Cx} {ads : List Nat} {sk : List Sk} (hA : ads.length = sk.length ∧ sk.length ≤ 1000) (hp0 : ocM sk) (x1 : Int) (σ : Sg) : CF X mX11_isFree ads sk [.inr (some 84), .inl x1] σ (wP σ) (fX11_isFree x1 σ) := by
  refine CF.of ⟨pX11_isFree_ok, tbX11_ok, hA.1, hA.2⟩ (plainFor_of_name plX11) (Nat.le_of_ble_eq_true rfl) ?_
  show jX11_isFree X ads sk σ (0, [some (.inr (some 84)), some (.inl x1)], [], σ) (fX11_isFree x1 σ)
  unfold fX11_isFree
  refine j_run 0 1 rfl ?_
  refine j_gr 1 0 rfl rfl hp0.1 rfl ?_
  refine j_run 2 3 rfl ?_
  refine j_ald 5 rfl hp0.2.1 rfl ?_
  refine j_run 6 1 rfl ?_
  refine jc_icmp_ne 7 rfl rfl (fun h1 => ?_) (fun h1 => ?_)
  · refine j_run 8 1 rfl ?_
    refine j_goto 9 rfl rfl ?_
    exact j_zret 11 rfl rfl (by decide) rfl
  · refine j_run 10 1 rfl ?_
    exact j_zret 11 rfl rfl (by decide) rfl
abbrev jX11_areUnlike (X : Cx) (ads : List Nat) (sk : List Sk) (σ : Sg) (ps : PS) (res : Option (Int)) : Prop := J X mX11_areUnlike pX11_areUnlike tbX11 (rmD 2 0 0) 0 0 E0 (fun a => FM X mX11_areUnlike ads sk ((wP σ) a)) ads sk ps res
theorem eX11_areUnlike {X : Cx} {ads : List Nat} {sk : List Sk} (hA : ads.length = sk.length ∧ sk.length ≤ 1000) (hp0 : ocM sk) (x1 : Int) (x2 : Int) (σ : Sg) : CF X mX11_areUnlike ads sk [.inr (some 84), .inl x1, .inl x2] σ (wP σ) (fX11_areUnlike x1 x2 σ) := by
  refine CF.of ⟨pX11_areUnlike_ok, tbX11_ok, hA.1, hA.2⟩ (plainFor_of_name plX11) (Nat.le_of_ble_eq_true rfl) ?_
  show jX11_areUnlike X ads sk σ (0, [some (.inr (some 84)), some (.inl x1), some (.inl x2)], [], σ) (fX11_areUnlike x1 x2 σ)
  unfold fX11_areUnlike
  refine j_run 0 2 rfl ?_
  refine j_cvT 2 3 1 rfl rfl mwX11_isPerson hp0.1 rfl rfl (eX11_isPerson hA hp0 x1 _) rfl rfl (rok rfl rfl) (Nat.le_of_ble_eq_true rfl) (fun h1 => ?_)
  refine jc_if_eq 3 rfl rfl (fun h2 => ?_) (fun h2 => ?_)
  · refine j_run 23 1 rfl ?_
    exact j_zret 24 rfl rfl (by decide) rfl
  · refine j_run 4 2 rfl ?_
    refine j_cvT 6 3 1 rfl rfl mwX11_isPerson hp0.1 rfl rfl (eX11_isPerson hA hp0 x2 _) rfl rfl (rok rfl rfl) (Nat.le_of_ble_eq_true rfl) (fun h3 => ?_)
    refine jc_if_eq 7 rfl rfl (fun h4 => ?_) (fun h4 => ?_)
    · refine j_run 23 1 rfl ?_
      exact j_zret 24 rfl rfl (by decide) rfl
    · refine j_run 8 1 rfl ?_
      refine j_gr 9 0 rfl rfl hp0.1 rfl ?_
      refine j_run 10 3 rfl ?_
      refine j_ald 13 rfl hp0.2.1 rfl ?_
      refine j_run 14 1 rfl ?_
      refine j_gr 15 0 rfl rfl hp0.1 rfl ?_
      refine j_run 16 3 rfl ?_
      refine j_ald 19 rfl hp0.2.1 rfl ?_
      refine jc_icmp_eq 20 rfl rfl (fun h5 => ?_) (fun h5 => ?_)
      · refine j_run 23 1 rfl ?_
        exact j_zret 24 rfl rfl (by decide) rfl
      · refine j_run 21 1 rfl ?_
        refine j_goto 22 rfl rfl ?_
        exact j_zret 24 rfl rfl (by decide) rfl
abbrev jX11_wentTo (X : Cx) (ads : List Nat) (sk : List Sk) (σ : Sg) (ps : PS) (res : Option (Int)) : Prop := J X mX11_wentTo pX11_wentTo tbX11 (rmD 2 0 0) 0 0 E0 (fun a => FM X mX11_wentTo ads sk ((wP σ) a)) ads sk ps res
theorem JX11_wentTo_J47 {X : Cx} {ads : List Nat} {sk : List Sk} (hA : ads.length = sk.length ∧ sk.length ≤ 1000) (hp0 : ocM sk) (σ : Sg) (x3 : Int) (z0 : Int) (y0 : Int) : jX11_wentTo X ads sk σ (47, [some (.inr (some 84)), none, none, some (.inl x3), none], [.inl y0, .inl z0], σ) (some (fX11_wentTo_J47 σ x3 z0 y0)) := by
  unfold fX11_wentTo_J47
  refine j_run 29 5 rfl ?_
  refine j_cvT 34 1 2 rfl rfl mwX11_isOn hp0.1 rfl rfl (eX11_isOn hA hp0 x3 (bw (z0 + y0)) _) rfl rfl (rok rfl rfl) (Nat.le_of_ble_eq_true rfl) (fun h1 => ?_)
  refine jt_if_eq 35 rfl rfl (fun h2 => ?_) (fun h2 => ?_)
  · refine j_run 42 1 rfl ?_
    exact j_iret 43 rfl rfl rfl
  · refine j_run 36 5 rfl ?_
    refine j_goto 41 rfl rfl ?_
    exact j_iret 43 rfl rfl rfl
theorem JX11_wentTo_J23 {X : Cx} {ads : List Nat} {sk : List Sk} (hA : ads.length = sk.length ∧ sk.length ≤ 1000) (hp0 : ocM sk) (σ : Sg) (x1 : Int) (x2 : Int) (z0 : Int) (y0 : Int) : jX11_wentTo X ads sk σ (23, [some (.inr (some 84)), some (.inl x1), some (.inl x2), none, none], [.inl y0, .inl z0], σ) (some (fX11_wentTo_J23 σ x1 x2 z0 y0)) := by
  unfold fX11_wentTo_J23
  refine j_run 14 4 rfl ?_
  refine j_div0 18 rfl (by decide) ?_
  refine j_run 19 2 rfl ?_
  refine jt_icmp_ne 21 rfl rfl (fun h3 => ?_) (fun h3 => ?_)
  · refine j_run 22 1 rfl ?_
    refine j_goto 23 rfl rfl ?_
    exact j_weak (leP_s (leP_n (leP_n (leP_s (leP_n (leP_z)))))) (JX11_wentTo_J47 hA hp0 σ (bw (z0 + y0)) (tdv x1 8) 1)
  · refine j_run 24 1 rfl ?_
    refine jt_if_ne 25 rfl rfl (fun h4 => ?_) (fun h4 => ?_)
    · refine j_run 26 1 rfl ?_
      refine j_goto 27 rfl rfl ?_
      exact j_weak (leP_s (leP_n (leP_n (leP_s (leP_n (leP_z)))))) (JX11_wentTo_J47 hA hp0 σ (bw (z0 + y0)) (tdv x1 8) (-1))
    · refine j_run 28 1 rfl ?_
      exact j_weak (leP_s (leP_n (leP_n (leP_s (leP_n (leP_z)))))) (JX11_wentTo_J47 hA hp0 σ (bw (z0 + y0)) (tdv x1 8) 0)
theorem eX11_wentTo {X : Cx} {ads : List Nat} {sk : List Sk} (hA : ads.length = sk.length ∧ sk.length ≤ 1000) (hp0 : ocM sk) (x1 : Int) (x2 : Int) (σ : Sg) : CF X mX11_wentTo ads sk [.inr (some 84), .inl x1, .inl x2] σ (wP σ) (some (fX11_wentTo x1 x2 σ)) := by
  refine CF.of ⟨pX11_wentTo_ok, tbX11_ok, hA.1, hA.2⟩ (plainFor_of_name plX11) (Nat.le_of_ble_eq_true rfl) ?_
  show jX11_wentTo X ads sk σ (0, [some (.inr (some 84)), some (.inl x1), some (.inl x2), none, none], [], σ) (some (fX11_wentTo x1 x2 σ))
  unfold fX11_wentTo
  refine j_run 0 2 rfl ?_
  refine j_rem0 2 rfl (by decide) ?_
  refine j_run 3 2 rfl ?_
  refine jt_icmp_ne 5 rfl rfl (fun h5 => ?_) (fun h5 => ?_)
  · refine j_run 6 1 rfl ?_
    refine j_goto 7 rfl rfl ?_
    exact j_weak (leP_s (leP_s (leP_s (leP_n (leP_n (leP_z)))))) (JX11_wentTo_J23 hA hp0 σ x1 x2 (trm x1 8) 1)
  · refine j_run 8 2 rfl ?_
    refine jt_icmp_ne 10 rfl rfl (fun h6 => ?_) (fun h6 => ?_)
    · refine j_run 11 1 rfl ?_
      refine j_goto 12 rfl rfl ?_
      exact j_weak (leP_s (leP_s (leP_s (leP_n (leP_n (leP_z)))))) (JX11_wentTo_J23 hA hp0 σ x1 x2 (trm x1 8) (-1))
    · refine j_run 13 1 rfl ?_
      exact j_weak (leP_s (leP_s (leP_s (leP_n (leP_n (leP_z)))))) (JX11_wentTo_J23 hA hp0 σ x1 x2 (trm x1 8) 0)
abbrev jX11_apart (X : Cx) (ads : List Nat) (sk : List Sk) (σ : Sg) (ps : PS) (res : Option (Int)) : Prop := J X mX11_apart pX11_apart tbX11 (rmD 1 0 0) 0 0 E0 (fun a => FM X mX11_apart ads sk ((wP σ) a)) ads sk ps res
theorem eX11_apart {X : Cx} {ads : List Nat} {sk : List Sk} (hA : ads.length = sk.length ∧ sk.length ≤ 1000) (x0 : Int) (x1 : Int) (σ : Sg) : CF X mX11_apart ads sk [.inl x0, .inl x1] σ (wP σ) (some (fX11_apart x0 x1)) := by
  refine CF.of ⟨pX11_apart_ok, tbX11_ok, hA.1, hA.2⟩ (plainFor_of_name plX11) (Nat.le_of_ble_eq_true rfl) ?_
  show jX11_apart X ads sk σ (0, [some (.inl x0), some (.inl x1)], [], σ) (some (fX11_apart x0 x1))
  unfold fX11_apart
  refine j_run 0 2 rfl ?_
  refine j_rem0 2 rfl (by decide) ?_
  refine j_run 3 2 rfl ?_
  refine j_rem0 5 rfl (by decide) ?_
  refine j_run 6 1 rfl ?_
  refine j_csT 7 4 1 rfl rfl mwX11_size (eX11_size hA (bw ((trm x0 8) - (trm x1 8))) _) rfl rfl (rok rfl rfl) (Nat.le_of_ble_eq_true rfl) (fun h1 => ?_)
  refine j_run 8 2 rfl ?_
  refine j_div0 10 rfl (by decide) ?_
  refine j_run 11 2 rfl ?_
  refine j_div0 13 rfl (by decide) ?_
  refine j_run 14 1 rfl ?_
  refine j_csT 15 4 1 rfl rfl mwX11_size (eX11_size hA (bw ((tdv x0 8) - (tdv x1 8))) _) rfl rfl (rok rfl rfl) (Nat.le_of_ble_eq_true rfl) (fun h2 => ?_)
  refine j_run 16 1 rfl ?_
  exact j_iret 17 rfl rfl rfl
abbrev jX11_count (X : Cx) (ads : List Nat) (sk : List Sk) (σ : Sg) (ps : PS) (res : Option (Int)) : Prop := J X mX11_count pX11_count tbX11 (rmD 0 0 0) 0 0 E0 (fun a => FM X mX11_count ads sk ((wP σ) a)) ads sk ps res
theorem JX11_count_L4 {X : Cx} {ads : List Nat} {sk : List Sk} (hA : ads.length = sk.length ∧ sk.length ≤ 1000) (σ : Sg) (x0 : Int) : ∀ (n : Nat) (x1 : Int) (x2 : Int), jX11_count X ads sk σ (4, [some (.inl x0), some (.inl x1), some (.inl x2)], [], σ) (fX11_count_L4 x0 n x1 x2) := by
  intro n
  induction n with
  | zero => intro x1 x2; exact j_none
  | succ n ih =>
    intro x1 x2
    rw [fX11_count_L4]
    refine j_run 4 2 rfl ?_
    refine jc_icmp_ge 6 rfl rfl (fun h1 => ?_) (fun h1 => ?_)
    · refine j_run 7 9 rfl ?_
      refine j_goto 16 rfl rfl ?_
      exact j_weak (leP_s (leP_s (leP_s (leP_z)))) (ih (bw (x1 + (band (bshr x0 x2) 1))) (bw (x2 + 1)))
    · refine j_run 17 1 rfl ?_
      exact j_iret 18 rfl rfl rfl
theorem eX11_count {X : Cx} {ads : List Nat} {sk : List Sk} (hA : ads.length = sk.length ∧ sk.length ≤ 1000) (x0 : Int) (σ : Sg) : CF X mX11_count ads sk [.inl x0] σ (wP σ) (fX11_count x0) := by
  refine CF.of ⟨pX11_count_ok, tbX11_ok, hA.1, hA.2⟩ (plainFor_of_name plX11) (Nat.le_of_ble_eq_true rfl) ?_
  show jX11_count X ads sk σ (0, [some (.inl x0), none, none], [], σ) (fX11_count x0)
  unfold fX11_count
  refine j_run 0 4 rfl ?_
  exact j_weak (leP_s (leP_s (leP_s (leP_z)))) (JX11_count_L4 hA σ x0 FU 0 0)
abbrev jX11_forgets (X : Cx) (ads : List Nat) (sk : List Sk) (ps : PS) (res : Option (Sg)) : Prop := J X mX11_forgets pX11_forgets tbX11 (rmD 0 0 0) 0 0 E0 (fun a => FM X mX11_forgets ads sk (wV a)) ads sk ps res
theorem eX11_forgets {X : Cx} {ads : List Nat} {sk : List Sk} (hA : ads.length = sk.length ∧ sk.length ≤ 1000) (hp0 : ocM sk) (σ : Sg) : CF X mX11_forgets ads sk [.inr (some 84)] σ wV (fX11_forgets σ) := by
  refine CF.of ⟨pX11_forgets_ok, tbX11_ok, hA.1, hA.2⟩ (plainFor_of_name plX11) (Nat.le_of_ble_eq_true rfl) ?_
  show jX11_forgets X ads sk (0, [some (.inr (some 84))], [], σ) (fX11_forgets σ)
  unfold fX11_forgets
  refine j_run 0 2 rfl ?_
  refine j_pf 2 1 rfl rfl hp0.1 rfl rfl (Or.inl rfl) ?_
  exact j_vret 3 rfl rfl rfl
abbrev jX11_state (X : Cx) (ads : List Nat) (sk : List Sk) (ps : PS) (res : Option (Int × Sg)) : Prop := J X mX11_state pX11_state tbX11 (rmD 1 0 0) 0 0 E0 (fun a => FM X mX11_state ads sk (wE a)) ads sk ps res
theorem eX11_state {X : Cx} {ads : List Nat} {sk : List Sk} (hA : ads.length = sk.length ∧ sk.length ≤ 1000) (hp0 : ocM sk) (x1 : Int) (σ : Sg) : CF X mX11_state ads sk [.inr (some 84), .inl x1] σ wE (fX11_state x1 σ) := by
  refine CF.of ⟨pX11_state_ok, tbX11_ok, hA.1, hA.2⟩ (plainFor_of_name plX11) (Nat.le_of_ble_eq_true rfl) ?_
  show jX11_state X ads sk (0, [some (.inr (some 84)), some (.inl x1), none], [], σ) (fX11_state x1 σ)
  unfold fX11_state
  refine j_run 0 1 rfl ?_
  refine j_gr 1 0 rfl rfl hp0.1 rfl ?_
  refine j_run 2 1 rfl ?_
  refine j_ald0 3 rfl hp0.2.1 (by decide) ?_
  refine j_run 4 2 rfl ?_
  refine j_gr 6 0 rfl rfl hp0.1 rfl ?_
  refine j_run 7 2 rfl ?_
  refine j_ast0 9 rfl hp0.2.1 (by decide) ?_
  refine j_run 10 1 rfl ?_
  refine j_cv 11 5 0 rfl rfl mwX11_forgets hp0.1 rfl rfl (eX11_forgets hA hp0 _) rfl rfl (rok rfl rfl) (Nat.le_of_ble_eq_true rfl) (fun s1 _ h1 => ?_)
  refine j_run 12 1 rfl ?_
  exact j_iret 13 rfl rfl rfl
abbrev jX11_draw (X : Cx) (ads : List Nat) (sk : List Sk) (ps : PS) (res : Option (Int × Sg)) : Prop := J X mX11_draw pX11_draw tbX11 (rmD 0 0 0) 0 0 E0 (fun a => FM X mX11_draw ads sk (wE a)) ads sk ps res
theorem eX11_draw {X : Cx} {ads : List Nat} {sk : List Sk} (hA : ads.length = sk.length ∧ sk.length ≤ 1000) (hp0 : ocM sk) (x1 : Int) (σ : Sg) : CF X mX11_draw ads sk [.inr (some 84), .inl x1] σ wE (fX11_draw x1 σ) := by
  refine CF.of ⟨pX11_draw_ok, tbX11_ok, hA.1, hA.2⟩ (plainFor_of_name plX11) (Nat.le_of_ble_eq_true rfl) ?_
  show jX11_draw X ads sk (0, [some (.inr (some 84)), some (.inl x1)], [], σ) (fX11_draw x1 σ)
  unfold fX11_draw
  refine j_run 0 1 rfl ?_
  refine j_gr 1 0 rfl rfl hp0.1 rfl ?_
  refine j_run 2 3 rfl ?_
  refine j_gr 5 0 rfl rfl hp0.1 rfl ?_
  refine j_run 6 1 rfl ?_
  refine j_ald0 7 rfl hp0.2.1 (by decide) ?_
  refine j_run 8 3 rfl ?_
  refine j_ast0 11 rfl hp0.2.1 (by decide) ?_
  refine j_run 12 1 rfl ?_
  refine j_gr 13 0 rfl rfl hp0.1 rfl ?_
  refine j_run 14 1 rfl ?_
  refine j_ald0 15 rfl hp0.2.1 (by decide) ?_
  refine j_run 16 3 rfl ?_
  refine j_rem 19 rfl ?_
  exact j_iret 20 rfl rfl rfl
abbrev jX11_valley (X : Cx) (ads : List Nat) (sk : List Sk) (ps : PS) (res : Option (Int × Sg)) : Prop := J X mX11_valley pX11_valley tbX11 (rmD 4 0 0) 0 0 E0 (fun a => FM X mX11_valley ads sk (wE a)) ads sk ps res
theorem eX11_valley {X : Cx} {ads : List Nat} {sk : List Sk} (hA : ads.length = sk.length ∧ sk.length ≤ 1000) (hp0 : ocM sk) (x1 : Int) (x2 : Int) (σ : Sg) : CF X mX11_valley ads sk [.inr (some 84), .inl x1, .inl x2] σ wE (fX11_valley x1 x2 σ) := by
  refine CF.of ⟨pX11_valley_ok, tbX11_ok, hA.1, hA.2⟩ (plainFor_of_name plX11) (Nat.le_of_ble_eq_true rfl) ?_
  show jX11_valley X ads sk (0, [some (.inr (some 84)), some (.inl x1), some (.inl x2)], [], σ) (fX11_valley x1 x2 σ)
  unfold fX11_valley
  refine j_run 0 3 rfl ?_
  refine j_csT 3 0 3 rfl rfl mwX11_isIn (eX11_isIn hA x1 3 8 _) rfl rfl (rok rfl rfl) (Nat.le_of_ble_eq_true rfl) (fun h1 => ?_)
  refine jc_if_eq 4 rfl rfl (fun h2 => ?_) (fun h2 => ?_)
  · refine j_run 10 1 rfl ?_
    exact j_zret 11 rfl rfl (by decide) rfl
  · refine j_run 5 3 rfl ?_
    refine j_csT 8 0 3 rfl rfl mwX11_isIn (eX11_isIn hA x2 3 7 _) rfl rfl (rok rfl rfl) (Nat.le_of_ble_eq_true rfl) (fun h3 => ?_)
    refine jc_if_ne 9 rfl rfl (fun h4 => ?_) (fun h4 => ?_)
    · refine j_run 10 1 rfl ?_
      exact j_zret 11 rfl rfl (by decide) rfl
    · refine j_run 12 3 rfl ?_
      refine j_cv 15 6 2 rfl rfl mwX11_begins hp0.1 rfl rfl (eX11_begins hA hp0 x1 x2 _) rfl rfl (rok rfl rfl) (Nat.le_of_ble_eq_true rfl) (fun s5 _ h5 => ?_)
      refine j_run 16 1 rfl ?_
      exact j_zret 17 rfl rfl (by decide) rfl
abbrev jX11_person (X : Cx) (ads : List Nat) (sk : List Sk) (ps : PS) (res : Option (Int × Sg)) : Prop := J X mX11_person pX11_person tbX11 (rmD 3 0 0) 0 0 E0 (fun a => FM X mX11_person ads sk (wE a)) ads sk ps res
theorem eX11_person {X : Cx} {ads : List Nat} {sk : List Sk} (hA : ads.length = sk.length ∧ sk.length ≤ 1000) (hp0 : ocM sk) (x1 : Int) (x2 : Int) (x3 : Int) (x4 : Int) (σ : Sg) : CF X mX11_person ads sk [.inr (some 84), .inl x1, .inl x2, .inl x3, .inl x4] σ wE (fX11_person x1 x2 x3 x4 σ) := by
  refine CF.of ⟨pX11_person_ok, tbX11_ok, hA.1, hA.2⟩ (plainFor_of_name plX11) (Nat.le_of_ble_eq_true rfl) ?_
  show jX11_person X ads sk (0, [some (.inr (some 84)), some (.inl x1), some (.inl x2), some (.inl x3), some (.inl x4), none], [], σ) (fX11_person x1 x2 x3 x4 σ)
  unfold fX11_person
  refine j_run 0 3 rfl ?_
  refine j_csT 3 0 3 rfl rfl mwX11_isIn (eX11_isIn hA x1 0 1 _) rfl rfl (rok rfl rfl) (Nat.le_of_ble_eq_true rfl) (fun h1 => ?_)
  refine jc_if_eq 4 rfl rfl (fun h2 => ?_) (fun h2 => ?_)
  · refine j_run 25 1 rfl ?_
    exact j_iret 26 rfl rfl rfl
  · refine j_run 5 3 rfl ?_
    refine j_csT 8 0 3 rfl rfl mwX11_isIn (eX11_isIn hA x2 0 9 _) rfl rfl (rok rfl rfl) (Nat.le_of_ble_eq_true rfl) (fun h3 => ?_)
    refine jc_if_eq 9 rfl rfl (fun h4 => ?_) (fun h4 => ?_)
    · refine j_run 25 1 rfl ?_
      exact j_iret 26 rfl rfl rfl
    · refine j_run 10 3 rfl ?_
      refine j_csT 13 0 3 rfl rfl mwX11_isIn (eX11_isIn hA x3 0 9 _) rfl rfl (rok rfl rfl) (Nat.le_of_ble_eq_true rfl) (fun h5 => ?_)
      refine jc_if_eq 14 rfl rfl (fun h6 => ?_) (fun h6 => ?_)
      · refine j_run 25 1 rfl ?_
        exact j_iret 26 rfl rfl rfl
      · refine j_run 15 2 rfl ?_
        refine j_cvT 17 2 1 rfl rfl mwX11_isField hp0.1 rfl rfl (eX11_isField hA hp0 x4 _) rfl rfl (rok rfl rfl) (Nat.le_of_ble_eq_true rfl) (fun h7 => ?_)
        refine jc_if_eq 18 rfl rfl (fun h8 => ?_) (fun h8 => ?_)
        · refine j_run 25 1 rfl ?_
          exact j_iret 26 rfl rfl rfl
        · refine j_run 19 1 rfl ?_
          refine j_gr 20 0 rfl rfl hp0.1 rfl ?_
          refine j_run 21 1 rfl ?_
          refine j_ald0 22 rfl hp0.2.1 (by decide) ?_
          refine j_run 23 1 rfl ?_
          refine jc_icmp_ne 24 rfl rfl (fun h9 => ?_) (fun h9 => ?_)
          · refine j_run 25 1 rfl ?_
            exact j_iret 26 rfl rfl rfl
          · refine j_run 27 1 rfl ?_
            refine j_gr 28 0 rfl rfl hp0.1 rfl ?_
            refine j_run 29 1 rfl ?_
            refine j_ald0 30 rfl hp0.2.1 (by decide) ?_
            refine j_run 31 2 rfl ?_
            refine j_gr 33 0 rfl rfl hp0.1 rfl ?_
            refine j_run 34 4 rfl ?_
            refine j_ast 38 rfl hp0.2.1 rfl ?_
            refine j_run 39 1 rfl ?_
            refine j_gr 40 0 rfl rfl hp0.1 rfl ?_
            refine j_run 41 4 rfl ?_
            refine j_ast 45 rfl hp0.2.1 rfl ?_
            refine j_run 46 1 rfl ?_
            refine j_gr 47 0 rfl rfl hp0.1 rfl ?_
            refine j_run 48 4 rfl ?_
            refine j_ast 52 rfl hp0.2.1 rfl ?_
            refine j_run 53 1 rfl ?_
            refine j_gr 54 0 rfl rfl hp0.1 rfl ?_
            refine j_run 55 4 rfl ?_
            refine j_ast 59 rfl hp0.2.1 rfl ?_
            refine j_run 60 1 rfl ?_
            refine j_gr 61 0 rfl rfl hp0.1 rfl ?_
            refine j_run 62 4 rfl ?_
            refine j_ast 66 rfl hp0.2.1 rfl ?_
            refine j_run 67 1 rfl ?_
            refine j_gr 68 0 rfl rfl hp0.1 rfl ?_
            refine j_run 69 4 rfl ?_
            refine j_ast 73 rfl hp0.2.1 rfl ?_
            refine j_run 74 1 rfl ?_
            refine j_gr 75 0 rfl rfl hp0.1 rfl ?_
            refine j_run 76 2 rfl ?_
            refine j_ald0 78 rfl hp0.2.1 (by decide) ?_
            refine j_run 79 2 rfl ?_
            refine j_ast0 81 rfl hp0.2.1 (by decide) ?_
            refine j_run 82 1 rfl ?_
            refine j_cv 83 5 0 rfl rfl mwX11_forgets hp0.1 rfl rfl (eX11_forgets hA hp0 _) rfl rfl (rok rfl rfl) (Nat.le_of_ble_eq_true rfl) (fun s10 _ h10 => ?_)
            refine j_run 84 1 rfl ?_
            exact j_iret 85 rfl rfl rfl
abbrev jX11_canSet (X : Cx) (ads : List Nat) (sk : List Sk) (σ : Sg) (ps : PS) (res : Option (Int)) : Prop := J X mX11_canSet pX11_canSet tbX11 (rmD 3 0 0) 0 0 E0 (fun a => FM X mX11_canSet ads sk ((wP σ) a)) ads sk ps res
theorem eX11_canSet {X : Cx} {ads : List Nat} {sk : List Sk} (hA : ads.length = sk.length ∧ sk.length ≤ 1000) (hp0 : ocM sk) (x1 : Int) (x2 : Int) (x3 : Int) (σ : Sg) : CF X mX11_canSet ads sk [.inr (some 84), .inl x1, .inl x2, .inl x3] σ (wP σ) (some (fX11_canSet x1 x2 x3 σ)) := by
  refine CF.of ⟨pX11_canSet_ok, tbX11_ok, hA.1, hA.2⟩ (plainFor_of_name plX11) (Nat.le_of_ble_eq_true rfl) ?_
  show jX11_canSet X ads sk σ (0, [some (.inr (some 84)), some (.inl x1), some (.inl x2), some (.inl x3)], [], σ) (some (fX11_canSet x1 x2 x3 σ))
  unfold fX11_canSet
  refine j_run 0 1 rfl ?_
  refine jt_ite (fun h1 => ?_) (fun h1 => ?_)
  · refine j_tsIn 1 rfl h1 ⟨by decide, by decide⟩ rfl rfl ?_
    refine j_run 2 3 rfl ?_
    refine j_csT 5 0 3 rfl rfl mwX11_isIn (eX11_isIn hA x3 0 3 _) rfl rfl (rok rfl rfl) (Nat.le_of_ble_eq_true rfl) (fun h2 => ?_)
    exact j_zret 6 rfl rfl (nrR_b h2 rfl) rfl
  refine jt_ite (fun h3 => ?_) (fun h3 => ?_)
  · refine j_tsIn 1 rfl h3 ⟨by decide, by decide⟩ rfl rfl ?_
    refine j_run 7 3 rfl ?_
    refine j_csT 10 0 3 rfl rfl mwX11_isIn (eX11_isIn hA x3 1 99 _) rfl rfl (rok rfl rfl) (Nat.le_of_ble_eq_true rfl) (fun h4 => ?_)
    exact j_zret 11 rfl rfl (nrR_b h4 rfl) rfl
  refine jt_ite (fun h5 => ?_) (fun h5 => ?_)
  · refine j_tsIn 1 rfl h5 ⟨by decide, by decide⟩ rfl rfl ?_
    refine j_run 12 3 rfl ?_
    refine j_csT 15 0 3 rfl rfl mwX11_isIn (eX11_isIn hA x3 0 1000 _) rfl rfl (rok rfl rfl) (Nat.le_of_ble_eq_true rfl) (fun h6 => ?_)
    exact j_zret 16 rfl rfl (nrR_b h6 rfl) rfl
  refine jt_ite (fun h7 => ?_) (fun h7 => ?_)
  · refine j_tsIn 1 rfl h7 ⟨by decide, by decide⟩ rfl rfl ?_
    refine j_run 17 2 rfl ?_
    refine j_cvT 19 2 1 rfl rfl mwX11_isField hp0.1 rfl rfl (eX11_isField hA hp0 x2 _) rfl rfl (rok rfl rfl) (Nat.le_of_ble_eq_true rfl) (fun h8 => ?_)
    refine jt_if_eq 20 rfl rfl (fun h9 => ?_) (fun h9 => ?_)
    · refine j_run 28 1 rfl ?_
      exact j_zret 29 rfl rfl (by decide) rfl
    · refine j_run 21 3 rfl ?_
      refine j_csT 24 0 3 rfl rfl mwX11_isIn (eX11_isIn hA x3 0 99 _) rfl rfl (rok rfl rfl) (Nat.le_of_ble_eq_true rfl) (fun h10 => ?_)
      refine jt_if_eq 25 rfl rfl (fun h11 => ?_) (fun h11 => ?_)
      · refine j_run 28 1 rfl ?_
        exact j_zret 29 rfl rfl (by decide) rfl
      · refine j_run 26 1 rfl ?_
        refine j_goto 27 rfl rfl ?_
        exact j_zret 29 rfl rfl (by decide) rfl
  refine jt_ite (fun h12 => ?_) (fun h12 => ?_)
  · refine j_tsIn 1 rfl h12 ⟨by decide, by decide⟩ rfl rfl ?_
    refine j_run 30 2 rfl ?_
    refine j_cvT 32 3 1 rfl rfl mwX11_isPerson hp0.1 rfl rfl (eX11_isPerson hA hp0 x2 _) rfl rfl (rok rfl rfl) (Nat.le_of_ble_eq_true rfl) (fun h13 => ?_)
    refine jt_if_eq 33 rfl rfl (fun h14 => ?_) (fun h14 => ?_)
    · refine j_run 41 1 rfl ?_
      exact j_zret 42 rfl rfl (by decide) rfl
    · refine j_run 34 3 rfl ?_
      refine j_csT 37 0 3 rfl rfl mwX11_isIn (eX11_isIn hA x3 0 9 _) rfl rfl (rok rfl rfl) (Nat.le_of_ble_eq_true rfl) (fun h15 => ?_)
      refine jt_if_eq 38 rfl rfl (fun h16 => ?_) (fun h16 => ?_)
      · refine j_run 41 1 rfl ?_
        exact j_zret 42 rfl rfl (by decide) rfl
      · refine j_run 39 1 rfl ?_
        refine j_goto 40 rfl rfl ?_
        exact j_zret 42 rfl rfl (by decide) rfl
  refine jt_ite (fun h17 => ?_) (fun h17 => ?_)
  · refine j_tsIn 1 rfl h17 ⟨by decide, by decide⟩ rfl rfl ?_
    refine j_run 30 2 rfl ?_
    refine j_cvT 32 3 1 rfl rfl mwX11_isPerson hp0.1 rfl rfl (eX11_isPerson hA hp0 x2 _) rfl rfl (rok rfl rfl) (Nat.le_of_ble_eq_true rfl) (fun h18 => ?_)
    refine jt_if_eq 33 rfl rfl (fun h19 => ?_) (fun h19 => ?_)
    · refine j_run 41 1 rfl ?_
      exact j_zret 42 rfl rfl (by decide) rfl
    · refine j_run 34 3 rfl ?_
      refine j_csT 37 0 3 rfl rfl mwX11_isIn (eX11_isIn hA x3 0 9 _) rfl rfl (rok rfl rfl) (Nat.le_of_ble_eq_true rfl) (fun h20 => ?_)
      refine jt_if_eq 38 rfl rfl (fun h21 => ?_) (fun h21 => ?_)
      · refine j_run 41 1 rfl ?_
        exact j_zret 42 rfl rfl (by decide) rfl
      · refine j_run 39 1 rfl ?_
        refine j_goto 40 rfl rfl ?_
        exact j_zret 42 rfl rfl (by decide) rfl
  refine j_tsOut 1 rfl (by omega) rfl ?_
  refine j_run 43 1 rfl ?_
  exact j_zret 44 rfl rfl (by decide) rfl
abbrev jX11_placeOf (X : Cx) (ads : List Nat) (sk : List Sk) (σ : Sg) (ps : PS) (res : Option (Int)) : Prop := J X mX11_placeOf pX11_placeOf tbX11 (rmD 0 0 0) 0 0 E0 (fun a => FM X mX11_placeOf ads sk ((wP σ) a)) ads sk ps res
theorem eX11_placeOf {X : Cx} {ads : List Nat} {sk : List Sk} (hA : ads.length = sk.length ∧ sk.length ≤ 1000) (x0 : Int) (x1 : Int) (σ : Sg) : CF X mX11_placeOf ads sk [.inl x0, .inl x1] σ (wP σ) (some (fX11_placeOf x0 x1)) := by
  refine CF.of ⟨pX11_placeOf_ok, tbX11_ok, hA.1, hA.2⟩ (plainFor_of_name plX11) (Nat.le_of_ble_eq_true rfl) ?_
  show jX11_placeOf X ads sk σ (0, [some (.inl x0), some (.inl x1)], [], σ) (some (fX11_placeOf x0 x1))
  unfold fX11_placeOf
  refine j_run 0 1 rfl ?_
  refine jt_ite (fun h1 => ?_) (fun h1 => ?_)
  · refine j_tsIn 1 rfl h1 ⟨by decide, by decide⟩ rfl rfl ?_
    refine j_run 2 1 rfl ?_
    exact j_iret 3 rfl rfl rfl
  refine jt_ite (fun h2 => ?_) (fun h2 => ?_)
  · refine j_tsIn 1 rfl h2 ⟨by decide, by decide⟩ rfl rfl ?_
    refine j_run 4 1 rfl ?_
    exact j_iret 5 rfl rfl rfl
  refine jt_ite (fun h3 => ?_) (fun h3 => ?_)
  · refine j_tsIn 1 rfl h3 ⟨by decide, by decide⟩ rfl rfl ?_
    refine j_run 6 1 rfl ?_
    exact j_iret 7 rfl rfl rfl
  refine jt_ite (fun h4 => ?_) (fun h4 => ?_)
  · refine j_tsIn 1 rfl h4 ⟨by decide, by decide⟩ rfl rfl ?_
    refine j_run 8 3 rfl ?_
    exact j_iret 11 rfl rfl rfl
  refine jt_ite (fun h5 => ?_) (fun h5 => ?_)
  · refine j_tsIn 1 rfl h5 ⟨by decide, by decide⟩ rfl rfl ?_
    refine j_run 12 3 rfl ?_
    exact j_iret 15 rfl rfl rfl
  refine j_tsOut 1 rfl (by omega) rfl ?_
  refine j_run 16 3 rfl ?_
  exact j_iret 19 rfl rfl rfl
abbrev jX11_set (X : Cx) (ads : List Nat) (sk : List Sk) (ps : PS) (res : Option (Int × Sg)) : Prop := J X mX11_set pX11_set tbX11 (rmD 4 0 0) 0 0 E0 (fun a => FM X mX11_set ads sk (wE a)) ads sk ps res
theorem eX11_set {X : Cx} {ads : List Nat} {sk : List Sk} (hA : ads.length = sk.length ∧ sk.length ≤ 1000) (hp0 : ocM sk) (x1 : Int) (x2 : Int) (x3 : Int) (σ : Sg) : CF X mX11_set ads sk [.inr (some 84), .inl x1, .inl x2, .inl x3] σ wE (fX11_set x1 x2 x3 σ) := by
  refine CF.of ⟨pX11_set_ok, tbX11_ok, hA.1, hA.2⟩ (plainFor_of_name plX11) (Nat.le_of_ble_eq_true rfl) ?_
  show jX11_set X ads sk (0, [some (.inr (some 84)), some (.inl x1), some (.inl x2), some (.inl x3)], [], σ) (fX11_set x1 x2 x3 σ)
  unfold fX11_set
  refine j_run 0 4 rfl ?_
  refine j_cvT 4 7 3 rfl rfl mwX11_canSet hp0.1 rfl rfl (eX11_canSet hA hp0 x1 x2 x3 _) rfl rfl (rok rfl rfl) (Nat.le_of_ble_eq_true rfl) (fun h1 => ?_)
  refine jc_if_ne 5 rfl rfl (fun h2 => ?_) (fun h2 => ?_)
  · refine j_run 6 1 rfl ?_
    exact j_zret 7 rfl rfl (by decide) rfl
  · refine j_run 8 1 rfl ?_
    refine j_gr 9 0 rfl rfl hp0.1 rfl ?_
    refine j_run 10 2 rfl ?_
    refine j_csT 12 8 2 rfl rfl mwX11_placeOf (eX11_placeOf hA x1 x2 _) rfl rfl (rok rfl rfl) (Nat.le_of_ble_eq_true rfl) (fun h3 => ?_)
    refine j_run 13 1 rfl ?_
    refine j_ast 14 rfl hp0.2.1 rfl ?_
    refine j_run 15 1 rfl ?_
    refine j_cv 16 5 0 rfl rfl mwX11_forgets hp0.1 rfl rfl (eX11_forgets hA hp0 _) rfl rfl (rok rfl rfl) (Nat.le_of_ble_eq_true rfl) (fun s4 _ h4 => ?_)
    refine j_run 17 1 rfl ?_
    exact j_zret 18 rfl rfl (by decide) rfl
abbrev jX11_kin (X : Cx) (ads : List Nat) (sk : List Sk) (ps : PS) (res : Option (Int × Sg)) : Prop := J X mX11_kin pX11_kin tbX11 (rmD 2 0 0) 0 0 E0 (fun a => FM X mX11_kin ads sk (wE a)) ads sk ps res
theorem JX11_kin_J116 {X : Cx} {ads : List Nat} {sk : List Sk} (hA : ads.length = sk.length ∧ sk.length ≤ 1000) (hp0 : ocM sk) (z0 : Int) (y0 : Int) (σ : Sg) : jX11_kin X ads sk (116, [some (.inr (some 84)), none, none, none], [.inl y0, .inl z0, .inr (some 85)], σ) (fX11_kin_J116 z0 y0 σ) := by
  unfold fX11_kin_J116
  refine j_ast 74 rfl hp0.2.1 rfl ?_
  refine j_run 75 1 rfl ?_
  refine j_cv 76 5 0 rfl rfl mwX11_forgets hp0.1 rfl rfl (eX11_forgets hA hp0 _) rfl rfl (rok rfl rfl) (Nat.le_of_ble_eq_true rfl) (fun s6 _ h6 => ?_)
  refine j_run 77 1 rfl ?_
  exact j_zret 78 rfl rfl (by decide) rfl
theorem JX11_kin_J69 {X : Cx} {ads : List Nat} {sk : List Sk} (hA : ads.length = sk.length ∧ sk.length ≤ 1000) (hp0 : ocM sk) (x1 : Int) (x2 : Int) (x3 : Int) (z0 : Int) (y0 : Int) (σ : Sg) : jX11_kin X ads sk (69, [some (.inr (some 84)), some (.inl x1), some (.inl x2), some (.inl x3)], [.inl y0, .inl z0, .inr (some 85)], σ) (fX11_kin_J69 x1 x2 x3 z0 y0 σ) := by
  unfold fX11_kin_J69
  refine j_ast 43 rfl hp0.2.1 rfl ?_
  refine j_run 44 1 rfl ?_
  refine j_gr 45 0 rfl rfl hp0.1 rfl ?_
  refine j_run 46 4 rfl ?_
  refine jc_if_eq 50 rfl rfl (fun h7 => ?_) (fun h7 => ?_)
  · refine j_run 62 1 rfl ?_
    refine j_gr 63 0 rfl rfl hp0.1 rfl ?_
    refine j_run 64 3 rfl ?_
    refine j_ald 67 rfl hp0.2.1 rfl ?_
    refine j_run 68 6 rfl ?_
    exact j_weak (leP_s (leP_n (leP_n (leP_n (leP_z))))) (JX11_kin_J116 hA hp0 (bw (139 + x2)) (band (rd (wr σ 85 z0 y0) 85 (bw (139 + x2))) (bxor (bshl 1 x1) (-1))) _)
  · refine j_run 51 1 rfl ?_
    refine j_gr 52 0 rfl rfl hp0.1 rfl ?_
    refine j_run 53 3 rfl ?_
    refine j_ald 56 rfl hp0.2.1 rfl ?_
    refine j_run 57 4 rfl ?_
    refine j_goto 61 rfl rfl ?_
    exact j_weak (leP_s (leP_n (leP_n (leP_n (leP_z))))) (JX11_kin_J116 hA hp0 (bw (139 + x2)) (bor (rd (wr σ 85 z0 y0) 85 (bw (139 + x2))) (bshl 1 x1)) _)
theorem eX11_kin {X : Cx} {ads : List Nat} {sk : List Sk} (hA : ads.length = sk.length ∧ sk.length ≤ 1000) (hp0 : ocM sk) (x1 : Int) (x2 : Int) (x3 : Int) (σ : Sg) : CF X mX11_kin ads sk [.inr (some 84), .inl x1, .inl x2, .inl x3] σ wE (fX11_kin x1 x2 x3 σ) := by
  refine CF.of ⟨pX11_kin_ok, tbX11_ok, hA.1, hA.2⟩ (plainFor_of_name plX11) (Nat.le_of_ble_eq_true rfl) ?_
  show jX11_kin X ads sk (0, [some (.inr (some 84)), some (.inl x1), some (.inl x2), some (.inl x3)], [], σ) (fX11_kin x1 x2 x3 σ)
  unfold fX11_kin
  refine j_run 0 2 rfl ?_
  refine j_cvT 2 3 1 rfl rfl mwX11_isPerson hp0.1 rfl rfl (eX11_isPerson hA hp0 x1 _) rfl rfl (rok rfl rfl) (Nat.le_of_ble_eq_true rfl) (fun h1 => ?_)
  refine jc_if_eq 3 rfl rfl (fun h2 => ?_) (fun h2 => ?_)
  · refine j_run 11 1 rfl ?_
    exact j_zret 12 rfl rfl (by decide) rfl
  · refine j_run 4 2 rfl ?_
    refine j_cvT 6 3 1 rfl rfl mwX11_isPerson hp0.1 rfl rfl (eX11_isPerson hA hp0 x2 _) rfl rfl (rok rfl rfl) (Nat.le_of_ble_eq_true rfl) (fun h3 => ?_)
    refine jc_if_eq 7 rfl rfl (fun h4 => ?_) (fun h4 => ?_)
    · refine j_run 11 1 rfl ?_
      exact j_zret 12 rfl rfl (by decide) rfl
    · refine j_run 8 2 rfl ?_
      refine jc_icmp_ne 10 rfl rfl (fun h5 => ?_) (fun h5 => ?_)
      · refine j_run 11 1 rfl ?_
        exact j_zret 12 rfl rfl (by decide) rfl
      · refine j_run 13 1 rfl ?_
        refine j_gr 14 0 rfl rfl hp0.1 rfl ?_
        refine j_run 15 4 rfl ?_
        refine jc_if_eq 19 rfl rfl (fun h8 => ?_) (fun h8 => ?_)
        · refine j_run 31 1 rfl ?_
          refine j_gr 32 0 rfl rfl hp0.1 rfl ?_
          refine j_run 33 3 rfl ?_
          refine j_ald 36 rfl hp0.2.1 rfl ?_
          refine j_run 37 6 rfl ?_
          exact j_weak (leP_s (leP_s (leP_s (leP_s (leP_z))))) (JX11_kin_J69 hA hp0 x1 x2 x3 (bw (139 + x1)) (band (rd σ 85 (bw (139 + x1))) (bxor (bshl 1 x2) (-1))) _)
        · refine j_run 20 1 rfl ?_
          refine j_gr 21 0 rfl rfl hp0.1 rfl ?_
          refine j_run 22 3 rfl ?_
          refine j_ald 25 rfl hp0.2.1 rfl ?_
          refine j_run 26 4 rfl ?_
          refine j_goto 30 rfl rfl ?_
          exact j_weak (leP_s (leP_s (leP_s (leP_s (leP_z))))) (JX11_kin_J69 hA hp0 x1 x2 x3 (bw (139 + x1)) (bor (rd σ 85 (bw (139 + x1))) (bshl 1 x2)) _)
abbrev jX11_feed (X : Cx) (ads : List Nat) (sk : List Sk) (ps : PS) (res : Option (Int × Sg)) : Prop := J X mX11_feed pX11_feed tbX11 (rmD 0 0 0) 0 0 E0 (fun a => FM X mX11_feed ads sk (wE a)) ads sk ps res
theorem JX11_feed_J71 {X : Cx} {ads : List Nat} {sk : List Sk} (hA : ads.length = sk.length ∧ sk.length ≤ 1000) (hp0 : ocM sk) (x1 : Int) (x2 : Int) (x3 : Int) (x4 : Int) (x5 : Int) (x6 : Int) (k18 : Int → Sg → Option (Int × Sg)) (hk18 : ∀ (x6 : Int) (σ : Sg), jX11_feed X ads sk (18, [some (.inr (some 84)), some (.inl x1), some (.inl x2), some (.inl x3), some (.inl x4), some (.inl x5), some (.inl x6), none], [], σ) (k18 x6 σ)) (y0 : Int) (σ : Sg) : jX11_feed X ads sk (71, [some (.inr (some 84)), some (.inl x1), some (.inl x2), some (.inl x3), some (.inl x4), some (.inl x5), some (.inl x6), none], [.inl y0], σ) (fX11_feed_J71 k18 x1 x2 x3 x4 x5 x6 y0 σ) := by
  unfold fX11_feed_J71
  refine j_run 34 2 rfl ?_
  refine j_gr 36 3 rfl rfl hp0.1 rfl ?_
  refine j_run 37 1 rfl ?_
  refine j_gf 38 2 rfl rfl hp0.1 rfl ?_
  refine j_run 39 5 rfl ?_
  refine j_rem0 44 rfl (by decide) ?_
  refine j_run 45 5 rfl ?_
  refine j_ast 50 rfl hp0.2.2.2.2.2.2.2.2.1 rfl ?_
  refine j_run 51 2 rfl ?_
  refine j_gf 53 2 rfl rfl hp0.1 rfl ?_
  refine j_run 54 2 rfl ?_
  refine j_pf 56 2 rfl rfl hp0.1 rfl rfl (Or.inl rfl) ?_
  refine j_run 57 1 rfl ?_
  refine j_goto 58 rfl rfl ?_
  exact j_weak (leP_s (leP_s (leP_s (leP_s (leP_s (leP_s (leP_s (leP_n (leP_z))))))))) (hk18 (bw (x6 + 1)) _)
theorem JX11_feed_L18 {X : Cx} {ads : List Nat} {sk : List Sk} (hA : ads.length = sk.length ∧ sk.length ≤ 1000) (hp0 : ocM sk) (x1 : Int) (x2 : Int) (x3 : Int) (x4 : Int) (x5 : Int) : ∀ (n : Nat) (x6 : Int) (σ : Sg), jX11_feed X ads sk (18, [some (.inr (some 84)), some (.inl x1), some (.inl x2), some (.inl x3), some (.inl x4), some (.inl x5), some (.inl x6), none], [], σ) (fX11_feed_L18 x1 x2 x3 x4 x5 n x6 σ) := by
  intro n
  induction n with
  | zero => intro x6 σ; exact j_none
  | succ n ih =>
    intro x6 σ
    rw [fX11_feed_L18]
    refine j_run 10 2 rfl ?_
    refine jc_icmp_ge 12 rfl rfl (fun h2 => ?_) (fun h2 => ?_)
    · refine j_run 13 2 rfl ?_
      refine jc_icmp_ge 15 rfl rfl (fun h3 => ?_) (fun h3 => ?_)
      · refine j_run 16 1 rfl ?_
        refine j_goto 17 rfl rfl ?_
        exact j_weak (leP_s (leP_s (leP_s (leP_s (leP_s (leP_s (leP_s (leP_n (leP_z))))))))) (JX11_feed_J71 hA hp0 x1 x2 x3 x4 x5 x6 _ ih x1 _)
      · refine j_run 18 2 rfl ?_
        refine jc_icmp_ge 20 rfl rfl (fun h4 => ?_) (fun h4 => ?_)
        · refine j_run 21 1 rfl ?_
          refine j_goto 22 rfl rfl ?_
          exact j_weak (leP_s (leP_s (leP_s (leP_s (leP_s (leP_s (leP_s (leP_n (leP_z))))))))) (JX11_feed_J71 hA hp0 x1 x2 x3 x4 x5 x6 _ ih x2 _)
        · refine j_run 23 2 rfl ?_
          refine jc_icmp_ge 25 rfl rfl (fun h5 => ?_) (fun h5 => ?_)
          · refine j_run 26 1 rfl ?_
            refine j_goto 27 rfl rfl ?_
            exact j_weak (leP_s (leP_s (leP_s (leP_s (leP_s (leP_s (leP_s (leP_n (leP_z))))))))) (JX11_feed_J71 hA hp0 x1 x2 x3 x4 x5 x6 _ ih x3 _)
          · refine j_run 28 2 rfl ?_
            refine jc_icmp_ge 30 rfl rfl (fun h6 => ?_) (fun h6 => ?_)
            · refine j_run 31 1 rfl ?_
              refine j_goto 32 rfl rfl ?_
              exact j_weak (leP_s (leP_s (leP_s (leP_s (leP_s (leP_s (leP_s (leP_n (leP_z))))))))) (JX11_feed_J71 hA hp0 x1 x2 x3 x4 x5 x6 _ ih x4 _)
            · refine j_run 33 1 rfl ?_
              exact j_weak (leP_s (leP_s (leP_s (leP_s (leP_s (leP_s (leP_s (leP_n (leP_z))))))))) (JX11_feed_J71 hA hp0 x1 x2 x3 x4 x5 x6 _ ih x5 _)
    · refine j_run 59 1 rfl ?_
      refine j_gf 60 2 rfl rfl hp0.1 rfl ?_
      exact j_iret 61 rfl rfl rfl
theorem eX11_feed {X : Cx} {ads : List Nat} {sk : List Sk} (hA : ads.length = sk.length ∧ sk.length ≤ 1000) (hp0 : ocM sk) (x1 : Int) (x2 : Int) (x3 : Int) (x4 : Int) (x5 : Int) (σ : Sg) : CF X mX11_feed ads sk [.inr (some 84), .inl x1, .inl x2, .inl x3, .inl x4, .inl x5] σ wE (fX11_feed x1 x2 x3 x4 x5 σ) := by
  refine CF.of ⟨pX11_feed_ok, tbX11_ok, hA.1, hA.2⟩ (plainFor_of_name plX11) (Nat.le_of_ble_eq_true rfl) ?_
  show jX11_feed X ads sk (0, [some (.inr (some 84)), some (.inl x1), some (.inl x2), some (.inl x3), some (.inl x4), some (.inl x5), none, none], [], σ) (fX11_feed x1 x2 x3 x4 x5 σ)
  unfold fX11_feed
  refine j_run 0 1 rfl ?_
  refine j_gf 1 2 rfl rfl hp0.1 rfl ?_
  refine j_run 2 3 rfl ?_
  refine jc_icmp_le 5 rfl rfl (fun h1 => ?_) (fun h1 => ?_)
  · refine j_run 6 1 rfl ?_
    exact j_iret 7 rfl rfl rfl
  · refine j_run 8 2 rfl ?_
    exact j_weak (leP_s (leP_s (leP_s (leP_s (leP_s (leP_s (leP_s (leP_n (leP_z))))))))) (JX11_feed_L18 hA hp0 x1 x2 x3 x4 x5 FU 0 _)
abbrev jX11_end (X : Cx) (ads : List Nat) (sk : List Sk) (ps : PS) (res : Option (Int × Sg)) : Prop := J X mX11_end pX11_end tbX11 (rmD 1 0 0) 0 0 E0 (fun a => FM X mX11_end ads sk (wE a)) ads sk ps res
theorem eX11_end {X : Cx} {ads : List Nat} {sk : List Sk} (hA : ads.length = sk.length ∧ sk.length ≤ 1000) (hp0 : ocM sk) (x1 : Int) (σ : Sg) : CF X mX11_end ads sk [.inr (some 84), .inl x1] σ wE (fX11_end x1 σ) := by
  refine CF.of ⟨pX11_end_ok, tbX11_ok, hA.1, hA.2⟩ (plainFor_of_name plX11) (Nat.le_of_ble_eq_true rfl) ?_
  show jX11_end X ads sk (0, [some (.inr (some 84)), some (.inl x1)], [], σ) (fX11_end x1 σ)
  unfold fX11_end
  refine j_run 0 3 rfl ?_
  refine j_gf 3 2 rfl rfl hp0.1 rfl ?_
  refine j_csT 4 0 3 rfl rfl mwX11_isIn (eX11_isIn hA x1 0 (rd σ 84 16) _) rfl rfl (rok rfl rfl) (Nat.le_of_ble_eq_true rfl) (fun h1 => ?_)
  refine jc_if_ne 5 rfl rfl (fun h2 => ?_) (fun h2 => ?_)
  · refine j_run 6 1 rfl ?_
    exact j_zret 7 rfl rfl (by decide) rfl
  · refine j_run 8 2 rfl ?_
    refine j_pf 10 2 rfl rfl hp0.1 rfl rfl (Or.inl rfl) ?_
    refine j_run 11 1 rfl ?_
    exact j_zret 12 rfl rfl (by decide) rfl
abbrev jX11_see (X : Cx) (ads : List Nat) (sk : List Sk) (σ : Sg) (ps : PS) (res : Option (Int)) : Prop := J X mX11_see pX11_see tbX11 (rmD 0 0 0) 0 0 E0 (fun a => FM X mX11_see ads sk ((wP σ) a)) ads sk ps res
theorem eX11_see {X : Cx} {ads : List Nat} {sk : List Sk} (hA : ads.length = sk.length ∧ sk.length ≤ 1000) (hp0 : ocM sk) (x1 : Int) (σ : Sg) : CF X mX11_see ads sk [.inr (some 84), .inl x1] σ (wP σ) (fX11_see x1 σ) := by
  refine CF.of ⟨pX11_see_ok, tbX11_ok, hA.1, hA.2⟩ (plainFor_of_name plX11) (Nat.le_of_ble_eq_true rfl) ?_
  show jX11_see X ads sk σ (0, [some (.inr (some 84)), some (.inl x1)], [], σ) (fX11_see x1 σ)
  unfold fX11_see
  refine j_run 0 2 rfl ?_
  refine j_gf 2 2 rfl rfl hp0.1 rfl ?_
  refine jc_icmp_ge 3 rfl rfl (fun h1 => ?_) (fun h1 => ?_)
  · refine j_run 4 1 rfl ?_
    refine j_gr 5 3 rfl rfl hp0.1 rfl ?_
    refine j_run 6 1 rfl ?_
    refine j_ald 7 rfl hp0.2.2.2.2.2.2.2.2.1 rfl ?_
    refine j_goto 8 rfl rfl ?_
    exact j_iret 10 rfl rfl rfl
  · refine j_run 9 1 rfl ?_
    exact j_iret 10 rfl rfl rfl
abbrev jX11_isLetter (X : Cx) (ads : List Nat) (sk : List Sk) (σ : Sg) (ps : PS) (res : Option (Int)) : Prop := J X mX11_isLetter pX11_isLetter tbX11 (rmD 1 0 0) 0 0 E0 (fun a => FM X mX11_isLetter ads sk ((wP σ) a)) ads sk ps res
theorem eX11_isLetter {X : Cx} {ads : List Nat} {sk : List Sk} (hA : ads.length = sk.length ∧ sk.length ≤ 1000) (x0 : Int) (σ : Sg) : CF X mX11_isLetter ads sk [.inl x0] σ (wP σ) (some (fX11_isLetter x0)) := by
  refine CF.of ⟨pX11_isLetter_ok, tbX11_ok, hA.1, hA.2⟩ (plainFor_of_name plX11) (Nat.le_of_ble_eq_true rfl) ?_
  show jX11_isLetter X ads sk σ (0, [some (.inl x0)], [], σ) (some (fX11_isLetter x0))
  unfold fX11_isLetter
  refine j_run 0 3 rfl ?_
  refine j_csT 3 0 3 rfl rfl mwX11_isIn (eX11_isIn hA x0 97 122 _) rfl rfl (rok rfl rfl) (Nat.le_of_ble_eq_true rfl) (fun h1 => ?_)
  refine jt_if_ne 4 rfl rfl (fun h2 => ?_) (fun h2 => ?_)
  · refine j_run 5 3 rfl ?_
    refine j_csT 8 0 3 rfl rfl mwX11_isIn (eX11_isIn hA x0 65 90 _) rfl rfl (rok rfl rfl) (Nat.le_of_ble_eq_true rfl) (fun h3 => ?_)
    refine jt_if_eq 9 rfl rfl (fun h4 => ?_) (fun h4 => ?_)
    · refine j_run 12 1 rfl ?_
      exact j_zret 13 rfl rfl (by decide) rfl
    · refine j_run 10 1 rfl ?_
      refine j_goto 11 rfl rfl ?_
      exact j_zret 13 rfl rfl (by decide) rfl
  · refine j_run 10 1 rfl ?_
    refine j_goto 11 rfl rfl ?_
    exact j_zret 13 rfl rfl (by decide) rfl
abbrev jX11_isDigit (X : Cx) (ads : List Nat) (sk : List Sk) (σ : Sg) (ps : PS) (res : Option (Int)) : Prop := J X mX11_isDigit pX11_isDigit tbX11 (rmD 1 0 0) 0 0 E0 (fun a => FM X mX11_isDigit ads sk ((wP σ) a)) ads sk ps res
theorem eX11_isDigit {X : Cx} {ads : List Nat} {sk : List Sk} (hA : ads.length = sk.length ∧ sk.length ≤ 1000) (x0 : Int) (σ : Sg) : CF X mX11_isDigit ads sk [.inl x0] σ (wP σ) (some (fX11_isDigit x0)) := by
  refine CF.of ⟨pX11_isDigit_ok, tbX11_ok, hA.1, hA.2⟩ (plainFor_of_name plX11) (Nat.le_of_ble_eq_true rfl) ?_
  show jX11_isDigit X ads sk σ (0, [some (.inl x0)], [], σ) (some (fX11_isDigit x0))
  unfold fX11_isDigit
  refine j_run 0 3 rfl ?_
  refine j_csT 3 0 3 rfl rfl mwX11_isIn (eX11_isIn hA x0 48 57 _) rfl rfl (rok rfl rfl) (Nat.le_of_ble_eq_true rfl) (fun h1 => ?_)
  exact j_zret 4 rfl rfl (nrR_b h1 rfl) rfl
abbrev jX11_is (X : Cx) (ads : List Nat) (sk : List Sk) (σ : Sg) (ps : PS) (res : Option (Int)) : Prop := J X mX11_is pX11_is tbX11 (rmD 8 0 0) 0 0 E0 (fun a => FM X mX11_is ads sk ((wP σ) a)) ads sk ps res
theorem JX11_is_L24 {X : Cx} {ads : List Nat} {sk : List Sk} (hA : ads.length = sk.length ∧ sk.length ≤ 1000) (hp0 : ocM sk) {c1 : Nat} (hp1 : 1000 ≤ c1 ∧ c1 < 1024) (σ : Sg) : ∀ (n : Nat) (x2 : Int) (x3 : Int), jX11_is X ads sk σ (24, [some (.inr (some 84)), some (.inr (some c1)), some (.inl x2), some (.inl x3)], [], σ) (fX11_is_L24 c1 σ n x2 x3) := by
  intro n
  induction n with
  | zero => intro x2 x3; exact j_none
  | succ n ih =>
    intro x2 x3
    rw [fX11_is_L24]
    refine j_run 14 2 rfl ?_
    refine j_sLen 16 9 rfl rfl hp1 (rok rfl rfl) (Nat.le_of_ble_eq_true rfl) ?_
    refine jc_icmp_ge 17 rfl rfl (fun h3 => ?_) (fun h3 => ?_)
    · refine j_run 18 1 rfl ?_
      refine jc_if_eq 19 rfl rfl (fun h4 => ?_) (fun h4 => ?_)
      · refine j_run 37 1 rfl ?_
        exact j_grd (fun hg => j_zret 38 rfl rfl hg rfl)
      · refine j_run 20 1 rfl ?_
        refine j_gr 21 3 rfl rfl hp0.1 rfl ?_
        refine j_run 22 1 rfl ?_
        refine j_gf 23 5 rfl rfl hp0.1 rfl ?_
        refine j_run 24 2 rfl ?_
        refine j_ald 26 rfl hp0.2.2.2.2.2.2.2.2.1 rfl ?_
        refine j_run 27 2 rfl ?_
        refine j_sCh 29 10 rfl rfl hp1 (rok rfl rfl) (Nat.le_of_ble_eq_true rfl) ?_
        refine jc_icmp_ne 30 rfl rfl (fun h6 => ?_) (fun h6 => ?_)
        · refine j_run 31 1 rfl ?_
          refine j_goto 32 rfl rfl ?_
          refine j_run 34 2 rfl ?_
          refine j_goto 36 rfl rfl ?_
          exact j_weak (leP_s (leP_s (leP_s (leP_s (leP_z))))) (ih 1 (bw (x3 + 1)))
        · refine j_run 33 1 rfl ?_
          refine j_run 34 2 rfl ?_
          refine j_goto 36 rfl rfl ?_
          exact j_weak (leP_s (leP_s (leP_s (leP_s (leP_z))))) (ih 0 (bw (x3 + 1)))
    · refine j_run 37 1 rfl ?_
      exact j_grd (fun hg => j_zret 38 rfl rfl hg rfl)
theorem JX11_is_J21 {X : Cx} {ads : List Nat} {sk : List Sk} (hA : ads.length = sk.length ∧ sk.length ≤ 1000) (hp0 : ocM sk) {c1 : Nat} (hp1 : 1000 ≤ c1 ∧ c1 < 1024) (σ : Sg) (y0 : Int) : jX11_is X ads sk σ (21, [some (.inr (some 84)), some (.inr (some c1)), none, none], [.inl y0], σ) (fX11_is_J21 c1 σ y0) := by
  unfold fX11_is_J21
  refine j_run 11 3 rfl ?_
  exact j_weak (leP_s (leP_s (leP_s (leP_s (leP_z))))) (JX11_is_L24 hA hp0 hp1 σ FU y0 0)
theorem eX11_is {X : Cx} {ads : List Nat} {sk : List Sk} (hA : ads.length = sk.length ∧ sk.length ≤ 1000) (hp0 : ocM sk) {c1 : Nat} (hp1 : 1000 ≤ c1 ∧ c1 < 1024) (σ : Sg) : CF X mX11_is ads sk [.inr (some 84), .inr (some c1)] σ (wP σ) (fX11_is c1 σ) := by
  refine CF.of ⟨pX11_is_ok, tbX11_ok, hA.1, hA.2⟩ (plainFor_of_name plX11) (Nat.le_of_ble_eq_true rfl) ?_
  show jX11_is X ads sk σ (0, [some (.inr (some 84)), some (.inr (some c1)), none, none], [], σ) (fX11_is c1 σ)
  unfold fX11_is
  refine j_run 0 1 rfl ?_
  refine j_gf 1 4 rfl rfl hp0.1 rfl ?_
  refine j_run 2 1 rfl ?_
  refine j_gf 3 5 rfl rfl hp0.1 rfl ?_
  refine j_run 4 2 rfl ?_
  refine j_sLen 6 9 rfl rfl hp1 (rok rfl rfl) (Nat.le_of_ble_eq_true rfl) ?_
  refine jc_icmp_ne 7 rfl rfl (fun h7 => ?_) (fun h7 => ?_)
  · refine j_run 8 1 rfl ?_
    refine j_goto 9 rfl rfl ?_
    exact j_weak (leP_s (leP_s (leP_n (leP_n (leP_z))))) (JX11_is_J21 hA hp0 hp1 σ 1)
  · refine j_run 10 1 rfl ?_
    exact j_weak (leP_s (leP_s (leP_n (leP_n (leP_z))))) (JX11_is_J21 hA hp0 hp1 σ 0)
abbrev jX11_asked (X : Cx) (ads : List Nat) (sk : List Sk) (σ : Sg) (ps : PS) (res : Option (Int)) : Prop := J X mX11_asked pX11_asked tbX11 (rmD 9 0 0) 0 0 E0 (fun a => FM X mX11_asked ads sk ((wP σ) a)) ads sk ps res
theorem eX11_asked {X : Cx} {ads : List Nat} {sk : List Sk} (hA : ads.length = sk.length ∧ sk.length ≤ 1000) (hp0 : ocM sk) (σ : Sg) : CF X mX11_asked ads sk [.inr (some 84)] σ (wP σ) (fX11_asked σ) := by
  refine CF.of ⟨pX11_asked_ok, tbX11_ok, hA.1, hA.2⟩ (plainFor_of_name plX11) (Nat.le_of_ble_eq_true rfl) ?_
  show jX11_asked X ads sk σ (0, [some (.inr (some 84))], [], σ) (fX11_asked σ)
  unfold fX11_asked
  refine j_run 0 1 rfl ?_
  refine j_ldcS 1 0 rfl rfl ?_
  refine j_cv 2 11 1 rfl rfl mwX11_is hp0.1 rfl rfl (eX11_is hA hp0 (by decide) _) rfl rfl (rok rfl rfl) (Nat.le_of_ble_eq_true rfl) (fun r1 _ h1 => ?_)
  refine jc_if_eq 3 rfl rfl (fun h2 => ?_) (fun h2 => ?_)
  · refine j_run 6 1 rfl ?_
    refine j_ldcS 7 1 rfl rfl ?_
    refine j_cv 8 11 1 rfl rfl mwX11_is hp0.1 rfl rfl (eX11_is hA hp0 (by decide) _) rfl rfl (rok rfl rfl) (Nat.le_of_ble_eq_true rfl) (fun r3 _ h3 => ?_)
    refine jc_if_eq 9 rfl rfl (fun h4 => ?_) (fun h4 => ?_)
    · refine j_run 12 1 rfl ?_
      refine j_ldcS 13 2 rfl rfl ?_
      refine j_cv 14 11 1 rfl rfl mwX11_is hp0.1 rfl rfl (eX11_is hA hp0 (by decide) _) rfl rfl (rok rfl rfl) (Nat.le_of_ble_eq_true rfl) (fun r5 _ h5 => ?_)
      refine jc_if_eq 15 rfl rfl (fun h6 => ?_) (fun h6 => ?_)
      · refine j_run 18 1 rfl ?_
        refine j_ldcS 19 3 rfl rfl ?_
        refine j_cv 20 11 1 rfl rfl mwX11_is hp0.1 rfl rfl (eX11_is hA hp0 (by decide) _) rfl rfl (rok rfl rfl) (Nat.le_of_ble_eq_true rfl) (fun r7 _ h7 => ?_)
        refine jc_if_eq 21 rfl rfl (fun h8 => ?_) (fun h8 => ?_)
        · refine j_run 24 1 rfl ?_
          refine j_ldcS 25 4 rfl rfl ?_
          refine j_cv 26 11 1 rfl rfl mwX11_is hp0.1 rfl rfl (eX11_is hA hp0 (by decide) _) rfl rfl (rok rfl rfl) (Nat.le_of_ble_eq_true rfl) (fun r9 _ h9 => ?_)
          refine jc_if_eq 27 rfl rfl (fun h10 => ?_) (fun h10 => ?_)
          · refine j_run 30 1 rfl ?_
            refine j_ldcS 31 5 rfl rfl ?_
            refine j_cv 32 11 1 rfl rfl mwX11_is hp0.1 rfl rfl (eX11_is hA hp0 (by decide) _) rfl rfl (rok rfl rfl) (Nat.le_of_ble_eq_true rfl) (fun r11 _ h11 => ?_)
            refine jc_if_eq 33 rfl rfl (fun h12 => ?_) (fun h12 => ?_)
            · refine j_run 36 1 rfl ?_
              refine j_ldcS 37 6 rfl rfl ?_
              refine j_cv 38 11 1 rfl rfl mwX11_is hp0.1 rfl rfl (eX11_is hA hp0 (by decide) _) rfl rfl (rok rfl rfl) (Nat.le_of_ble_eq_true rfl) (fun r13 _ h13 => ?_)
              refine jc_if_eq 39 rfl rfl (fun h14 => ?_) (fun h14 => ?_)
              · refine j_run 42 1 rfl ?_
                refine j_ldcS 43 7 rfl rfl ?_
                refine j_cv 44 11 1 rfl rfl mwX11_is hp0.1 rfl rfl (eX11_is hA hp0 (by decide) _) rfl rfl (rok rfl rfl) (Nat.le_of_ble_eq_true rfl) (fun r15 _ h15 => ?_)
                refine jc_if_eq 45 rfl rfl (fun h16 => ?_) (fun h16 => ?_)
                · refine j_run 48 1 rfl ?_
                  refine j_ldcS 49 8 rfl rfl ?_
                  refine j_cv 50 11 1 rfl rfl mwX11_is hp0.1 rfl rfl (eX11_is hA hp0 (by decide) _) rfl rfl (rok rfl rfl) (Nat.le_of_ble_eq_true rfl) (fun r17 _ h17 => ?_)
                  refine jc_if_eq 51 rfl rfl (fun h18 => ?_) (fun h18 => ?_)
                  · refine j_run 54 1 rfl ?_
                    refine j_ldcS 55 9 rfl rfl ?_
                    refine j_cv 56 11 1 rfl rfl mwX11_is hp0.1 rfl rfl (eX11_is hA hp0 (by decide) _) rfl rfl (rok rfl rfl) (Nat.le_of_ble_eq_true rfl) (fun r19 _ h19 => ?_)
                    refine jc_if_eq 57 rfl rfl (fun h20 => ?_) (fun h20 => ?_)
                    · refine j_run 60 1 rfl ?_
                      exact j_iret 61 rfl rfl rfl
                    · refine j_run 58 1 rfl ?_
                      refine j_goto 59 rfl rfl ?_
                      exact j_iret 61 rfl rfl rfl
                  · refine j_run 52 1 rfl ?_
                    exact j_iret 53 rfl rfl rfl
                · refine j_run 46 1 rfl ?_
                  exact j_iret 47 rfl rfl rfl
              · refine j_run 40 1 rfl ?_
                exact j_iret 41 rfl rfl rfl
            · refine j_run 34 1 rfl ?_
              exact j_iret 35 rfl rfl rfl
          · refine j_run 28 1 rfl ?_
            exact j_iret 29 rfl rfl rfl
        · refine j_run 22 1 rfl ?_
          exact j_iret 23 rfl rfl rfl
      · refine j_run 16 1 rfl ?_
        exact j_iret 17 rfl rfl rfl
    · refine j_run 10 1 rfl ?_
      exact j_iret 11 rfl rfl rfl
  · refine j_run 4 1 rfl ?_
    exact j_iret 5 rfl rfl rfl
abbrev jX11_lawWord (X : Cx) (ads : List Nat) (sk : List Sk) (σ : Sg) (ps : PS) (res : Option (Int)) : Prop := J X mX11_lawWord pX11_lawWord tbX11 (rmD 10 0 0) 0 0 E0 (fun a => FM X mX11_lawWord ads sk ((wP σ) a)) ads sk ps res
theorem eX11_lawWord {X : Cx} {ads : List Nat} {sk : List Sk} (hA : ads.length = sk.length ∧ sk.length ≤ 1000) (hp0 : ocM sk) (σ : Sg) : CF X mX11_lawWord ads sk [.inr (some 84)] σ (wP σ) (fX11_lawWord σ) := by
  refine CF.of ⟨pX11_lawWord_ok, tbX11_ok, hA.1, hA.2⟩ (plainFor_of_name plX11) (Nat.le_of_ble_eq_true rfl) ?_
  show jX11_lawWord X ads sk σ (0, [some (.inr (some 84))], [], σ) (fX11_lawWord σ)
  unfold fX11_lawWord
  refine j_run 0 1 rfl ?_
  refine j_ldcS 1 10 rfl rfl ?_
  refine j_cv 2 11 1 rfl rfl mwX11_is hp0.1 rfl rfl (eX11_is hA hp0 (by decide) _) rfl rfl (rok rfl rfl) (Nat.le_of_ble_eq_true rfl) (fun r1 _ h1 => ?_)
  refine jc_if_eq 3 rfl rfl (fun h2 => ?_) (fun h2 => ?_)
  · refine j_run 6 1 rfl ?_
    refine j_ldcS 7 11 rfl rfl ?_
    refine j_cv 8 11 1 rfl rfl mwX11_is hp0.1 rfl rfl (eX11_is hA hp0 (by decide) _) rfl rfl (rok rfl rfl) (Nat.le_of_ble_eq_true rfl) (fun r3 _ h3 => ?_)
    refine jc_if_eq 9 rfl rfl (fun h4 => ?_) (fun h4 => ?_)
    · refine j_run 12 1 rfl ?_
      refine j_ldcS 13 12 rfl rfl ?_
      refine j_cv 14 11 1 rfl rfl mwX11_is hp0.1 rfl rfl (eX11_is hA hp0 (by decide) _) rfl rfl (rok rfl rfl) (Nat.le_of_ble_eq_true rfl) (fun r5 _ h5 => ?_)
      refine jc_if_eq 15 rfl rfl (fun h6 => ?_) (fun h6 => ?_)
      · refine j_run 18 1 rfl ?_
        refine j_ldcS 19 13 rfl rfl ?_
        refine j_cv 20 11 1 rfl rfl mwX11_is hp0.1 rfl rfl (eX11_is hA hp0 (by decide) _) rfl rfl (rok rfl rfl) (Nat.le_of_ble_eq_true rfl) (fun r7 _ h7 => ?_)
        refine jc_if_eq 21 rfl rfl (fun h8 => ?_) (fun h8 => ?_)
        · refine j_run 24 1 rfl ?_
          refine j_ldcS 25 14 rfl rfl ?_
          refine j_cv 26 11 1 rfl rfl mwX11_is hp0.1 rfl rfl (eX11_is hA hp0 (by decide) _) rfl rfl (rok rfl rfl) (Nat.le_of_ble_eq_true rfl) (fun r9 _ h9 => ?_)
          refine jc_if_eq 27 rfl rfl (fun h10 => ?_) (fun h10 => ?_)
          · refine j_run 30 1 rfl ?_
            refine j_ldcS 31 15 rfl rfl ?_
            refine j_cv 32 11 1 rfl rfl mwX11_is hp0.1 rfl rfl (eX11_is hA hp0 (by decide) _) rfl rfl (rok rfl rfl) (Nat.le_of_ble_eq_true rfl) (fun r11 _ h11 => ?_)
            refine jc_if_eq 33 rfl rfl (fun h12 => ?_) (fun h12 => ?_)
            · refine j_run 36 1 rfl ?_
              refine j_ldcS 37 16 rfl rfl ?_
              refine j_cv 38 11 1 rfl rfl mwX11_is hp0.1 rfl rfl (eX11_is hA hp0 (by decide) _) rfl rfl (rok rfl rfl) (Nat.le_of_ble_eq_true rfl) (fun r13 _ h13 => ?_)
              refine jc_if_eq 39 rfl rfl (fun h14 => ?_) (fun h14 => ?_)
              · refine j_run 42 1 rfl ?_
                refine j_cv 43 12 0 rfl rfl mwX11_asked hp0.1 rfl rfl (eX11_asked hA hp0 _) rfl rfl (rok rfl rfl) (Nat.le_of_ble_eq_true rfl) (fun r15 _ h15 => ?_)
                exact j_iret 44 rfl rfl rfl
              · refine j_run 40 1 rfl ?_
                refine j_goto 41 rfl rfl ?_
                exact j_iret 44 rfl rfl rfl
            · refine j_run 34 1 rfl ?_
              exact j_iret 35 rfl rfl rfl
          · refine j_run 28 1 rfl ?_
            exact j_iret 29 rfl rfl rfl
        · refine j_run 22 1 rfl ?_
          exact j_iret 23 rfl rfl rfl
      · refine j_run 16 1 rfl ?_
        exact j_iret 17 rfl rfl rfl
    · refine j_run 10 1 rfl ?_
      exact j_iret 11 rfl rfl rfl
  · refine j_run 4 1 rfl ?_
    exact j_iret 5 rfl rfl rfl
abbrev jX11_vowWord (X : Cx) (ads : List Nat) (sk : List Sk) (σ : Sg) (ps : PS) (res : Option (Int)) : Prop := J X mX11_vowWord pX11_vowWord tbX11 (rmD 9 0 0) 0 0 E0 (fun a => FM X mX11_vowWord ads sk ((wP σ) a)) ads sk ps res
theorem eX11_vowWord {X : Cx} {ads : List Nat} {sk : List Sk} (hA : ads.length = sk.length ∧ sk.length ≤ 1000) (hp0 : ocM sk) (σ : Sg) : CF X mX11_vowWord ads sk [.inr (some 84)] σ (wP σ) (fX11_vowWord σ) := by
  refine CF.of ⟨pX11_vowWord_ok, tbX11_ok, hA.1, hA.2⟩ (plainFor_of_name plX11) (Nat.le_of_ble_eq_true rfl) ?_
  show jX11_vowWord X ads sk σ (0, [some (.inr (some 84))], [], σ) (fX11_vowWord σ)
  unfold fX11_vowWord
  refine j_run 0 1 rfl ?_
  refine j_ldcS 1 17 rfl rfl ?_
  refine j_cv 2 11 1 rfl rfl mwX11_is hp0.1 rfl rfl (eX11_is hA hp0 (by decide) _) rfl rfl (rok rfl rfl) (Nat.le_of_ble_eq_true rfl) (fun r1 _ h1 => ?_)
  refine jc_if_eq 3 rfl rfl (fun h2 => ?_) (fun h2 => ?_)
  · refine j_run 6 1 rfl ?_
    refine j_ldcS 7 12 rfl rfl ?_
    refine j_cv 8 11 1 rfl rfl mwX11_is hp0.1 rfl rfl (eX11_is hA hp0 (by decide) _) rfl rfl (rok rfl rfl) (Nat.le_of_ble_eq_true rfl) (fun r3 _ h3 => ?_)
    refine jc_if_eq 9 rfl rfl (fun h4 => ?_) (fun h4 => ?_)
    · refine j_run 12 1 rfl ?_
      refine j_ldcS 13 18 rfl rfl ?_
      refine j_cv 14 11 1 rfl rfl mwX11_is hp0.1 rfl rfl (eX11_is hA hp0 (by decide) _) rfl rfl (rok rfl rfl) (Nat.le_of_ble_eq_true rfl) (fun r5 _ h5 => ?_)
      refine jc_if_eq 15 rfl rfl (fun h6 => ?_) (fun h6 => ?_)
      · refine j_run 18 1 rfl ?_
        exact j_iret 19 rfl rfl rfl
      · refine j_run 16 1 rfl ?_
        refine j_goto 17 rfl rfl ?_
        exact j_iret 19 rfl rfl rfl
    · refine j_run 10 1 rfl ?_
      exact j_iret 11 rfl rfl rfl
  · refine j_run 4 1 rfl ?_
    exact j_iret 5 rfl rfl rfl
abbrev jX11_weatherWord (X : Cx) (ads : List Nat) (sk : List Sk) (σ : Sg) (ps : PS) (res : Option (Int)) : Prop := J X mX11_weatherWord pX11_weatherWord tbX11 (rmD 9 0 0) 0 0 E0 (fun a => FM X mX11_weatherWord ads sk ((wP σ) a)) ads sk ps res
theorem eX11_weatherWord {X : Cx} {ads : List Nat} {sk : List Sk} (hA : ads.length = sk.length ∧ sk.length ≤ 1000) (hp0 : ocM sk) (σ : Sg) : CF X mX11_weatherWord ads sk [.inr (some 84)] σ (wP σ) (fX11_weatherWord σ) := by
  refine CF.of ⟨pX11_weatherWord_ok, tbX11_ok, hA.1, hA.2⟩ (plainFor_of_name plX11) (Nat.le_of_ble_eq_true rfl) ?_
  show jX11_weatherWord X ads sk σ (0, [some (.inr (some 84))], [], σ) (fX11_weatherWord σ)
  unfold fX11_weatherWord
  refine j_run 0 1 rfl ?_
  refine j_ldcS 1 19 rfl rfl ?_
  refine j_cv 2 11 1 rfl rfl mwX11_is hp0.1 rfl rfl (eX11_is hA hp0 (by decide) _) rfl rfl (rok rfl rfl) (Nat.le_of_ble_eq_true rfl) (fun r1 _ h1 => ?_)
  refine jc_if_eq 3 rfl rfl (fun h2 => ?_) (fun h2 => ?_)
  · refine j_run 6 1 rfl ?_
    refine j_ldcS 7 7 rfl rfl ?_
    refine j_cv 8 11 1 rfl rfl mwX11_is hp0.1 rfl rfl (eX11_is hA hp0 (by decide) _) rfl rfl (rok rfl rfl) (Nat.le_of_ble_eq_true rfl) (fun r3 _ h3 => ?_)
    refine jc_if_eq 9 rfl rfl (fun h4 => ?_) (fun h4 => ?_)
    · refine j_run 12 1 rfl ?_
      exact j_iret 13 rfl rfl rfl
    · refine j_run 10 1 rfl ?_
      refine j_goto 11 rfl rfl ?_
      exact j_iret 13 rfl rfl rfl
  · refine j_run 4 1 rfl ?_
    exact j_iret 5 rfl rfl rfl
abbrev jX11_wantWord (X : Cx) (ads : List Nat) (sk : List Sk) (σ : Sg) (ps : PS) (res : Option (Int)) : Prop := J X mX11_wantWord pX11_wantWord tbX11 (rmD 9 0 0) 0 0 E0 (fun a => FM X mX11_wantWord ads sk ((wP σ) a)) ads sk ps res
theorem eX11_wantWord {X : Cx} {ads : List Nat} {sk : List Sk} (hA : ads.length = sk.length ∧ sk.length ≤ 1000) (hp0 : ocM sk) (σ : Sg) : CF X mX11_wantWord ads sk [.inr (some 84)] σ (wP σ) (fX11_wantWord σ) := by
  refine CF.of ⟨pX11_wantWord_ok, tbX11_ok, hA.1, hA.2⟩ (plainFor_of_name plX11) (Nat.le_of_ble_eq_true rfl) ?_
  show jX11_wantWord X ads sk σ (0, [some (.inr (some 84))], [], σ) (fX11_wantWord σ)
  unfold fX11_wantWord
  refine j_run 0 1 rfl ?_
  refine j_ldcS 1 20 rfl rfl ?_
  refine j_cv 2 11 1 rfl rfl mwX11_is hp0.1 rfl rfl (eX11_is hA hp0 (by decide) _) rfl rfl (rok rfl rfl) (Nat.le_of_ble_eq_true rfl) (fun r1 _ h1 => ?_)
  refine jc_if_eq 3 rfl rfl (fun h2 => ?_) (fun h2 => ?_)
  · refine j_run 6 1 rfl ?_
    refine j_ldcS 7 17 rfl rfl ?_
    refine j_cv 8 11 1 rfl rfl mwX11_is hp0.1 rfl rfl (eX11_is hA hp0 (by decide) _) rfl rfl (rok rfl rfl) (Nat.le_of_ble_eq_true rfl) (fun r3 _ h3 => ?_)
    refine jc_if_eq 9 rfl rfl (fun h4 => ?_) (fun h4 => ?_)
    · refine j_run 12 1 rfl ?_
      refine j_ldcS 13 21 rfl rfl ?_
      refine j_cv 14 11 1 rfl rfl mwX11_is hp0.1 rfl rfl (eX11_is hA hp0 (by decide) _) rfl rfl (rok rfl rfl) (Nat.le_of_ble_eq_true rfl) (fun r5 _ h5 => ?_)
      refine jc_if_eq 15 rfl rfl (fun h6 => ?_) (fun h6 => ?_)
      · refine j_run 18 1 rfl ?_
        exact j_iret 19 rfl rfl rfl
      · refine j_run 16 1 rfl ?_
        refine j_goto 17 rfl rfl ?_
        exact j_iret 19 rfl rfl rfl
    · refine j_run 10 1 rfl ?_
      exact j_iret 11 rfl rfl rfl
  · refine j_run 4 1 rfl ?_
    exact j_iret 5 rfl rfl rfl
abbrev jX11_word (X : Cx) (ads : List Nat) (sk : List Sk) (σ : Sg) (ps : PS) (res : Option (Int)) : Prop := J X mX11_word pX11_word tbX11 (rmD 11 0 0) 0 0 E0 (fun a => FM X mX11_word ads sk ((wP σ) a)) ads sk ps res
theorem eX11_word {X : Cx} {ads : List Nat} {sk : List Sk} (hA : ads.length = sk.length ∧ sk.length ≤ 1000) (hp0 : ocM sk) (σ : Sg) : CF X mX11_word ads sk [.inr (some 84)] σ (wP σ) (fX11_word σ) := by
  refine CF.of ⟨pX11_word_ok, tbX11_ok, hA.1, hA.2⟩ (plainFor_of_name plX11) (Nat.le_of_ble_eq_true rfl) ?_
  show jX11_word X ads sk σ (0, [some (.inr (some 84))], [], σ) (fX11_word σ)
  unfold fX11_word
  refine j_run 0 1 rfl ?_
  refine j_gf 1 6 rfl rfl hp0.1 rfl ?_
  refine jc_ite (fun h1 => ?_) (fun h1 => ?_)
  · refine j_tsIn 2 rfl h1 ⟨by decide, by decide⟩ rfl rfl ?_
    refine j_run 3 1 rfl ?_
    refine j_cv 4 13 0 rfl rfl mwX11_lawWord hp0.1 rfl rfl (eX11_lawWord hA hp0 _) rfl rfl (rok rfl rfl) (Nat.le_of_ble_eq_true rfl) (fun r2 _ h2 => ?_)
    exact j_iret 5 rfl rfl rfl
  refine jc_ite (fun h3 => ?_) (fun h3 => ?_)
  · refine j_tsIn 2 rfl h3 ⟨by decide, by decide⟩ rfl rfl ?_
    refine j_run 6 1 rfl ?_
    refine j_cv 7 14 0 rfl rfl mwX11_vowWord hp0.1 rfl rfl (eX11_vowWord hA hp0 _) rfl rfl (rok rfl rfl) (Nat.le_of_ble_eq_true rfl) (fun r4 _ h4 => ?_)
    exact j_iret 8 rfl rfl rfl
  refine jc_ite (fun h5 => ?_) (fun h5 => ?_)
  · refine j_tsIn 2 rfl h5 ⟨by decide, by decide⟩ rfl rfl ?_
    refine j_run 9 1 rfl ?_
    refine j_cv 10 15 0 rfl rfl mwX11_weatherWord hp0.1 rfl rfl (eX11_weatherWord hA hp0 _) rfl rfl (rok rfl rfl) (Nat.le_of_ble_eq_true rfl) (fun r6 _ h6 => ?_)
    exact j_iret 11 rfl rfl rfl
  refine j_tsOut 2 rfl (by omega) rfl ?_
  refine j_run 12 1 rfl ?_
  refine j_cv 13 16 0 rfl rfl mwX11_wantWord hp0.1 rfl rfl (eX11_wantWord hA hp0 _) rfl rfl (rok rfl rfl) (Nat.le_of_ble_eq_true rfl) (fun r7 _ h7 => ?_)
  exact j_iret 14 rfl rfl rfl
abbrev jX11_next0 (X : Cx) (ads : List Nat) (sk : List Sk) (ps : PS) (res : Option (Sg)) : Prop := J X mX11_next0 pX11_next0 tbX11 (rmD 12 0 0) 0 0 E0 (fun a => FM X mX11_next0 ads sk (wV a)) ads sk ps res
theorem JX11_next0_L0 {X : Cx} {ads : List Nat} {sk : List Sk} (hA : ads.length = sk.length ∧ sk.length ≤ 1000) (hp0 : ocM sk) (k39 : Sg → Option (Sg)) (hk39 : ∀  (σ : Sg), jX11_next0 X ads sk (39, [some (.inr (some 84)), none, none], [], σ) (k39 σ)) : ∀ (n : Nat) (σ : Sg), jX11_next0 X ads sk (0, [some (.inr (some 84)), none, none], [], σ) (fX11_next0_L0 k39 n σ) := by
  intro n
  induction n with
  | zero => intro σ; exact j_none
  | succ n ih =>
    intro σ
    rw [fX11_next0_L0]
    refine j_run 0 2 rfl ?_
    refine j_gf 2 4 rfl rfl hp0.1 rfl ?_
    refine j_cv 3 17 1 rfl rfl mwX11_see hp0.1 rfl rfl (eX11_see hA hp0 (rd σ 84 17) _) rfl rfl (rok rfl rfl) (Nat.le_of_ble_eq_true rfl) (fun r1 _ h1 => ?_)
    refine j_run 4 1 rfl ?_
    refine jc_icmp_eq 5 rfl rfl (fun h2 => ?_) (fun h2 => ?_)
    · refine j_run 12 2 rfl ?_
      refine j_gf 14 4 rfl rfl hp0.1 rfl ?_
      refine j_run 15 2 rfl ?_
      refine j_pf 17 4 rfl rfl hp0.1 rfl rfl (Or.inl rfl) ?_
      refine j_goto 18 rfl rfl ?_
      exact j_weak (leP_s (leP_n (leP_n (leP_z)))) (ih _)
    · refine j_run 6 2 rfl ?_
      refine j_gf 8 4 rfl rfl hp0.1 rfl ?_
      refine j_cv 9 17 1 rfl rfl mwX11_see hp0.1 rfl rfl (eX11_see hA hp0 (rd σ 84 17) _) rfl rfl (rok rfl rfl) (Nat.le_of_ble_eq_true rfl) (fun r3 _ h3 => ?_)
      refine j_run 10 1 rfl ?_
      refine jc_icmp_ne 11 rfl rfl (fun h4 => ?_) (fun h4 => ?_)
      · refine j_run 12 2 rfl ?_
        refine j_gf 14 4 rfl rfl hp0.1 rfl ?_
        refine j_run 15 2 rfl ?_
        refine j_pf 17 4 rfl rfl hp0.1 rfl rfl (Or.inl rfl) ?_
        refine j_goto 18 rfl rfl ?_
        exact j_weak (leP_s (leP_n (leP_n (leP_z)))) (ih _)
      · exact j_weak (leP_s (leP_n (leP_n (leP_z)))) (hk39 _)
theorem JX11_next0_J289 {X : Cx} {ads : List Nat} {sk : List Sk} (hA : ads.length = sk.length ∧ sk.length ≤ 1000) (hp0 : ocM sk) (x1 : Int) (y0 : Int) (σ : Sg) : jX11_next0 X ads sk (289, [some (.inr (some 84)), some (.inl x1), none], [.inl y0], σ) (fX11_next0_J289 x1 y0 σ) := by
  unfold fX11_next0_J289
  refine j_run 147 3 rfl ?_
  refine jc_if_eq 150 rfl rfl (fun h12 => ?_) (fun h12 => ?_)
  · refine j_run 155 1 rfl ?_
    refine j_pf 156 7 rfl rfl hp0.1 rfl rfl (Or.inl rfl) ?_
    exact j_vret 157 rfl rfl rfl
  · refine j_run 151 3 rfl ?_
    refine j_goto 154 rfl rfl ?_
    refine j_pf 156 7 rfl rfl hp0.1 rfl rfl (Or.inl rfl) ?_
    exact j_vret 157 rfl rfl rfl
theorem JX11_next0_J284 {X : Cx} {ads : List Nat} {sk : List Sk} (hA : ads.length = sk.length ∧ sk.length ≤ 1000) (hp0 : ocM sk) (x1 : Int) (k289 : Int → Sg → Option (Sg)) (hk289 : ∀ (y0 : Int) (σ : Sg), jX11_next0 X ads sk (289, [some (.inr (some 84)), some (.inl x1), none], [.inl y0], σ) (k289 y0 σ)) (σ : Sg) : jX11_next0 X ads sk (284, [some (.inr (some 84)), some (.inl x1), none], [], σ) (fX11_next0_J284 k289 x1 σ) := by
  unfold fX11_next0_J284
  refine j_run 144 1 rfl ?_
  refine j_goto 145 rfl rfl ?_
  exact j_weak (leP_s (leP_s (leP_n (leP_z)))) (hk289 1 _)
theorem JX11_next0_L126 {X : Cx} {ads : List Nat} {sk : List Sk} (hA : ads.length = sk.length ∧ sk.length ≤ 1000) (hp0 : ocM sk) (k189 : Sg → Option (Sg)) (hk189 : ∀  (σ : Sg), jX11_next0 X ads sk (189, [some (.inr (some 84)), none, none], [], σ) (k189 σ)) : ∀ (n : Nat) (σ : Sg), jX11_next0 X ads sk (126, [some (.inr (some 84)), none, none], [], σ) (fX11_next0_L126 k189 n σ) := by
  intro n
  induction n with
  | zero => intro σ; exact j_none
  | succ n ih =>
    intro σ
    rw [fX11_next0_L126]
    refine j_run 62 2 rfl ?_
    refine j_gf 64 4 rfl rfl hp0.1 rfl ?_
    refine j_cv 65 17 1 rfl rfl mwX11_see hp0.1 rfl rfl (eX11_see hA hp0 (rd σ 84 17) _) rfl rfl (rok rfl rfl) (Nat.le_of_ble_eq_true rfl) (fun r23 _ h23 => ?_)
    refine j_csT 66 19 1 rfl rfl mwX11_isDigit (eX11_isDigit hA r23 _) rfl rfl (rok rfl rfl) (Nat.le_of_ble_eq_true rfl) (fun h24 => ?_)
    refine jc_if_eq 67 rfl rfl (fun h25 => ?_) (fun h25 => ?_)
    · exact j_weak (leP_s (leP_n (leP_n (leP_z)))) (hk189 _)
    · refine j_run 68 1 rfl ?_
      refine j_gf 69 4 rfl rfl hp0.1 rfl ?_
      refine j_run 70 1 rfl ?_
      refine j_gf 71 5 rfl rfl hp0.1 rfl ?_
      refine j_run 72 2 rfl ?_
      refine jc_icmp_ge 74 rfl rfl (fun h26 => ?_) (fun h26 => ?_)
      · refine j_run 75 3 rfl ?_
        refine j_gf 78 8 rfl rfl hp0.1 rfl ?_
        refine j_run 79 3 rfl ?_
        refine j_gf 82 4 rfl rfl hp0.1 rfl ?_
        refine j_cv 83 17 1 rfl rfl mwX11_see hp0.1 rfl rfl (eX11_see hA hp0 (rd σ 84 17) _) rfl rfl (rok rfl rfl) (Nat.le_of_ble_eq_true rfl) (fun r27 _ h27 => ?_)
        refine j_run 84 3 rfl ?_
        refine j_pf 87 8 rfl rfl hp0.1 rfl rfl (Or.inl rfl) ?_
        refine j_run 88 2 rfl ?_
        refine j_gf 90 4 rfl rfl hp0.1 rfl ?_
        refine j_run 91 2 rfl ?_
        refine j_pf 93 4 rfl rfl hp0.1 rfl rfl (Or.inl rfl) ?_
        refine j_goto 94 rfl rfl ?_
        exact j_weak (leP_s (leP_n (leP_n (leP_z)))) (ih _)
      · refine j_run 88 2 rfl ?_
        refine j_gf 90 4 rfl rfl hp0.1 rfl ?_
        refine j_run 91 2 rfl ?_
        refine j_pf 93 4 rfl rfl hp0.1 rfl rfl (Or.inl rfl) ?_
        refine j_goto 94 rfl rfl ?_
        exact j_weak (leP_s (leP_n (leP_n (leP_z)))) (ih _)
theorem JX11_next0_L76 {X : Cx} {ads : List Nat} {sk : List Sk} (hA : ads.length = sk.length ∧ sk.length ≤ 1000) (hp0 : ocM sk) (k103 : Sg → Option (Sg)) (hk103 : ∀  (σ : Sg), jX11_next0 X ads sk (103, [some (.inr (some 84)), none, none], [], σ) (k103 σ)) : ∀ (n : Nat) (σ : Sg), jX11_next0 X ads sk (76, [some (.inr (some 84)), none, none], [], σ) (fX11_next0_L76 k103 n σ) := by
  intro n
  induction n with
  | zero => intro σ; exact j_none
  | succ n ih =>
    intro σ
    rw [fX11_next0_L76]
    refine j_run 38 2 rfl ?_
    refine j_gf 40 4 rfl rfl hp0.1 rfl ?_
    refine j_cv 41 17 1 rfl rfl mwX11_see hp0.1 rfl rfl (eX11_see hA hp0 (rd σ 84 17) _) rfl rfl (rok rfl rfl) (Nat.le_of_ble_eq_true rfl) (fun r30 _ h30 => ?_)
    refine j_csT 42 18 1 rfl rfl mwX11_isLetter (eX11_isLetter hA r30 _) rfl rfl (rok rfl rfl) (Nat.le_of_ble_eq_true rfl) (fun h31 => ?_)
    refine jc_if_eq 43 rfl rfl (fun h32 => ?_) (fun h32 => ?_)
    · exact j_weak (leP_s (leP_n (leP_n (leP_z)))) (hk103 _)
    · refine j_run 44 2 rfl ?_
      refine j_gf 46 4 rfl rfl hp0.1 rfl ?_
      refine j_run 47 2 rfl ?_
      refine j_pf 49 4 rfl rfl hp0.1 rfl rfl (Or.inl rfl) ?_
      refine j_goto 50 rfl rfl ?_
      exact j_weak (leP_s (leP_n (leP_n (leP_z)))) (ih _)
theorem eX11_next0 {X : Cx} {ads : List Nat} {sk : List Sk} (hA : ads.length = sk.length ∧ sk.length ≤ 1000) (hp0 : ocM sk) (σ : Sg) : CF X mX11_next0 ads sk [.inr (some 84)] σ wV (fX11_next0 σ) := by
  refine CF.of ⟨pX11_next0_ok, tbX11_ok, hA.1, hA.2⟩ (plainFor_of_name plX11) (Nat.le_of_ble_eq_true rfl) ?_
  show jX11_next0 X ads sk (0, [some (.inr (some 84)), none, none], [], σ) (fX11_next0 σ)
  unfold fX11_next0
  refine j_weak (leP_s (leP_n (leP_n (leP_z)))) (JX11_next0_L0 hA hp0 _ (fun s5 => ?_) FU _)
  refine j_run 19 2 rfl ?_
  refine j_gf 21 4 rfl rfl hp0.1 rfl ?_
  refine j_pf 22 5 rfl rfl hp0.1 rfl rfl (Or.inl rfl) ?_
  refine j_run 23 2 rfl ?_
  refine j_gf 25 4 rfl rfl hp0.1 rfl ?_
  refine j_cv 26 17 1 rfl rfl mwX11_see hp0.1 rfl rfl (eX11_see hA hp0 (rd (wr s5 84 19 (rd s5 84 17)) 84 17) _) rfl rfl (rok rfl rfl) (Nat.le_of_ble_eq_true rfl) (fun r6 _ h6 => ?_)
  refine j_run 27 3 rfl ?_
  refine jc_icmp_ne 30 rfl rfl (fun h7 => ?_) (fun h7 => ?_)
  · refine j_run 31 2 rfl ?_
    refine j_pf 33 7 rfl rfl hp0.1 rfl rfl (Or.inl rfl) ?_
    refine j_goto 34 rfl rfl ?_
    exact j_vret 157 rfl rfl rfl
  · refine j_run 35 1 rfl ?_
    refine j_csT 36 18 1 rfl rfl mwX11_isLetter (eX11_isLetter hA r6 _) rfl rfl (rok rfl rfl) (Nat.le_of_ble_eq_true rfl) (fun h8 => ?_)
    refine jc_if_eq 37 rfl rfl (fun h9 => ?_) (fun h9 => ?_)
    · refine j_run 56 1 rfl ?_
      refine j_csT 57 19 1 rfl rfl mwX11_isDigit (eX11_isDigit hA r6 _) rfl rfl (rok rfl rfl) (Nat.le_of_ble_eq_true rfl) (fun h10 => ?_)
      refine jc_if_eq 58 rfl rfl (fun h11 => ?_) (fun h11 => ?_)
      · refine j_run 108 2 rfl ?_
        refine j_gf 110 4 rfl rfl hp0.1 rfl ?_
        refine j_run 111 2 rfl ?_
        refine j_pf 113 4 rfl rfl hp0.1 rfl rfl (Or.inl rfl) ?_
        refine j_run 114 2 rfl ?_
        refine jc_icmp_eq 116 rfl rfl (fun h13 => ?_) (fun h13 => ?_)
        · exact j_weak (leP_s (leP_s (leP_n (leP_z)))) (JX11_next0_J284 hA hp0 r6 _ (JX11_next0_J289 hA hp0 r6) _)
        · refine j_run 117 2 rfl ?_
          refine jc_icmp_eq 119 rfl rfl (fun h14 => ?_) (fun h14 => ?_)
          · exact j_weak (leP_s (leP_s (leP_n (leP_z)))) (JX11_next0_J284 hA hp0 r6 _ (JX11_next0_J289 hA hp0 r6) _)
          · refine j_run 120 2 rfl ?_
            refine jc_icmp_eq 122 rfl rfl (fun h15 => ?_) (fun h15 => ?_)
            · exact j_weak (leP_s (leP_s (leP_n (leP_z)))) (JX11_next0_J284 hA hp0 r6 _ (JX11_next0_J289 hA hp0 r6) _)
            · refine j_run 123 2 rfl ?_
              refine jc_icmp_eq 125 rfl rfl (fun h16 => ?_) (fun h16 => ?_)
              · exact j_weak (leP_s (leP_s (leP_n (leP_z)))) (JX11_next0_J284 hA hp0 r6 _ (JX11_next0_J289 hA hp0 r6) _)
              · refine j_run 126 2 rfl ?_
                refine jc_icmp_eq 128 rfl rfl (fun h17 => ?_) (fun h17 => ?_)
                · exact j_weak (leP_s (leP_s (leP_n (leP_z)))) (JX11_next0_J284 hA hp0 r6 _ (JX11_next0_J289 hA hp0 r6) _)
                · refine j_run 129 2 rfl ?_
                  refine jc_icmp_eq 131 rfl rfl (fun h18 => ?_) (fun h18 => ?_)
                  · exact j_weak (leP_s (leP_s (leP_n (leP_z)))) (JX11_next0_J284 hA hp0 r6 _ (JX11_next0_J289 hA hp0 r6) _)
                  · refine j_run 132 2 rfl ?_
                    refine jc_icmp_eq 134 rfl rfl (fun h19 => ?_) (fun h19 => ?_)
                    · exact j_weak (leP_s (leP_s (leP_n (leP_z)))) (JX11_next0_J284 hA hp0 r6 _ (JX11_next0_J289 hA hp0 r6) _)
                    · refine j_run 135 2 rfl ?_
                      refine jc_icmp_eq 137 rfl rfl (fun h20 => ?_) (fun h20 => ?_)
                      · exact j_weak (leP_s (leP_s (leP_n (leP_z)))) (JX11_next0_J284 hA hp0 r6 _ (JX11_next0_J289 hA hp0 r6) _)
                      · refine j_run 138 2 rfl ?_
                        refine jc_icmp_eq 140 rfl rfl (fun h21 => ?_) (fun h21 => ?_)
                        · exact j_weak (leP_s (leP_s (leP_n (leP_z)))) (JX11_next0_J284 hA hp0 r6 _ (JX11_next0_J289 hA hp0 r6) _)
                        · refine j_run 141 2 rfl ?_
                          refine jc_icmp_ne 143 rfl rfl (fun h22 => ?_) (fun h22 => ?_)
                          · exact j_weak (leP_s (leP_s (leP_n (leP_z)))) (JX11_next0_J284 hA hp0 r6 _ (JX11_next0_J289 hA hp0 r6) _)
                          · refine j_run 146 1 rfl ?_
                            exact j_weak (leP_s (leP_s (leP_n (leP_z)))) (JX11_next0_J289 hA hp0 r6 0 _)
      · refine j_run 59 2 rfl ?_
        refine j_pf 61 8 rfl rfl hp0.1 rfl rfl (Or.inl rfl) ?_
        refine j_weak (leP_s (leP_n (leP_n (leP_z)))) (JX11_next0_L126 hA hp0 _ (fun s28 => ?_) FU _)
        refine j_run 95 2 rfl ?_
        refine j_gf 97 4 rfl rfl hp0.1 rfl ?_
        refine j_run 98 1 rfl ?_
        refine j_gf 99 5 rfl rfl hp0.1 rfl ?_
        refine j_run 100 2 rfl ?_
        refine jc_icmp_ge 102 rfl rfl (fun h29 => ?_) (fun h29 => ?_)
        · refine j_run 103 1 rfl ?_
          refine j_goto 104 rfl rfl ?_
          refine j_pf 106 7 rfl rfl hp0.1 rfl rfl (Or.inl rfl) ?_
          refine j_goto 107 rfl rfl ?_
          exact j_vret 157 rfl rfl rfl
        · refine j_run 105 1 rfl ?_
          refine j_pf 106 7 rfl rfl hp0.1 rfl rfl (Or.inl rfl) ?_
          refine j_goto 107 rfl rfl ?_
          exact j_vret 157 rfl rfl rfl
    · refine j_weak (leP_s (leP_n (leP_n (leP_z)))) (JX11_next0_L76 hA hp0 _ (fun s33 => ?_) FU _)
      refine j_run 51 2 rfl ?_
      refine j_cv 53 20 0 rfl rfl mwX11_word hp0.1 rfl rfl (eX11_word hA hp0 _) rfl rfl (rok rfl rfl) (Nat.le_of_ble_eq_true rfl) (fun r34 _ h34 => ?_)
      refine j_pf 54 7 rfl rfl hp0.1 rfl rfl (Or.inl rfl) ?_
      refine j_goto 55 rfl rfl ?_
      exact j_vret 157 rfl rfl rfl
abbrev jX11_bad (X : Cx) (ads : List Nat) (sk : List Sk) (ps : PS) (res : Option (Int × Sg)) : Prop := J X mX11_bad pX11_bad tbX11 (rmD 0 0 0) 0 0 E0 (fun a => FM X mX11_bad ads sk (wE a)) ads sk ps res
theorem eX11_bad {X : Cx} {ads : List Nat} {sk : List Sk} (hA : ads.length = sk.length ∧ sk.length ≤ 1000) (hp0 : ocM sk) (x1 : Int) (σ : Sg) : CF X mX11_bad ads sk [.inr (some 84), .inl x1] σ wE (fX11_bad x1 σ) := by
  refine CF.of ⟨pX11_bad_ok, tbX11_ok, hA.1, hA.2⟩ (plainFor_of_name plX11) (Nat.le_of_ble_eq_true rfl) ?_
  show jX11_bad X ads sk (0, [some (.inr (some 84)), some (.inl x1)], [], σ) (fX11_bad x1 σ)
  unfold fX11_bad
  refine j_run 0 2 rfl ?_
  refine j_pf 2 9 rfl rfl hp0.1 rfl rfl (Or.inl rfl) ?_
  refine j_run 3 2 rfl ?_
  refine j_gf 5 5 rfl rfl hp0.1 rfl ?_
  refine j_pf 6 10 rfl rfl hp0.1 rfl rfl (Or.inl rfl) ?_
  refine j_run 7 1 rfl ?_
  exact j_zret 8 rfl rfl (by decide) rfl
abbrev jX11_need (X : Cx) (ads : List Nat) (sk : List Sk) (ps : PS) (res : Option (Int × Sg)) : Prop := J X mX11_need pX11_need tbX11 (rmD 13 0 0) 0 0 E0 (fun a => FM X mX11_need ads sk (wE a)) ads sk ps res
theorem eX11_need {X : Cx} {ads : List Nat} {sk : List Sk} (hA : ads.length = sk.length ∧ sk.length ≤ 1000) (hp0 : ocM sk) (x1 : Int) (σ : Sg) : CF X mX11_need ads sk [.inr (some 84), .inl x1] σ wE (fX11_need x1 σ) := by
  refine CF.of ⟨pX11_need_ok, tbX11_ok, hA.1, hA.2⟩ (plainFor_of_name plX11) (Nat.le_of_ble_eq_true rfl) ?_
  show jX11_need X ads sk (0, [some (.inr (some 84)), some (.inl x1)], [], σ) (fX11_need x1 σ)
  unfold fX11_need
  refine j_run 0 1 rfl ?_
  refine j_gf 1 7 rfl rfl hp0.1 rfl ?_
  refine j_run 2 1 rfl ?_
  refine jc_icmp_eq 3 rfl rfl (fun h1 => ?_) (fun h1 => ?_)
  · refine j_run 8 1 rfl ?_
    refine j_cv 9 21 0 rfl rfl mwX11_next0 hp0.1 rfl rfl (eX11_next0 hA hp0 _) rfl rfl (rok rfl rfl) (Nat.le_of_ble_eq_true rfl) (fun s2 _ h2 => ?_)
    refine j_run 10 1 rfl ?_
    exact j_zret 11 rfl rfl (by decide) rfl
  · refine j_run 4 2 rfl ?_
    refine j_cv 6 22 1 rfl rfl mwX11_bad hp0.1 rfl rfl (eX11_bad hA hp0 1 _) rfl rfl (rok rfl rfl) (Nat.le_of_ble_eq_true rfl) (fun q3 _ h3 => ?_)
    exact j_zret 7 rfl rfl (nrR_b h3 rfl) rfl
abbrev jX11_lay (X : Cx) (ads : List Nat) (sk : List Sk) (ps : PS) (res : Option (Sg)) : Prop := J X mX11_lay pX11_lay tbX11 (rmD 0 0 0) 0 0 E0 (fun a => FM X mX11_lay ads sk (wV a)) ads sk ps res
theorem eX11_lay {X : Cx} {ads : List Nat} {sk : List Sk} (hA : ads.length = sk.length ∧ sk.length ≤ 1000) (hp0 : ocM sk) (x1 : Int) (x2 : Int) (σ : Sg) : CF X mX11_lay ads sk [.inr (some 84), .inl x1, .inl x2] σ wV (fX11_lay x1 x2 σ) := by
  refine CF.of ⟨pX11_lay_ok, tbX11_ok, hA.1, hA.2⟩ (plainFor_of_name plX11) (Nat.le_of_ble_eq_true rfl) ?_
  show jX11_lay X ads sk (0, [some (.inr (some 84)), some (.inl x1), some (.inl x2)], [], σ) (fX11_lay x1 x2 σ)
  unfold fX11_lay
  refine j_run 0 1 rfl ?_
  refine j_gr 1 11 rfl rfl hp0.1 rfl ?_
  refine j_run 2 2 rfl ?_
  refine j_gf 4 12 rfl rfl hp0.1 rfl ?_
  refine j_run 5 2 rfl ?_
  refine j_ast 7 rfl hp0.2.2.2.2.2.2.1 rfl ?_
  refine j_run 8 1 rfl ?_
  refine j_gr 9 11 rfl rfl hp0.1 rfl ?_
  refine j_run 10 2 rfl ?_
  refine j_gf 12 12 rfl rfl hp0.1 rfl ?_
  refine j_run 13 4 rfl ?_
  refine j_ast 17 rfl hp0.2.2.2.2.2.2.1 rfl ?_
  refine j_run 18 2 rfl ?_
  refine j_gf 20 12 rfl rfl hp0.1 rfl ?_
  refine j_run 21 2 rfl ?_
  refine j_pf 23 12 rfl rfl hp0.1 rfl rfl (Or.inl rfl) ?_
  exact j_vret 24 rfl rfl rfl
abbrev jX11_opens (X : Cx) (ads : List Nat) (sk : List Sk) (ps : PS) (res : Option (Int × Sg)) : Prop := J X mX11_opens pX11_opens tbX11 (rmD 13 0 0) 0 0 E0 (fun a => FM X mX11_opens ads sk (wE a)) ads sk ps res
theorem eX11_opens {X : Cx} {ads : List Nat} {sk : List Sk} (hA : ads.length = sk.length ∧ sk.length ≤ 1000) (hp0 : ocM sk) (σ : Sg) : CF X mX11_opens ads sk [.inr (some 84)] σ wE (fX11_opens σ) := by
  refine CF.of ⟨pX11_opens_ok, tbX11_ok, hA.1, hA.2⟩ (plainFor_of_name plX11) (Nat.le_of_ble_eq_true rfl) ?_
  show jX11_opens X ads sk (0, [some (.inr (some 84))], [], σ) (fX11_opens σ)
  unfold fX11_opens
  refine j_run 0 1 rfl ?_
  refine j_gf 1 13 rfl rfl hp0.1 rfl ?_
  refine j_run 2 1 rfl ?_
  refine jc_icmp_ne 3 rfl rfl (fun h1 => ?_) (fun h1 => ?_)
  · refine j_run 4 2 rfl ?_
    refine j_cv 6 22 1 rfl rfl mwX11_bad hp0.1 rfl rfl (eX11_bad hA hp0 3 _) rfl rfl (rok rfl rfl) (Nat.le_of_ble_eq_true rfl) (fun q2 _ h2 => ?_)
    exact j_zret 7 rfl rfl (nrR_b h2 rfl) rfl
  · refine j_run 8 2 rfl ?_
    refine j_gf 10 13 rfl rfl hp0.1 rfl ?_
    refine j_run 11 2 rfl ?_
    refine j_pf 13 13 rfl rfl hp0.1 rfl rfl (Or.inl rfl) ?_
    refine j_run 14 1 rfl ?_
    refine j_cv 15 21 0 rfl rfl mwX11_next0 hp0.1 rfl rfl (eX11_next0 hA hp0 _) rfl rfl (rok rfl rfl) (Nat.le_of_ble_eq_true rfl) (fun s3 _ h3 => ?_)
    refine j_run 16 1 rfl ?_
    exact j_zret 17 rfl rfl (by decide) rfl
abbrev jX11_unit (X : Cx) (ads : List Nat) (sk : List Sk) (ps : PS) (res : Option (Int × Sg)) : Prop := J X mX11_unit pX11_unit tbX11 (rmD 13 0 0) 0 0 E0 (fun a => FM X mX11_unit ads sk (wE a)) ads sk ps res
theorem JX11_unit_J46 {X : Cx} {ads : List Nat} {sk : List Sk} (hA : ads.length = sk.length ∧ sk.length ≤ 1000) (hp0 : ocM sk) (y0 : Int) (σ : Sg) : jX11_unit X ads sk (46, [some (.inr (some 84)), none], [.inl y0, .inr (some 84)], σ) (fX11_unit_J46 y0 σ) := by
  unfold fX11_unit_J46
  refine j_run 25 1 rfl ?_
  refine j_gf 26 8 rfl rfl hp0.1 rfl ?_
  refine j_cv 27 23 2 rfl rfl mwX11_lay hp0.1 rfl rfl (eX11_lay hA hp0 y0 (rd σ 84 20) _) rfl rfl (rok rfl rfl) (Nat.le_of_ble_eq_true rfl) (fun s2 _ h2 => ?_)
  refine j_run 28 1 rfl ?_
  refine j_cv 29 21 0 rfl rfl mwX11_next0 hp0.1 rfl rfl (eX11_next0 hA hp0 _) rfl rfl (rok rfl rfl) (Nat.le_of_ble_eq_true rfl) (fun s3 _ h3 => ?_)
  refine j_run 30 1 rfl ?_
  exact j_zret 31 rfl rfl (by decide) rfl
theorem JX11_unit_J30 {X : Cx} {ads : List Nat} {sk : List Sk} (hA : ads.length = sk.length ∧ sk.length ≤ 1000) (hp0 : ocM sk) (x1 : Int) (σ : Sg) : jX11_unit X ads sk (30, [some (.inr (some 84)), some (.inl x1)], [], σ) (fX11_unit_J30 x1 σ) := by
  unfold fX11_unit_J30
  refine j_run 16 2 rfl ?_
  refine jc_if_eq 18 rfl rfl (fun h4 => ?_) (fun h4 => ?_)
  · refine j_run 24 1 rfl ?_
    exact j_weak (leP_s (leP_n (leP_z))) (JX11_unit_J46 hA hp0 0 _)
  · refine j_run 19 1 rfl ?_
    refine j_gf 20 7 rfl rfl hp0.1 rfl ?_
    refine j_run 21 2 rfl ?_
    refine j_goto 23 rfl rfl ?_
    exact j_weak (leP_s (leP_n (leP_z))) (JX11_unit_J46 hA hp0 (bw ((rd σ 84 18) - 40)) _)
theorem eX11_unit {X : Cx} {ads : List Nat} {sk : List Sk} (hA : ads.length = sk.length ∧ sk.length ≤ 1000) (hp0 : ocM sk) (σ : Sg) : CF X mX11_unit ads sk [.inr (some 84)] σ wE (fX11_unit σ) := by
  refine CF.of ⟨pX11_unit_ok, tbX11_ok, hA.1, hA.2⟩ (plainFor_of_name plX11) (Nat.le_of_ble_eq_true rfl) ?_
  show jX11_unit X ads sk (0, [some (.inr (some 84)), none], [], σ) (fX11_unit σ)
  unfold fX11_unit
  refine j_run 0 1 rfl ?_
  refine j_gf 1 7 rfl rfl hp0.1 rfl ?_
  refine j_run 2 2 rfl ?_
  refine j_csT 4 0 3 rfl rfl mwX11_isIn (eX11_isIn hA (rd σ 84 18) 41 50 _) rfl rfl (rok rfl rfl) (Nat.le_of_ble_eq_true rfl) (fun h1 => ?_)
  refine j_run 5 2 rfl ?_
  refine j_gf 7 7 rfl rfl hp0.1 rfl ?_
  refine j_run 8 1 rfl ?_
  refine jc_icmp_eq 9 rfl rfl (fun h5 => ?_) (fun h5 => ?_)
  · exact j_weak (leP_s (leP_s (leP_z))) (JX11_unit_J30 hA hp0 (fX11_isIn (rd σ 84 18) 41 50) _)
  · refine j_run 10 1 rfl ?_
    refine jc_if_ne 11 rfl rfl (fun h6 => ?_) (fun h6 => ?_)
    · refine j_run 12 2 rfl ?_
      refine j_cv 14 22 1 rfl rfl mwX11_bad hp0.1 rfl rfl (eX11_bad hA hp0 1 _) rfl rfl (rok rfl rfl) (Nat.le_of_ble_eq_true rfl) (fun q7 _ h7 => ?_)
      exact j_zret 15 rfl rfl (nrR_b h7 rfl) rfl
    · exact j_weak (leP_s (leP_s (leP_z))) (JX11_unit_J30 hA hp0 (fX11_isIn (rd σ 84 18) 41 50) _)
abbrev jX11_product (X : Cx) (ads : List Nat) (sk : List Sk) (ps : PS) (res : Option (Int × Sg)) : Prop := J X mX11_product pX11_product tbX11 (rmD 14 0 0) 0 0 E0 (fun a => FM X mX11_product ads sk (wE a)) ads sk ps res
theorem JX11_product_J44 {X : Cx} {ads : List Nat} {sk : List Sk} (hA : ads.length = sk.length ∧ sk.length ≤ 1000) (hp0 : ocM sk) (k9 : Sg → Option (Int × Sg)) (hk9 : ∀  (σ : Sg), jX11_product X ads sk (9, [some (.inr (some 84)), none, none], [], σ) (k9 σ)) (k66 : Sg → Option (Int × Sg)) (hk66 : ∀  (σ : Sg), jX11_product X ads sk (66, [some (.inr (some 84)), none, none], [], σ) (k66 σ)) (k76 : Sg → Option (Int × Sg)) (hk76 : ∀  (σ : Sg), jX11_product X ads sk (76, [some (.inr (some 84)), none, none], [], σ) (k76 σ)) (y0 : Int) (σ : Sg) : jX11_product X ads sk (44, [some (.inr (some 84)), none, none], [.inl y0], σ) (fX11_product_J44 k9 k66 k76 y0 σ) := by
  unfold fX11_product_J44
  refine j_run 20 2 rfl ?_
  refine j_cv 22 21 0 rfl rfl mwX11_next0 hp0.1 rfl rfl (eX11_next0 hA hp0 _) rfl rfl (rok rfl rfl) (Nat.le_of_ble_eq_true rfl) (fun s3 _ h3 => ?_)
  refine j_run 23 1 rfl ?_
  refine jc_if_eq 24 rfl rfl (fun h4 => ?_) (fun h4 => ?_)
  · refine j_run 49 1 rfl ?_
    refine j_cv 50 24 0 rfl rfl mwX11_unit hp0.1 rfl rfl (eX11_unit hA hp0 _) rfl rfl (rok rfl rfl) (Nat.le_of_ble_eq_true rfl) (fun q5 _ h5 => ?_)
    refine jc_if_ne 51 rfl rfl (fun h6 => ?_) (fun h6 => ?_)
    · refine j_run 52 1 rfl ?_
      exact j_zret 53 rfl rfl (by decide) rfl
    · refine j_run 54 3 rfl ?_
      refine j_cv 57 23 2 rfl rfl mwX11_lay hp0.1 rfl rfl (eX11_lay hA hp0 25 0 _) rfl rfl (rok rfl rfl) (Nat.le_of_ble_eq_true rfl) (fun s7 _ h7 => ?_)
      refine j_goto 58 rfl rfl ?_
      exact j_weak (leP_s (leP_n (leP_n (leP_z)))) (hk9 _)
  · refine j_run 25 1 rfl ?_
    refine j_gf 26 8 rfl rfl hp0.1 rfl ?_
    refine j_run 27 2 rfl ?_
    refine j_gf 29 7 rfl rfl hp0.1 rfl ?_
    refine j_run 30 1 rfl ?_
    refine jc_icmp_eq 31 rfl rfl (fun h8 => ?_) (fun h8 => ?_)
    · refine j_run 36 1 rfl ?_
      refine jc_if_ne 37 rfl rfl (fun h9 => ?_) (fun h9 => ?_)
      · exact j_weak (leP_s (leP_n (leP_n (leP_z)))) (hk76 _)
      · refine j_run 42 1 rfl ?_
        refine j_cv 43 21 0 rfl rfl mwX11_next0 hp0.1 rfl rfl (eX11_next0 hA hp0 _) rfl rfl (rok rfl rfl) (Nat.le_of_ble_eq_true rfl) (fun s10 _ h10 => ?_)
        refine j_run 44 3 rfl ?_
        refine j_cv 47 23 2 rfl rfl mwX11_lay hp0.1 rfl rfl (eX11_lay hA hp0 26 (rd s3 84 20) _) rfl rfl (rok rfl rfl) (Nat.le_of_ble_eq_true rfl) (fun s11 _ h11 => ?_)
        refine j_goto 48 rfl rfl ?_
        refine j_goto 58 rfl rfl ?_
        exact j_weak (leP_s (leP_n (leP_n (leP_z)))) (hk9 _)
    · exact j_weak (leP_s (leP_n (leP_n (leP_z)))) (hk66 _)
theorem JX11_product_J29 {X : Cx} {ads : List Nat} {sk : List Sk} (hA : ads.length = sk.length ∧ sk.length ≤ 1000) (hp0 : ocM sk) (k9 : Sg → Option (Int × Sg)) (hk9 : ∀  (σ : Sg), jX11_product X ads sk (9, [some (.inr (some 84)), none, none], [], σ) (k9 σ)) (k66 : Sg → Option (Int × Sg)) (hk66 : ∀  (σ : Sg), jX11_product X ads sk (66, [some (.inr (some 84)), none, none], [], σ) (k66 σ)) (k76 : Sg → Option (Int × Sg)) (hk76 : ∀  (σ : Sg), jX11_product X ads sk (76, [some (.inr (some 84)), none, none], [], σ) (k76 σ)) (σ : Sg) : jX11_product X ads sk (29, [some (.inr (some 84)), none, none], [], σ) (fX11_product_J29 k9 k66 k76 σ) := by
  unfold fX11_product_J29
  refine j_run 13 1 rfl ?_
  refine j_gf 14 7 rfl rfl hp0.1 rfl ?_
  refine j_run 15 1 rfl ?_
  refine jc_icmp_ne 16 rfl rfl (fun h12 => ?_) (fun h12 => ?_)
  · refine j_run 17 1 rfl ?_
    refine j_goto 18 rfl rfl ?_
    exact j_weak (leP_s (leP_n (leP_n (leP_z)))) (JX11_product_J44 hA hp0 _ hk9 _ hk66 _ hk76 1 _)
  · refine j_run 19 1 rfl ?_
    exact j_weak (leP_s (leP_n (leP_n (leP_z)))) (JX11_product_J44 hA hp0 _ hk9 _ hk66 _ hk76 0 _)
theorem JX11_product_L9 {X : Cx} {ads : List Nat} {sk : List Sk} (hA : ads.length = sk.length ∧ sk.length ≤ 1000) (hp0 : ocM sk) (k66 : Sg → Option (Int × Sg)) (hk66 : ∀  (σ : Sg), jX11_product X ads sk (66, [some (.inr (some 84)), none, none], [], σ) (k66 σ)) (k76 : Sg → Option (Int × Sg)) (hk76 : ∀  (σ : Sg), jX11_product X ads sk (76, [some (.inr (some 84)), none, none], [], σ) (k76 σ)) : ∀ (n : Nat) (σ : Sg), jX11_product X ads sk (9, [some (.inr (some 84)), none, none], [], σ) (fX11_product_L9 k66 k76 n σ) := by
  intro n
  induction n with
  | zero => intro σ; exact j_none
  | succ n ih =>
    intro σ
    rw [fX11_product_L9]
    refine j_run 5 1 rfl ?_
    refine j_gf 6 7 rfl rfl hp0.1 rfl ?_
    refine j_run 7 1 rfl ?_
    refine jc_icmp_eq 8 rfl rfl (fun h13 => ?_) (fun h13 => ?_)
    · exact j_weak (leP_s (leP_n (leP_n (leP_z)))) (JX11_product_J29 hA hp0 _ ih _ hk66 _ hk76 _)
    · refine j_run 9 1 rfl ?_
      refine j_gf 10 7 rfl rfl hp0.1 rfl ?_
      refine j_run 11 1 rfl ?_
      refine jc_icmp_ne 12 rfl rfl (fun h14 => ?_) (fun h14 => ?_)
      · exact j_weak (leP_s (leP_n (leP_n (leP_z)))) (JX11_product_J29 hA hp0 _ ih _ hk66 _ hk76 _)
      · refine j_run 59 1 rfl ?_
        exact j_zret 60 rfl rfl (by decide) rfl
theorem eX11_product {X : Cx} {ads : List Nat} {sk : List Sk} (hA : ads.length = sk.length ∧ sk.length ≤ 1000) (hp0 : ocM sk) (σ : Sg) : CF X mX11_product ads sk [.inr (some 84)] σ wE (fX11_product σ) := by
  refine CF.of ⟨pX11_product_ok, tbX11_ok, hA.1, hA.2⟩ (plainFor_of_name plX11) (Nat.le_of_ble_eq_true rfl) ?_
  show jX11_product X ads sk (0, [some (.inr (some 84)), none, none], [], σ) (fX11_product σ)
  unfold fX11_product
  refine j_run 0 1 rfl ?_
  refine j_cv 1 24 0 rfl rfl mwX11_unit hp0.1 rfl rfl (eX11_unit hA hp0 _) rfl rfl (rok rfl rfl) (Nat.le_of_ble_eq_true rfl) (fun q1 _ h1 => ?_)
  refine jc_if_ne 2 rfl rfl (fun h2 => ?_) (fun h2 => ?_)
  · refine j_run 3 1 rfl ?_
    exact j_zret 4 rfl rfl (by decide) rfl
  · refine j_weak (leP_s (leP_n (leP_n (leP_z)))) (JX11_product_L9 hA hp0 _ (fun s15 => ?_) _ (fun s17 => ?_) FU _)
    · refine j_run 32 2 rfl ?_
      refine j_cv 34 22 1 rfl rfl mwX11_bad hp0.1 rfl rfl (eX11_bad hA hp0 1 _) rfl rfl (rok rfl rfl) (Nat.le_of_ble_eq_true rfl) (fun q16 _ h16 => ?_)
      exact j_zret 35 rfl rfl (nrR_b h16 rfl) rfl
    · refine j_run 38 2 rfl ?_
      refine j_cv 40 22 1 rfl rfl mwX11_bad hp0.1 rfl rfl (eX11_bad hA hp0 2 _) rfl rfl (rok rfl rfl) (Nat.le_of_ble_eq_true rfl) (fun q18 _ h18 => ?_)
      exact j_zret 41 rfl rfl (nrR_b h18 rfl) rfl
abbrev jX11_sumUp (X : Cx) (ads : List Nat) (sk : List Sk) (ps : PS) (res : Option (Int × Sg)) : Prop := J X mX11_sumUp pX11_sumUp tbX11 (rmD 15 0 0) 0 0 E0 (fun a => FM X mX11_sumUp ads sk (wE a)) ads sk ps res
theorem JX11_sumUp_J46 {X : Cx} {ads : List Nat} {sk : List Sk} (hA : ads.length = sk.length ∧ sk.length ≤ 1000) (hp0 : ocM sk) (k9 : Sg → Option (Int × Sg)) (hk9 : ∀  (σ : Sg), jX11_sumUp X ads sk (9, [some (.inr (some 84)), none], [], σ) (k9 σ)) (y0 : Int) (σ : Sg) : jX11_sumUp X ads sk (46, [some (.inr (some 84)), none], [.inl y0], σ) (fX11_sumUp_J46 k9 y0 σ) := by
  unfold fX11_sumUp_J46
  refine j_run 20 2 rfl ?_
  refine j_cv 22 21 0 rfl rfl mwX11_next0 hp0.1 rfl rfl (eX11_next0 hA hp0 _) rfl rfl (rok rfl rfl) (Nat.le_of_ble_eq_true rfl) (fun s3 _ h3 => ?_)
  refine j_run 23 1 rfl ?_
  refine j_cv 24 25 0 rfl rfl mwX11_product hp0.1 rfl rfl (eX11_product hA hp0 _) rfl rfl (rok rfl rfl) (Nat.le_of_ble_eq_true rfl) (fun q4 _ h4 => ?_)
  refine jc_if_ne 25 rfl rfl (fun h5 => ?_) (fun h5 => ?_)
  · refine j_run 26 1 rfl ?_
    exact j_zret 27 rfl rfl (by decide) rfl
  · refine j_run 28 3 rfl ?_
    refine j_cv 31 23 2 rfl rfl mwX11_lay hp0.1 rfl rfl (eX11_lay hA hp0 y0 0 _) rfl rfl (rok rfl rfl) (Nat.le_of_ble_eq_true rfl) (fun s6 _ h6 => ?_)
    refine j_goto 32 rfl rfl ?_
    exact j_weak (leP_s (leP_n (leP_z))) (hk9 _)
theorem JX11_sumUp_J29 {X : Cx} {ads : List Nat} {sk : List Sk} (hA : ads.length = sk.length ∧ sk.length ≤ 1000) (hp0 : ocM sk) (k9 : Sg → Option (Int × Sg)) (hk9 : ∀  (σ : Sg), jX11_sumUp X ads sk (9, [some (.inr (some 84)), none], [], σ) (k9 σ)) (σ : Sg) : jX11_sumUp X ads sk (29, [some (.inr (some 84)), none], [], σ) (fX11_sumUp_J29 k9 σ) := by
  unfold fX11_sumUp_J29
  refine j_run 13 1 rfl ?_
  refine j_gf 14 7 rfl rfl hp0.1 rfl ?_
  refine j_run 15 1 rfl ?_
  refine jc_icmp_ne 16 rfl rfl (fun h7 => ?_) (fun h7 => ?_)
  · refine j_run 17 1 rfl ?_
    refine j_goto 18 rfl rfl ?_
    exact j_weak (leP_s (leP_n (leP_z))) (JX11_sumUp_J46 hA hp0 _ hk9 23 _)
  · refine j_run 19 1 rfl ?_
    exact j_weak (leP_s (leP_n (leP_z))) (JX11_sumUp_J46 hA hp0 _ hk9 24 _)
theorem JX11_sumUp_L9 {X : Cx} {ads : List Nat} {sk : List Sk} (hA : ads.length = sk.length ∧ sk.length ≤ 1000) (hp0 : ocM sk) : ∀ (n : Nat) (σ : Sg), jX11_sumUp X ads sk (9, [some (.inr (some 84)), none], [], σ) (fX11_sumUp_L9 n σ) := by
  intro n
  induction n with
  | zero => intro σ; exact j_none
  | succ n ih =>
    intro σ
    rw [fX11_sumUp_L9]
    refine j_run 5 1 rfl ?_
    refine j_gf 6 7 rfl rfl hp0.1 rfl ?_
    refine j_run 7 1 rfl ?_
    refine jc_icmp_eq 8 rfl rfl (fun h8 => ?_) (fun h8 => ?_)
    · exact j_weak (leP_s (leP_n (leP_z))) (JX11_sumUp_J29 hA hp0 _ ih _)
    · refine j_run 9 1 rfl ?_
      refine j_gf 10 7 rfl rfl hp0.1 rfl ?_
      refine j_run 11 1 rfl ?_
      refine jc_icmp_ne 12 rfl rfl (fun h9 => ?_) (fun h9 => ?_)
      · exact j_weak (leP_s (leP_n (leP_z))) (JX11_sumUp_J29 hA hp0 _ ih _)
      · refine j_run 33 1 rfl ?_
        exact j_zret 34 rfl rfl (by decide) rfl
theorem eX11_sumUp {X : Cx} {ads : List Nat} {sk : List Sk} (hA : ads.length = sk.length ∧ sk.length ≤ 1000) (hp0 : ocM sk) (σ : Sg) : CF X mX11_sumUp ads sk [.inr (some 84)] σ wE (fX11_sumUp σ) := by
  refine CF.of ⟨pX11_sumUp_ok, tbX11_ok, hA.1, hA.2⟩ (plainFor_of_name plX11) (Nat.le_of_ble_eq_true rfl) ?_
  show jX11_sumUp X ads sk (0, [some (.inr (some 84)), none], [], σ) (fX11_sumUp σ)
  unfold fX11_sumUp
  refine j_run 0 1 rfl ?_
  refine j_cv 1 25 0 rfl rfl mwX11_product hp0.1 rfl rfl (eX11_product hA hp0 _) rfl rfl (rok rfl rfl) (Nat.le_of_ble_eq_true rfl) (fun q1 _ h1 => ?_)
  refine jc_if_ne 2 rfl rfl (fun h2 => ?_) (fun h2 => ?_)
  · refine j_run 3 1 rfl ?_
    exact j_zret 4 rfl rfl (by decide) rfl
  · exact j_weak (leP_s (leP_n (leP_z))) (JX11_sumUp_L9 hA hp0 FU _)
abbrev jX11_any (X : Cx) (ads : List Nat) (sk : List Sk) (e : Nat) (ps : PS) (res : Option (Int × Sg)) : Prop := J X (mX11_any e) pX11_any tbX11 (rmD e 0 0) 0 0 E0 (fun a => FM X (mX11_any e) ads sk (wE a)) ads sk ps res
theorem JX11_any_L9 {X : Cx} {ads : List Nat} {sk : List Sk} (hA : ads.length = sk.length ∧ sk.length ≤ 1000) (hp0 : ocM sk) {e e2 : Nat} (he : e2 + 1 ≤ e) (hb : 16 ≤ e) {r_any : Sg → Option (Int × Sg)} (hr_any : ∀  (σ : Sg), CF X (mX11_any e2) ads sk [.inr (some 84)] σ wE (r_any  σ)) {r_every : Sg → Option (Int × Sg)} (hr_every : ∀  (σ : Sg), CF X (mX11_every e2) ads sk [.inr (some 84)] σ wE (r_every  σ)) {r_oneTest : Sg → Option (Int × Sg)} (hr_oneTest : ∀  (σ : Sg), CF X (mX11_oneTest e2) ads sk [.inr (some 84)] σ wE (r_oneTest  σ)) : ∀ (n : Nat) (σ : Sg), jX11_any X ads sk e (9, [some (.inr (some 84))], [], σ) (fX11_any_L9 r_any r_every r_oneTest n σ) := by
  intro n
  induction n with
  | zero => intro σ; exact j_none
  | succ n ih =>
    intro σ
    rw [fX11_any_L9]
    refine j_run 5 1 rfl ?_
    refine j_gf 6 7 rfl rfl hp0.1 rfl ?_
    refine j_run 7 1 rfl ?_
    refine jc_icmp_ne 8 rfl rfl (fun h3 => ?_) (fun h3 => ?_)
    · refine j_run 9 1 rfl ?_
      refine j_cv 10 21 0 rfl rfl mwX11_next0 hp0.1 rfl rfl (eX11_next0 hA hp0 _) rfl rfl (rokS (Nat.le_trans (Nat.le_of_ble_eq_true (rfl : Nat.ble (12 + 1) 16 = true)) hb) (Nat.le_of_ble_eq_true rfl)) (Nat.le_of_ble_eq_true rfl) (fun s4 _ h4 => ?_)
      refine j_run 11 1 rfl ?_
      refine j_cv 12 26 0 rfl rfl (mwX11_every _) hp0.1 rfl rfl (hr_every _) rfl rfl (rokS he (Nat.le_of_ble_eq_true rfl)) (Nat.le_of_ble_eq_true rfl) (fun q5 _ h5 => ?_)
      refine jc_if_ne 13 rfl rfl (fun h6 => ?_) (fun h6 => ?_)
      · refine j_run 14 1 rfl ?_
        exact j_zret 15 rfl rfl (by decide) rfl
      · refine j_run 16 3 rfl ?_
        refine j_cv 19 23 2 rfl rfl mwX11_lay hp0.1 rfl rfl (eX11_lay hA hp0 32 0 _) rfl rfl (rokS (Nat.le_trans (Nat.le_of_ble_eq_true (rfl : Nat.ble (0 + 1) 16 = true)) hb) (Nat.le_of_ble_eq_true rfl)) (Nat.le_of_ble_eq_true rfl) (fun s7 _ h7 => ?_)
        refine j_goto 20 rfl rfl ?_
        exact j_weak (leP_s (leP_z)) (ih _)
    · refine j_run 21 1 rfl ?_
      exact j_zret 22 rfl rfl (by decide) rfl
theorem egX11_any {X : Cx} {ads : List Nat} {sk : List Sk} (hA : ads.length = sk.length ∧ sk.length ≤ 1000) (hp0 : ocM sk) {e e2 : Nat} (he : e2 + 1 ≤ e) (hb : 16 ≤ e) {r_any : Sg → Option (Int × Sg)} (hr_any : ∀  (σ : Sg), CF X (mX11_any e2) ads sk [.inr (some 84)] σ wE (r_any  σ)) {r_every : Sg → Option (Int × Sg)} (hr_every : ∀  (σ : Sg), CF X (mX11_every e2) ads sk [.inr (some 84)] σ wE (r_every  σ)) {r_oneTest : Sg → Option (Int × Sg)} (hr_oneTest : ∀  (σ : Sg), CF X (mX11_oneTest e2) ads sk [.inr (some 84)] σ wE (r_oneTest  σ)) (σ : Sg) : CF X (mX11_any e) ads sk [.inr (some 84)] σ wE (gX11_any r_any r_every r_oneTest σ) := by
  refine CF.of ⟨pX11_any_ok, tbX11_ok, hA.1, hA.2⟩ (plainFor_of_name plX11) (Nat.le_of_ble_eq_true rfl) ?_
  show jX11_any X ads sk e (0, [some (.inr (some 84))], [], σ) (gX11_any r_any r_every r_oneTest σ)
  unfold gX11_any
  refine j_run 0 1 rfl ?_
  refine j_cv 1 26 0 rfl rfl (mwX11_every _) hp0.1 rfl rfl (hr_every _) rfl rfl (rokS he (Nat.le_of_ble_eq_true rfl)) (Nat.le_of_ble_eq_true rfl) (fun q1 _ h1 => ?_)
  refine jc_if_ne 2 rfl rfl (fun h2 => ?_) (fun h2 => ?_)
  · refine j_run 3 1 rfl ?_
    exact j_zret 4 rfl rfl (by decide) rfl
  · exact j_weak (leP_s (leP_z)) (JX11_any_L9 hA hp0 he hb hr_any hr_every hr_oneTest FU _)
abbrev jX11_every (X : Cx) (ads : List Nat) (sk : List Sk) (e : Nat) (ps : PS) (res : Option (Int × Sg)) : Prop := J X (mX11_every e) pX11_every tbX11 (rmD e 0 0) 0 0 E0 (fun a => FM X (mX11_every e) ads sk (wE a)) ads sk ps res
theorem JX11_every_L9 {X : Cx} {ads : List Nat} {sk : List Sk} (hA : ads.length = sk.length ∧ sk.length ≤ 1000) (hp0 : ocM sk) {e e2 : Nat} (he : e2 + 1 ≤ e) (hb : 16 ≤ e) {r_any : Sg → Option (Int × Sg)} (hr_any : ∀  (σ : Sg), CF X (mX11_any e2) ads sk [.inr (some 84)] σ wE (r_any  σ)) {r_every : Sg → Option (Int × Sg)} (hr_every : ∀  (σ : Sg), CF X (mX11_every e2) ads sk [.inr (some 84)] σ wE (r_every  σ)) {r_oneTest : Sg → Option (Int × Sg)} (hr_oneTest : ∀  (σ : Sg), CF X (mX11_oneTest e2) ads sk [.inr (some 84)] σ wE (r_oneTest  σ)) : ∀ (n : Nat) (σ : Sg), jX11_every X ads sk e (9, [some (.inr (some 84))], [], σ) (fX11_every_L9 r_any r_every r_oneTest n σ) := by
  intro n
  induction n with
  | zero => intro σ; exact j_none
  | succ n ih =>
    intro σ
    rw [fX11_every_L9]
    refine j_run 5 1 rfl ?_
    refine j_gf 6 7 rfl rfl hp0.1 rfl ?_
    refine j_run 7 1 rfl ?_
    refine jc_icmp_ne 8 rfl rfl (fun h3 => ?_) (fun h3 => ?_)
    · refine j_run 9 1 rfl ?_
      refine j_cv 10 21 0 rfl rfl mwX11_next0 hp0.1 rfl rfl (eX11_next0 hA hp0 _) rfl rfl (rokS (Nat.le_trans (Nat.le_of_ble_eq_true (rfl : Nat.ble (12 + 1) 16 = true)) hb) (Nat.le_of_ble_eq_true rfl)) (Nat.le_of_ble_eq_true rfl) (fun s4 _ h4 => ?_)
      refine j_run 11 1 rfl ?_
      refine j_cv 12 27 0 rfl rfl (mwX11_oneTest _) hp0.1 rfl rfl (hr_oneTest _) rfl rfl (rokS he (Nat.le_of_ble_eq_true rfl)) (Nat.le_of_ble_eq_true rfl) (fun q5 _ h5 => ?_)
      refine jc_if_ne 13 rfl rfl (fun h6 => ?_) (fun h6 => ?_)
      · refine j_run 14 1 rfl ?_
        exact j_zret 15 rfl rfl (by decide) rfl
      · refine j_run 16 3 rfl ?_
        refine j_cv 19 23 2 rfl rfl mwX11_lay hp0.1 rfl rfl (eX11_lay hA hp0 31 0 _) rfl rfl (rokS (Nat.le_trans (Nat.le_of_ble_eq_true (rfl : Nat.ble (0 + 1) 16 = true)) hb) (Nat.le_of_ble_eq_true rfl)) (Nat.le_of_ble_eq_true rfl) (fun s7 _ h7 => ?_)
        refine j_goto 20 rfl rfl ?_
        exact j_weak (leP_s (leP_z)) (ih _)
    · refine j_run 21 1 rfl ?_
      exact j_zret 22 rfl rfl (by decide) rfl
theorem egX11_every {X : Cx} {ads : List Nat} {sk : List Sk} (hA : ads.length = sk.length ∧ sk.length ≤ 1000) (hp0 : ocM sk) {e e2 : Nat} (he : e2 + 1 ≤ e) (hb : 16 ≤ e) {r_any : Sg → Option (Int × Sg)} (hr_any : ∀  (σ : Sg), CF X (mX11_any e2) ads sk [.inr (some 84)] σ wE (r_any  σ)) {r_every : Sg → Option (Int × Sg)} (hr_every : ∀  (σ : Sg), CF X (mX11_every e2) ads sk [.inr (some 84)] σ wE (r_every  σ)) {r_oneTest : Sg → Option (Int × Sg)} (hr_oneTest : ∀  (σ : Sg), CF X (mX11_oneTest e2) ads sk [.inr (some 84)] σ wE (r_oneTest  σ)) (σ : Sg) : CF X (mX11_every e) ads sk [.inr (some 84)] σ wE (gX11_every r_any r_every r_oneTest σ) := by
  refine CF.of ⟨pX11_every_ok, tbX11_ok, hA.1, hA.2⟩ (plainFor_of_name plX11) (Nat.le_of_ble_eq_true rfl) ?_
  show jX11_every X ads sk e (0, [some (.inr (some 84))], [], σ) (gX11_every r_any r_every r_oneTest σ)
  unfold gX11_every
  refine j_run 0 1 rfl ?_
  refine j_cv 1 27 0 rfl rfl (mwX11_oneTest _) hp0.1 rfl rfl (hr_oneTest _) rfl rfl (rokS he (Nat.le_of_ble_eq_true rfl)) (Nat.le_of_ble_eq_true rfl) (fun q1 _ h1 => ?_)
  refine jc_if_ne 2 rfl rfl (fun h2 => ?_) (fun h2 => ?_)
  · refine j_run 3 1 rfl ?_
    exact j_zret 4 rfl rfl (by decide) rfl
  · exact j_weak (leP_s (leP_z)) (JX11_every_L9 hA hp0 he hb hr_any hr_every hr_oneTest FU _)
abbrev jX11_oneTest (X : Cx) (ads : List Nat) (sk : List Sk) (e : Nat) (ps : PS) (res : Option (Int × Sg)) : Prop := J X (mX11_oneTest e) pX11_oneTest tbX11 (rmD e 0 0) 0 0 E0 (fun a => FM X (mX11_oneTest e) ads sk (wE a)) ads sk ps res
theorem JX11_oneTest_J147 {X : Cx} {ads : List Nat} {sk : List Sk} (hA : ads.length = sk.length ∧ sk.length ≤ 1000) (hp0 : ocM sk) {e e2 : Nat} (he : e2 + 1 ≤ e) (hb : 16 ≤ e) {r_any : Sg → Option (Int × Sg)} (hr_any : ∀  (σ : Sg), CF X (mX11_any e2) ads sk [.inr (some 84)] σ wE (r_any  σ)) {r_every : Sg → Option (Int × Sg)} (hr_every : ∀  (σ : Sg), CF X (mX11_every e2) ads sk [.inr (some 84)] σ wE (r_every  σ)) {r_oneTest : Sg → Option (Int × Sg)} (hr_oneTest : ∀  (σ : Sg), CF X (mX11_oneTest e2) ads sk [.inr (some 84)] σ wE (r_oneTest  σ)) (y0 : Int) (σ : Sg) : jX11_oneTest X ads sk e (147, [some (.inr (some 84)), none], [.inl y0], σ) (fX11_oneTest_J147 r_any r_every r_oneTest y0 σ) := by
  unfold fX11_oneTest_J147
  refine j_run 72 3 rfl ?_
  refine jc_icmp_ne 75 rfl rfl (fun h16 => ?_) (fun h16 => ?_)
  · refine j_run 76 2 rfl ?_
    refine j_cv 78 22 1 rfl rfl mwX11_bad hp0.1 rfl rfl (eX11_bad hA hp0 1 _) rfl rfl (rokS (Nat.le_trans (Nat.le_of_ble_eq_true (rfl : Nat.ble (0 + 1) 16 = true)) hb) (Nat.le_of_ble_eq_true rfl)) (Nat.le_of_ble_eq_true rfl) (fun q17 _ h17 => ?_)
    exact j_zret 79 rfl rfl (nrR_b h17 rfl) rfl
  · refine j_run 80 1 rfl ?_
    refine j_cv 81 21 0 rfl rfl mwX11_next0 hp0.1 rfl rfl (eX11_next0 hA hp0 _) rfl rfl (rokS (Nat.le_trans (Nat.le_of_ble_eq_true (rfl : Nat.ble (12 + 1) 16 = true)) hb) (Nat.le_of_ble_eq_true rfl)) (Nat.le_of_ble_eq_true rfl) (fun s18 _ h18 => ?_)
    refine j_run 82 1 rfl ?_
    refine j_cv 83 31 0 rfl rfl mwX11_sumUp hp0.1 rfl rfl (eX11_sumUp hA hp0 _) rfl rfl (rokS (Nat.le_trans (Nat.le_of_ble_eq_true (rfl : Nat.ble (15 + 1) 16 = true)) hb) (Nat.le_of_ble_eq_true rfl)) (Nat.le_of_ble_eq_true rfl) (fun q19 _ h19 => ?_)
    refine jc_if_ne 84 rfl rfl (fun h20 => ?_) (fun h20 => ?_)
    · refine j_run 85 1 rfl ?_
      exact j_zret 86 rfl rfl (by decide) rfl
    · refine j_run 87 3 rfl ?_
      refine j_cv 90 23 2 rfl rfl mwX11_lay hp0.1 rfl rfl (eX11_lay hA hp0 y0 0 _) rfl rfl (rokS (Nat.le_trans (Nat.le_of_ble_eq_true (rfl : Nat.ble (0 + 1) 16 = true)) hb) (Nat.le_of_ble_eq_true rfl)) (Nat.le_of_ble_eq_true rfl) (fun s21 _ h21 => ?_)
      refine j_run 91 1 rfl ?_
      exact j_zret 92 rfl rfl (by decide) rfl
theorem egX11_oneTest {X : Cx} {ads : List Nat} {sk : List Sk} (hA : ads.length = sk.length ∧ sk.length ≤ 1000) (hp0 : ocM sk) {e e2 : Nat} (he : e2 + 1 ≤ e) (hb : 16 ≤ e) {r_any : Sg → Option (Int × Sg)} (hr_any : ∀  (σ : Sg), CF X (mX11_any e2) ads sk [.inr (some 84)] σ wE (r_any  σ)) {r_every : Sg → Option (Int × Sg)} (hr_every : ∀  (σ : Sg), CF X (mX11_every e2) ads sk [.inr (some 84)] σ wE (r_every  σ)) {r_oneTest : Sg → Option (Int × Sg)} (hr_oneTest : ∀  (σ : Sg), CF X (mX11_oneTest e2) ads sk [.inr (some 84)] σ wE (r_oneTest  σ)) (σ : Sg) : CF X (mX11_oneTest e) ads sk [.inr (some 84)] σ wE (gX11_oneTest r_any r_every r_oneTest σ) := by
  refine CF.of ⟨pX11_oneTest_ok, tbX11_ok, hA.1, hA.2⟩ (plainFor_of_name plX11) (Nat.le_of_ble_eq_true rfl) ?_
  show jX11_oneTest X ads sk e (0, [some (.inr (some 84)), none], [], σ) (gX11_oneTest r_any r_every r_oneTest σ)
  unfold gX11_oneTest
  refine j_run 0 1 rfl ?_
  refine j_gf 1 7 rfl rfl hp0.1 rfl ?_
  refine j_run 2 1 rfl ?_
  refine jc_icmp_ne 3 rfl rfl (fun h1 => ?_) (fun h1 => ?_)
  · refine j_run 4 1 rfl ?_
    refine j_cv 5 28 0 rfl rfl mwX11_opens hp0.1 rfl rfl (eX11_opens hA hp0 _) rfl rfl (rokS (Nat.le_trans (Nat.le_of_ble_eq_true (rfl : Nat.ble (13 + 1) 16 = true)) hb) (Nat.le_of_ble_eq_true rfl)) (Nat.le_of_ble_eq_true rfl) (fun q2 _ h2 => ?_)
    refine jc_if_eq 6 rfl rfl (fun h3 => ?_) (fun h3 => ?_)
    · refine j_run 10 1 rfl ?_
      exact j_zret 11 rfl rfl (by decide) rfl
    · refine j_run 7 1 rfl ?_
      refine j_cv 8 27 0 rfl rfl (mwX11_oneTest _) hp0.1 rfl rfl (hr_oneTest _) rfl rfl (rokS he (Nat.le_of_ble_eq_true rfl)) (Nat.le_of_ble_eq_true rfl) (fun q4 _ h4 => ?_)
      refine jc_if_ne 9 rfl rfl (fun h5 => ?_) (fun h5 => ?_)
      · refine j_run 10 1 rfl ?_
        exact j_zret 11 rfl rfl (by decide) rfl
      · refine j_run 12 2 rfl ?_
        refine j_gf 14 13 rfl rfl hp0.1 rfl ?_
        refine j_run 15 2 rfl ?_
        refine j_pf 17 13 rfl rfl hp0.1 rfl rfl (Or.inl rfl) ?_
        refine j_run 18 3 rfl ?_
        refine j_cv 21 23 2 rfl rfl mwX11_lay hp0.1 rfl rfl (eX11_lay hA hp0 30 0 _) rfl rfl (rokS (Nat.le_trans (Nat.le_of_ble_eq_true (rfl : Nat.ble (0 + 1) 16 = true)) hb) (Nat.le_of_ble_eq_true rfl)) (Nat.le_of_ble_eq_true rfl) (fun s6 _ h6 => ?_)
        refine j_run 22 1 rfl ?_
        exact j_zret 23 rfl rfl (by decide) rfl
  · refine j_run 24 1 rfl ?_
    refine j_gf 25 7 rfl rfl hp0.1 rfl ?_
    refine j_run 26 1 rfl ?_
    refine jc_icmp_ne 27 rfl rfl (fun h7 => ?_) (fun h7 => ?_)
    · refine j_run 28 1 rfl ?_
      refine j_cv 29 28 0 rfl rfl mwX11_opens hp0.1 rfl rfl (eX11_opens hA hp0 _) rfl rfl (rokS (Nat.le_trans (Nat.le_of_ble_eq_true (rfl : Nat.ble (13 + 1) 16 = true)) hb) (Nat.le_of_ble_eq_true rfl)) (Nat.le_of_ble_eq_true rfl) (fun q8 _ h8 => ?_)
      refine jc_if_eq 30 rfl rfl (fun h9 => ?_) (fun h9 => ?_)
      · refine j_run 38 1 rfl ?_
        exact j_zret 39 rfl rfl (by decide) rfl
      · refine j_run 31 1 rfl ?_
        refine j_cv 32 29 0 rfl rfl (mwX11_any _) hp0.1 rfl rfl (hr_any _) rfl rfl (rokS he (Nat.le_of_ble_eq_true rfl)) (Nat.le_of_ble_eq_true rfl) (fun q10 _ h10 => ?_)
        refine jc_if_eq 33 rfl rfl (fun h11 => ?_) (fun h11 => ?_)
        · refine j_run 38 1 rfl ?_
          exact j_zret 39 rfl rfl (by decide) rfl
        · refine j_run 34 2 rfl ?_
          refine j_cv 36 30 1 rfl rfl mwX11_need hp0.1 rfl rfl (eX11_need hA hp0 141 _) rfl rfl (rokS (Nat.le_trans (Nat.le_of_ble_eq_true (rfl : Nat.ble (13 + 1) 16 = true)) hb) (Nat.le_of_ble_eq_true rfl)) (Nat.le_of_ble_eq_true rfl) (fun q12 _ h12 => ?_)
          refine jc_if_ne 37 rfl rfl (fun h13 => ?_) (fun h13 => ?_)
          · refine j_run 38 1 rfl ?_
            exact j_zret 39 rfl rfl (by decide) rfl
          · refine j_run 40 2 rfl ?_
            refine j_gf 42 13 rfl rfl hp0.1 rfl ?_
            refine j_run 43 2 rfl ?_
            refine j_pf 45 13 rfl rfl hp0.1 rfl rfl (Or.inl rfl) ?_
            refine j_run 46 1 rfl ?_
            exact j_zret 47 rfl rfl (by decide) rfl
    · refine j_run 48 1 rfl ?_
      refine j_cv 49 31 0 rfl rfl mwX11_sumUp hp0.1 rfl rfl (eX11_sumUp hA hp0 _) rfl rfl (rokS (Nat.le_trans (Nat.le_of_ble_eq_true (rfl : Nat.ble (15 + 1) 16 = true)) hb) (Nat.le_of_ble_eq_true rfl)) (Nat.le_of_ble_eq_true rfl) (fun q14 _ h14 => ?_)
      refine jc_if_ne 50 rfl rfl (fun h15 => ?_) (fun h15 => ?_)
      · refine j_run 51 1 rfl ?_
        exact j_zret 52 rfl rfl (by decide) rfl
      · refine j_run 53 1 rfl ?_
        refine j_gf 54 7 rfl rfl hp0.1 rfl ?_
        refine j_run 55 1 rfl ?_
        refine jc_icmp_ne 56 rfl rfl (fun h22 => ?_) (fun h22 => ?_)
        · refine j_run 57 1 rfl ?_
          refine j_goto 58 rfl rfl ?_
          exact j_weak (leP_s (leP_n (leP_z))) (JX11_oneTest_J147 hA hp0 he hb hr_any hr_every hr_oneTest 27 _)
        · refine j_run 59 1 rfl ?_
          refine j_gf 60 7 rfl rfl hp0.1 rfl ?_
          refine j_run 61 1 rfl ?_
          refine jc_icmp_ne 62 rfl rfl (fun h23 => ?_) (fun h23 => ?_)
          · refine j_run 63 1 rfl ?_
            refine j_goto 64 rfl rfl ?_
            exact j_weak (leP_s (leP_n (leP_z))) (JX11_oneTest_J147 hA hp0 he hb hr_any hr_every hr_oneTest 28 _)
          · refine j_run 65 1 rfl ?_
            refine j_gf 66 7 rfl rfl hp0.1 rfl ?_
            refine j_run 67 1 rfl ?_
            refine jc_icmp_ne 68 rfl rfl (fun h24 => ?_) (fun h24 => ?_)
            · refine j_run 69 1 rfl ?_
              refine j_goto 70 rfl rfl ?_
              exact j_weak (leP_s (leP_n (leP_z))) (JX11_oneTest_J147 hA hp0 he hb hr_any hr_every hr_oneTest 29 _)
            · refine j_run 71 1 rfl ?_
              exact j_weak (leP_s (leP_n (leP_z))) (JX11_oneTest_J147 hA hp0 he hb hr_any hr_every hr_oneTest (-1) _)
theorem et_X11_any {X : Cx} {ads : List Nat} {sk : List Sk} (hA : ads.length = sk.length ∧ sk.length ≤ 1000) (hp0 : ocM sk) : ∀ n : Nat, (∀ (σ : Sg), CF X (mX11_any (16 + n)) ads sk [.inr (some 84)] σ wE ((rg_X11_any n).1  σ)) ∧ (∀ (σ : Sg), CF X (mX11_every (16 + n)) ads sk [.inr (some 84)] σ wE ((rg_X11_any n).2.1  σ)) ∧ (∀ (σ : Sg), CF X (mX11_oneTest (16 + n)) ads sk [.inr (some 84)] σ wE ((rg_X11_any n).2.2  σ))
  | 0 => ⟨(by intros; intro a ha; cases ha), (by intros; intro a ha; cases ha), (by intros; intro a ha; cases ha)⟩
  | n + 1 => by
    have ih := et_X11_any (X := X) hA hp0 n
    exact ⟨(by intros; exact egX11_any hA hp0 (e := 16 + (n + 1)) (e2 := 16 + n) (by omega) (by omega) (ih.1) (ih.2.1) (ih.2.2) _), (by intros; exact egX11_every hA hp0 (e := 16 + (n + 1)) (e2 := 16 + n) (by omega) (by omega) (ih.1) (ih.2.1) (ih.2.2) _), (by intros; exact egX11_oneTest hA hp0 (e := 16 + (n + 1)) (e2 := 16 + n) (by omega) (by omega) (ih.1) (ih.2.1) (ih.2.2) _)⟩
theorem eX11_any_n {X : Cx} {ads : List Nat} {sk : List Sk} (hA : ads.length = sk.length ∧ sk.length ≤ 1000) (hp0 : ocM sk) (n : Nat) (σ : Sg) : CF X (mX11_any (16 + n)) ads sk [.inr (some 84)] σ wE (fX11_any n  σ) := (et_X11_any hA hp0 n).1 σ
theorem eX11_every_n {X : Cx} {ads : List Nat} {sk : List Sk} (hA : ads.length = sk.length ∧ sk.length ≤ 1000) (hp0 : ocM sk) (n : Nat) (σ : Sg) : CF X (mX11_every (16 + n)) ads sk [.inr (some 84)] σ wE (fX11_every n  σ) := (et_X11_any hA hp0 n).2.1 σ
theorem eX11_oneTest_n {X : Cx} {ads : List Nat} {sk : List Sk} (hA : ads.length = sk.length ∧ sk.length ≤ 1000) (hp0 : ocM sk) (n : Nat) (σ : Sg) : CF X (mX11_oneTest (16 + n)) ads sk [.inr (some 84)] σ wE (fX11_oneTest n  σ) := (et_X11_any hA hp0 n).2.2 σ
abbrev jX11_aLine (X : Cx) (ads : List Nat) (sk : List Sk) (ps : PS) (res : Option (Int × Sg)) : Prop := J X mX11_aLine pX11_aLine tbX11 (rmD 57 0 0) 0 0 E0 (fun a => FM X mX11_aLine ads sk (wE a)) ads sk ps res
theorem JX11_aLine_J123 {X : Cx} {ads : List Nat} {sk : List Sk} (hA : ads.length = sk.length ∧ sk.length ≤ 1000) (hp0 : ocM sk) (σ : Sg) : jX11_aLine X ads sk (123, [some (.inr (some 84))], [], σ) (fX11_aLine_J123 σ) := by
  unfold fX11_aLine_J123
  refine j_run 70 1 rfl ?_
  refine j_gr 71 15 rfl rfl hp0.1 rfl ?_
  refine j_run 72 2 rfl ?_
  refine j_gf 74 14 rfl rfl hp0.1 rfl ?_
  refine j_run 75 4 rfl ?_
  refine j_gf 79 12 rfl rfl hp0.1 rfl ?_
  refine j_ast 80 rfl hp0.2.2.2.2.2.1 rfl ?_
  refine j_run 81 2 rfl ?_
  refine j_cv 83 30 1 rfl rfl mwX11_need hp0.1 rfl rfl (eX11_need hA hp0 159 _) rfl rfl (rok rfl rfl) (Nat.le_of_ble_eq_true rfl) (fun q9 _ h9 => ?_)
  exact j_zret 84 rfl rfl (nrR_b h9 rfl) rfl
theorem eX11_aLine {X : Cx} {ads : List Nat} {sk : List Sk} (hA : ads.length = sk.length ∧ sk.length ≤ 1000) (hp0 : ocM sk) (σ : Sg) : CF X mX11_aLine ads sk [.inr (some 84)] σ wE (fX11_aLine σ) := by
  refine CF.of ⟨pX11_aLine_ok, tbX11_ok, hA.1, hA.2⟩ (plainFor_of_name plX11) (Nat.le_of_ble_eq_true rfl) ?_
  show jX11_aLine X ads sk (0, [some (.inr (some 84))], [], σ) (fX11_aLine σ)
  unfold fX11_aLine
  refine j_run 0 1 rfl ?_
  refine j_gf 1 7 rfl rfl hp0.1 rfl ?_
  refine j_run 2 2 rfl ?_
  refine j_csT 4 0 3 rfl rfl mwX11_isIn (eX11_isIn hA (rd σ 84 18) 20 22 _) rfl rfl (rok rfl rfl) (Nat.le_of_ble_eq_true rfl) (fun h1 => ?_)
  refine jc_if_ne 5 rfl rfl (fun h2 => ?_) (fun h2 => ?_)
  · refine j_run 6 2 rfl ?_
    refine j_cv 8 22 1 rfl rfl mwX11_bad hp0.1 rfl rfl (eX11_bad hA hp0 1 _) rfl rfl (rok rfl rfl) (Nat.le_of_ble_eq_true rfl) (fun q3 _ h3 => ?_)
    exact j_zret 9 rfl rfl (nrR_b h3 rfl) rfl
  · refine j_run 10 1 rfl ?_
    refine j_gf 11 14 rfl rfl hp0.1 rfl ?_
    refine j_run 12 1 rfl ?_
    refine jc_icmp_ne 13 rfl rfl (fun h4 => ?_) (fun h4 => ?_)
    · refine j_run 14 2 rfl ?_
      refine j_cv 16 22 1 rfl rfl mwX11_bad hp0.1 rfl rfl (eX11_bad hA hp0 3 _) rfl rfl (rok rfl rfl) (Nat.le_of_ble_eq_true rfl) (fun q5 _ h5 => ?_)
      exact j_zret 17 rfl rfl (nrR_b h5 rfl) rfl
    · refine j_run 18 2 rfl ?_
      refine j_pf 20 13 rfl rfl hp0.1 rfl rfl (Or.inl rfl) ?_
      refine j_run 21 1 rfl ?_
      refine j_gr 22 15 rfl rfl hp0.1 rfl ?_
      refine j_run 23 2 rfl ?_
      refine j_gf 25 14 rfl rfl hp0.1 rfl ?_
      refine j_run 26 4 rfl ?_
      refine j_gf 30 7 rfl rfl hp0.1 rfl ?_
      refine j_ast 31 rfl hp0.2.2.2.2.2.1 rfl ?_
      refine j_run 32 1 rfl ?_
      refine j_cv 33 21 0 rfl rfl mwX11_next0 hp0.1 rfl rfl (eX11_next0 hA hp0 _) rfl rfl (rok rfl rfl) (Nat.le_of_ble_eq_true rfl) (fun s6 _ h6 => ?_)
      refine j_run 34 1 rfl ?_
      refine j_gr 35 15 rfl rfl hp0.1 rfl ?_
      refine j_run 36 2 rfl ?_
      refine j_gf 38 14 rfl rfl hp0.1 rfl ?_
      refine j_run 39 2 rfl ?_
      refine j_gf 41 12 rfl rfl hp0.1 rfl ?_
      refine j_ast 42 rfl hp0.2.2.2.2.2.1 rfl ?_
      refine j_run 43 1 rfl ?_
      refine j_cv 44 31 0 rfl rfl mwX11_sumUp hp0.1 rfl rfl (eX11_sumUp hA hp0 _) rfl rfl (rok rfl rfl) (Nat.le_of_ble_eq_true rfl) (fun q7 _ h7 => ?_)
      refine jc_if_ne 45 rfl rfl (fun h8 => ?_) (fun h8 => ?_)
      · refine j_run 46 1 rfl ?_
        exact j_zret 47 rfl rfl (by decide) rfl
      · refine j_run 48 1 rfl ?_
        refine j_gr 49 15 rfl rfl hp0.1 rfl ?_
        refine j_run 50 2 rfl ?_
        refine j_gf 52 14 rfl rfl hp0.1 rfl ?_
        refine j_run 53 4 rfl ?_
        refine j_gf 57 12 rfl rfl hp0.1 rfl ?_
        refine j_ast 58 rfl hp0.2.2.2.2.2.1 rfl ?_
        refine j_run 59 1 rfl ?_
        refine j_gf 60 7 rfl rfl hp0.1 rfl ?_
        refine j_run 61 1 rfl ?_
        refine jc_icmp_ne 62 rfl rfl (fun h10 => ?_) (fun h10 => ?_)
        · refine j_run 63 1 rfl ?_
          refine j_cv 64 21 0 rfl rfl mwX11_next0 hp0.1 rfl rfl (eX11_next0 hA hp0 _) rfl rfl (rok rfl rfl) (Nat.le_of_ble_eq_true rfl) (fun s11 _ h11 => ?_)
          refine j_run 65 1 rfl ?_
          refine j_cv 66 29 0 rfl rfl (mwX11_any _) hp0.1 rfl rfl (eX11_any_n hA hp0 40 _) rfl rfl (rok rfl rfl) (Nat.le_of_ble_eq_true rfl) (fun q12 _ h12 => ?_)
          refine jc_if_ne 67 rfl rfl (fun h13 => ?_) (fun h13 => ?_)
          · refine j_run 68 1 rfl ?_
            exact j_zret 69 rfl rfl (by decide) rfl
          · exact j_weak (leP_s (leP_z)) (JX11_aLine_J123 hA hp0 _)
        · exact j_weak (leP_s (leP_z)) (JX11_aLine_J123 hA hp0 _)
abbrev jX11_readsLaw (X : Cx) (ads : List Nat) (sk : List Sk) (ps : PS) (res : Option (Int × Sg)) : Prop := J X mX11_readsLaw pX11_readsLaw tbX11 (rmD 58 0 0) 0 0 E0 (fun a => FM X mX11_readsLaw ads sk (wE a)) ads sk ps res
theorem JX11_readsLaw_L12 {X : Cx} {ads : List Nat} {sk : List Sk} (hA : ads.length = sk.length ∧ sk.length ≤ 1000) (hp0 : ocM sk) : ∀ (n : Nat) (x1 : Int) (σ : Sg), jX11_readsLaw X ads sk (12, [some (.inr (some 84)), some (.inl x1)], [], σ) (fX11_readsLaw_L12 n x1 σ) := by
  intro n
  induction n with
  | zero => intro x1 σ; exact j_none
  | succ n ih =>
    intro x1 σ
    rw [fX11_readsLaw_L12]
    refine j_run 8 1 rfl ?_
    refine jc_if_eq 9 rfl rfl (fun h1 => ?_) (fun h1 => ?_)
    · refine j_run 27 1 rfl ?_
      exact j_grd (fun hg => j_zret 28 rfl rfl hg rfl)
    · refine j_run 10 1 rfl ?_
      refine j_gf 11 7 rfl rfl hp0.1 rfl ?_
      refine jc_if_eq 12 rfl rfl (fun h2 => ?_) (fun h2 => ?_)
      · refine j_run 27 1 rfl ?_
        exact j_grd (fun hg => j_zret 28 rfl rfl hg rfl)
      · refine j_run 13 1 rfl ?_
        refine j_cv 14 32 0 rfl rfl mwX11_aLine hp0.1 rfl rfl (eX11_aLine hA hp0 _) rfl rfl (rok rfl rfl) (Nat.le_of_ble_eq_true rfl) (fun q3 _ h3 => ?_)
        refine j_run 15 3 rfl ?_
        refine j_gf 18 14 rfl rfl hp0.1 rfl ?_
        refine j_run 19 1 rfl ?_
        refine jc_if_eq 20 rfl rfl (fun h4 => ?_) (fun h4 => ?_)
        · refine j_run 23 1 rfl ?_
          refine j_run 24 1 rfl ?_
          refine j_pf 25 14 rfl rfl hp0.1 rfl rfl (Or.inl rfl) ?_
          refine j_goto 26 rfl rfl ?_
          exact j_weak (leP_s (leP_s (leP_z))) (ih q3.1 _)
        · refine j_run 21 1 rfl ?_
          refine j_goto 22 rfl rfl ?_
          refine j_run 24 1 rfl ?_
          refine j_pf 25 14 rfl rfl hp0.1 rfl rfl (Or.inl rfl) ?_
          refine j_goto 26 rfl rfl ?_
          exact j_weak (leP_s (leP_s (leP_z))) (ih q3.1 _)
theorem eX11_readsLaw {X : Cx} {ads : List Nat} {sk : List Sk} (hA : ads.length = sk.length ∧ sk.length ≤ 1000) (hp0 : ocM sk) (σ : Sg) : CF X mX11_readsLaw ads sk [.inr (some 84)] σ wE (fX11_readsLaw σ) := by
  refine CF.of ⟨pX11_readsLaw_ok, tbX11_ok, hA.1, hA.2⟩ (plainFor_of_name plX11) (Nat.le_of_ble_eq_true rfl) ?_
  show jX11_readsLaw X ads sk (0, [some (.inr (some 84)), none], [], σ) (fX11_readsLaw σ)
  unfold fX11_readsLaw
  refine j_run 0 2 rfl ?_
  refine j_pf 2 14 rfl rfl hp0.1 rfl rfl (Or.inl rfl) ?_
  refine j_run 3 2 rfl ?_
  refine j_pf 5 12 rfl rfl hp0.1 rfl rfl (Or.inl rfl) ?_
  refine j_run 6 2 rfl ?_
  exact j_weak (leP_s (leP_s (leP_z))) (JX11_readsLaw_L12 hA hp0 FU 1 _)
