/-! the JDK's small static methods -/
abbrev jJ9_abs_0f7a4 (X : Cx) (ads : List Nat) (sk : List Sk) (σ : Sg) (ps : PS) (res : Option (Int)) : Prop := J X mJ9_abs_0f7a4 pJ9_abs_0f7a4 tbJ9 (rmD 0 0 0) 0 0 E0 (fun a => FM X mJ9_abs_0f7a4 ads sk ((wP σ) a)) ads sk ps res
theorem eJ9_abs_0f7a4 {X : Cx} {ads : List Nat} {sk : List Sk} (hA : ads.length = sk.length ∧ sk.length ≤ 1000) (x0 : Int) (σ : Sg) : CF X mJ9_abs_0f7a4 ads sk [.inl x0] σ (wP σ) (some (fJ9_abs_0f7a4 x0)) := by
  refine CF.of ⟨pJ9_abs_0f7a4_ok, tbJ9_ok, hA.1, hA.2⟩ plJ9_abs_0f7a4 (Nat.le_of_ble_eq_true rfl) ?_
  show jJ9_abs_0f7a4 X ads sk σ (0, [some (.inl x0)], [], σ) (some (fJ9_abs_0f7a4 x0))
  unfold fJ9_abs_0f7a4
  refine j_run 0 1 rfl ?_
  refine jt_if_ge 1 rfl rfl (fun h1 => ?_) (fun h1 => ?_)
  · refine j_run 2 2 rfl ?_
    refine j_goto 4 rfl rfl ?_
    exact j_iret 6 rfl rfl rfl
  · refine j_run 5 1 rfl ?_
    exact j_iret 6 rfl rfl rfl
abbrev jJ9_max_7cf53 (X : Cx) (ads : List Nat) (sk : List Sk) (σ : Sg) (ps : PS) (res : Option (Int)) : Prop := J X mJ9_max_7cf53 pJ9_max_7cf53 tbJ9 (rmD 0 0 0) 0 0 E0 (fun a => FM X mJ9_max_7cf53 ads sk ((wP σ) a)) ads sk ps res
theorem eJ9_max_7cf53 {X : Cx} {ads : List Nat} {sk : List Sk} (hA : ads.length = sk.length ∧ sk.length ≤ 1000) (x0 : Int) (x1 : Int) (σ : Sg) : CF X mJ9_max_7cf53 ads sk [.inl x0, .inl x1] σ (wP σ) (some (fJ9_max_7cf53 x0 x1)) := by
  refine CF.of ⟨pJ9_max_7cf53_ok, tbJ9_ok, hA.1, hA.2⟩ plJ9_max_7cf53 (Nat.le_of_ble_eq_true rfl) ?_
  show jJ9_max_7cf53 X ads sk σ (0, [some (.inl x0), some (.inl x1)], [], σ) (some (fJ9_max_7cf53 x0 x1))
  unfold fJ9_max_7cf53
  refine j_run 0 2 rfl ?_
  refine jt_icmp_lt 2 rfl rfl (fun h1 => ?_) (fun h1 => ?_)
  · refine j_run 5 1 rfl ?_
    exact j_iret 6 rfl rfl rfl
  · refine j_run 3 1 rfl ?_
    refine j_goto 4 rfl rfl ?_
    exact j_iret 6 rfl rfl rfl
abbrev jJ9_min_7cf53 (X : Cx) (ads : List Nat) (sk : List Sk) (σ : Sg) (ps : PS) (res : Option (Int)) : Prop := J X mJ9_min_7cf53 pJ9_min_7cf53 tbJ9 (rmD 0 0 0) 0 0 E0 (fun a => FM X mJ9_min_7cf53 ads sk ((wP σ) a)) ads sk ps res
theorem eJ9_min_7cf53 {X : Cx} {ads : List Nat} {sk : List Sk} (hA : ads.length = sk.length ∧ sk.length ≤ 1000) (x0 : Int) (x1 : Int) (σ : Sg) : CF X mJ9_min_7cf53 ads sk [.inl x0, .inl x1] σ (wP σ) (some (fJ9_min_7cf53 x0 x1)) := by
  refine CF.of ⟨pJ9_min_7cf53_ok, tbJ9_ok, hA.1, hA.2⟩ plJ9_min_7cf53 (Nat.le_of_ble_eq_true rfl) ?_
  show jJ9_min_7cf53 X ads sk σ (0, [some (.inl x0), some (.inl x1)], [], σ) (some (fJ9_min_7cf53 x0 x1))
  unfold fJ9_min_7cf53
  refine j_run 0 2 rfl ?_
  refine jt_icmp_gt 2 rfl rfl (fun h1 => ?_) (fun h1 => ?_)
  · refine j_run 5 1 rfl ?_
    exact j_iret 6 rfl rfl rfl
  · refine j_run 3 1 rfl ?_
    refine j_goto 4 rfl rfl ?_
    exact j_iret 6 rfl rfl rfl
abbrev jJ6_bitCount_0f7a4 (X : Cx) (ads : List Nat) (sk : List Sk) (σ : Sg) (ps : PS) (res : Option (Int)) : Prop := J X mJ6_bitCount_0f7a4 pJ6_bitCount_0f7a4 tbJ6 (rmD 0 0 0) 0 0 E0 (fun a => FM X mJ6_bitCount_0f7a4 ads sk ((wP σ) a)) ads sk ps res
theorem eJ6_bitCount_0f7a4 {X : Cx} {ads : List Nat} {sk : List Sk} (hA : ads.length = sk.length ∧ sk.length ≤ 1000) (x0 : Int) (σ : Sg) : CF X mJ6_bitCount_0f7a4 ads sk [.inl x0] σ (wP σ) (some (fJ6_bitCount_0f7a4 x0)) := by
  refine CF.of ⟨pJ6_bitCount_0f7a4_ok, tbJ6_ok, hA.1, hA.2⟩ (plainFor_of_name plJ6) (Nat.le_of_ble_eq_true rfl) ?_
  show jJ6_bitCount_0f7a4 X ads sk σ (0, [some (.inl x0)], [], σ) (some (fJ6_bitCount_0f7a4 x0))
  unfold fJ6_bitCount_0f7a4
  refine j_run 0 41 rfl ?_
  exact j_iret 41 rfl rfl rfl
abbrev jJ9_floorDiv_7cf53 (X : Cx) (ads : List Nat) (sk : List Sk) (σ : Sg) (ps : PS) (res : Option (Int)) : Prop := J X mJ9_floorDiv_7cf53 pJ9_floorDiv_7cf53 tbJ9 (rmD 0 0 0) 0 0 E0 (fun a => FM X mJ9_floorDiv_7cf53 ads sk ((wP σ) a)) ads sk ps res
theorem eJ9_floorDiv_7cf53 {X : Cx} {ads : List Nat} {sk : List Sk} (hA : ads.length = sk.length ∧ sk.length ≤ 1000) (x0 : Int) (x1 : Int) (σ : Sg) : CF X mJ9_floorDiv_7cf53 ads sk [.inl x0, .inl x1] σ (wP σ) (fJ9_floorDiv_7cf53 x0 x1) := by
  refine CF.of ⟨pJ9_floorDiv_7cf53_ok, tbJ9_ok, hA.1, hA.2⟩ plJ9_floorDiv_7cf53 (Nat.le_of_ble_eq_true rfl) ?_
  show jJ9_floorDiv_7cf53 X ads sk σ (0, [some (.inl x0), some (.inl x1), none], [], σ) (fJ9_floorDiv_7cf53 x0 x1)
  unfold fJ9_floorDiv_7cf53
  refine j_run 0 2 rfl ?_
  refine j_div 2 rfl ?_
  refine j_run 3 4 rfl ?_
  refine jc_if_ge 7 rfl rfl (fun h1 => ?_) (fun h1 => ?_)
  · refine j_run 8 4 rfl ?_
    refine jc_icmp_eq 12 rfl rfl (fun h2 => ?_) (fun h2 => ?_)
    · refine j_run 17 1 rfl ?_
      exact j_iret 18 rfl rfl rfl
    · refine j_run 13 3 rfl ?_
      exact j_iret 16 rfl rfl rfl
  · refine j_run 17 1 rfl ?_
    exact j_iret 18 rfl rfl rfl
