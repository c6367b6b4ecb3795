/-! each method does what its function says -/
abbrev jX2_copy (X : Cx) (ads : List Nat) (sk : List Sk) (ps : PS) (res : Option (Sg)) : Prop := J X mX2_copy pX2_copy tbX2 (rmD 1 0 0) 0 0 E0 (fun a => FM X mX2_copy ads sk (wV a)) ads sk ps res
theorem eX2_copy {X : Cx} {ads : List Nat} {sk : List Sk} (hA : ads.length = sk.length ∧ sk.length ≤ 1000) {c0 : Nat} (hp0 : ocL sk c0) {c1 : Nat} (hp1 : ocL sk c1) (σ : Sg) : CF X mX2_copy ads sk [.inr (some c0), .inr (some c1)] σ wV (fX2_copy c0 c1 σ) := by
  refine CF.of ⟨pX2_copy_ok, tbX2_ok, hA.1, hA.2⟩ (plainFor_of_name plX2) (Nat.le_of_ble_eq_true rfl) ?_
  show jX2_copy X ads sk (0, [some (.inr (some c0)), some (.inr (some c1))], [], σ) (fX2_copy c0 c1 σ)
  unfold fX2_copy
  refine j_run 0 2 rfl ?_
  refine j_gf 2 3 rfl rfl hp1.1 rfl ?_
  refine j_pf 3 3 rfl rfl hp0.1 rfl rfl (Or.inl rfl) ?_
  refine j_run 4 2 rfl ?_
  refine j_gf 6 7 rfl rfl hp1.1 rfl ?_
  refine j_pf 7 7 rfl rfl hp0.1 rfl rfl (Or.inl rfl) ?_
  refine j_run 8 1 rfl ?_
  refine j_gr 9 1 rfl rfl hp1.1 rfl ?_
  refine j_run 10 2 rfl ?_
  refine j_gr 12 1 rfl rfl hp0.1 rfl ?_
  refine j_run 13 2 rfl ?_
  refine j_gf 15 7 rfl rfl hp0.1 rfl ?_
  refine j_run 16 1 rfl ?_
  refine j_csT 17 3 2 rfl rfl mwJ9_min_7cf53 (eJ9_min_7cf53 hA (rd (wr (wr σ c0 6 (rd σ c1 6)) c0 7 (rd (wr σ c0 6 (rd σ c1 6)) c1 7)) c0 7) 400 _) rfl rfl (rok rfl rfl) (Nat.le_of_ble_eq_true rfl) (fun h1 => ?_)
  refine j_copyE (d := 1) 18 4 rfl rfl hp1.2.1 hp0.2.1 rfl rfl rfl ?_
  refine j_run 19 1 rfl ?_
  refine j_gr 20 4 rfl rfl hp1.1 rfl ?_
  refine j_run 21 2 rfl ?_
  refine j_gr 23 4 rfl rfl hp0.1 rfl ?_
  refine j_run 24 2 rfl ?_
  refine j_copyE (d := 1) 26 4 rfl rfl hp1.2.2.1 hp0.2.2.1 rfl rfl rfl ?_
  refine j_run 27 1 rfl ?_
  refine j_gr 28 6 rfl rfl hp1.1 rfl ?_
  refine j_run 29 2 rfl ?_
  refine j_gr 31 6 rfl rfl hp0.1 rfl ?_
  refine j_run 32 2 rfl ?_
  refine j_copyE (d := 1) 34 4 rfl rfl hp1.2.2.2.1 hp0.2.2.2.1 rfl rfl rfl ?_
  refine j_run 35 1 rfl ?_
  refine j_gr 36 5 rfl rfl hp1.1 rfl ?_
  refine j_run 37 2 rfl ?_
  refine j_gr 39 5 rfl rfl hp0.1 rfl ?_
  refine j_run 40 2 rfl ?_
  refine j_copyE (d := 1) 42 4 rfl rfl hp1.2.2.2.2.1 hp0.2.2.2.2.1 rfl rfl rfl ?_
  exact j_vret 43 rfl rfl rfl
abbrev jX3_keep (X : Cx) (ads : List Nat) (sk : List Sk) (ps : PS) (res : Option (Sg)) : Prop := J X mX3_keep pX3_keep tbX3 (rmD 1 0 0) 0 0 E0 (fun a => FM X mX3_keep ads sk (wV a)) ads sk ps res
theorem eX3_keep {X : Cx} {ads : List Nat} {sk : List Sk} (hA : ads.length = sk.length ∧ sk.length ≤ 1000) (hp0 : ocP sk) {c1 : Nat} (hp1 : ocW sk c1) (σ : Sg) : CF X mX3_keep ads sk [.inr (some 55), .inr (some c1)] σ wV (fX3_keep c1 σ) := by
  refine CF.of ⟨pX3_keep_ok, tbX3_ok, hA.1, hA.2⟩ (plainFor_of_name plX3) (Nat.le_of_ble_eq_true rfl) ?_
  show jX3_keep X ads sk (0, [some (.inr (some 55)), some (.inr (some c1)), none], [], σ) (fX3_keep c1 σ)
  unfold fX3_keep
  refine j_run 0 1 rfl ?_
  refine j_gr 1 0 rfl rfl hp1.1 rfl ?_
  refine j_run 2 2 rfl ?_
  refine j_gr 4 1 rfl rfl hp0.1 rfl ?_
  refine j_run 5 1 rfl ?_
  refine j_gf 6 2 rfl rfl hp0.1 rfl ?_
  refine j_run 7 3 rfl ?_
  refine j_copyE (d := 1) 10 0 rfl rfl hp1.2.1 hp0.2.1 rfl rfl rfl ?_
  refine j_run 11 1 rfl ?_
  refine j_gr 12 3 rfl rfl hp1.1 rfl ?_
  refine j_gr 13 4 rfl rfl hp1.2.2.2.1.1 rfl ?_
  refine j_run 14 2 rfl ?_
  refine j_gr 16 5 rfl rfl hp0.1 rfl ?_
  refine j_run 17 1 rfl ?_
  refine j_gf 18 2 rfl rfl hp0.1 rfl ?_
  refine j_run 19 3 rfl ?_
  refine j_copyE (d := 1) 22 0 rfl rfl hp1.2.2.2.1.2.2.2.2.2.1 hp0.2.2.1 rfl rfl rfl ?_
  refine j_run 23 1 rfl ?_
  refine j_gf 24 2 rfl rfl hp0.1 rfl ?_
  refine j_run 25 4 rfl ?_
  refine j_gr 29 6 rfl rfl hp0.1 rfl ?_
  refine j_run 30 2 rfl ?_
  refine j_gf 32 7 rfl rfl hp1.1 rfl ?_
  refine j_ast 33 rfl hp0.2.2.2 rfl ?_
  refine j_run 34 1 rfl ?_
  refine j_gr 35 6 rfl rfl hp0.1 rfl ?_
  refine j_run 36 4 rfl ?_
  refine j_gf 40 8 rfl rfl hp1.1 rfl ?_
  refine j_ast 41 rfl hp0.2.2.2 rfl ?_
  refine j_run 42 1 rfl ?_
  refine j_gr 43 6 rfl rfl hp0.1 rfl ?_
  refine j_run 44 4 rfl ?_
  refine j_gf 48 9 rfl rfl hp1.1 rfl ?_
  refine j_ast 49 rfl hp0.2.2.2 rfl ?_
  refine j_run 50 1 rfl ?_
  refine j_gr 51 6 rfl rfl hp0.1 rfl ?_
  refine j_run 52 4 rfl ?_
  refine j_gr 56 10 rfl rfl hp1.1 rfl ?_
  refine j_gf 57 11 rfl rfl hp1.2.2.2.2.2.2.2.2.2.1 rfl ?_
  refine j_ast 58 rfl hp0.2.2.2 rfl ?_
  refine j_run 59 2 rfl ?_
  refine j_gf 61 2 rfl rfl hp0.1 rfl ?_
  refine j_run 62 3 rfl ?_
  refine j_rem0 65 rfl (by decide) ?_
  refine j_pf 66 2 rfl rfl hp0.1 rfl rfl (Or.inl rfl) ?_
  refine j_run 67 2 rfl ?_
  refine j_gf 69 12 rfl rfl hp0.1 rfl ?_
  refine j_run 70 3 rfl ?_
  refine j_csT 73 1 2 rfl rfl mwJ9_min_7cf53 (eJ9_min_7cf53 hA (bw ((rd (wr (wr (wr (wr (wr (cpy (cpy σ (c1 + 1) 0 56 (bw ((rd σ 55 4) * 56)) 56) (c1 + 8) 0 57 (bw ((rd (cpy σ (c1 + 1) 0 56 (bw ((rd σ 55 4) * 56)) 56) 55 4) * 12)) 12) 58 (bw ((rd (cpy (cpy σ (c1 + 1) 0 56 (bw ((rd σ 55 4) * 56)) 56) (c1 + 8) 0 57 (bw ((rd (cpy σ (c1 + 1) 0 56 (bw ((rd σ 55 4) * 56)) 56) 55 4) * 12)) 12) 55 4) * 4)) (rd (cpy (cpy σ (c1 + 1) 0 56 (bw ((rd σ 55 4) * 56)) 56) (c1 + 8) 0 57 (bw ((rd (cpy σ (c1 + 1) 0 56 (bw ((rd σ 55 4) * 56)) 56) 55 4) * 12)) 12) c1 5)) 58 (bw ((bw ((rd (cpy (cpy σ (c1 + 1) 0 56 (bw ((rd σ 55 4) * 56)) 56) (c1 + 8) 0 57 (bw ((rd (cpy σ (c1 + 1) 0 56 (bw ((rd σ 55 4) * 56)) 56) 55 4) * 12)) 12) 55 4) * 4)) + 1)) (rd (wr (cpy (cpy σ (c1 + 1) 0 56 (bw ((rd σ 55 4) * 56)) 56) (c1 + 8) 0 57 (bw ((rd (cpy σ (c1 + 1) 0 56 (bw ((rd σ 55 4) * 56)) 56) 55 4) * 12)) 12) 58 (bw ((rd (cpy (cpy σ (c1 + 1) 0 56 (bw ((rd σ 55 4) * 56)) 56) (c1 + 8) 0 57 (bw ((rd (cpy σ (c1 + 1) 0 56 (bw ((rd σ 55 4) * 56)) 56) 55 4) * 12)) 12) 55 4) * 4)) (rd (cpy (cpy σ (c1 + 1) 0 56 (bw ((rd σ 55 4) * 56)) 56) (c1 + 8) 0 57 (bw ((rd (cpy σ (c1 + 1) 0 56 (bw ((rd σ 55 4) * 56)) 56) 55 4) * 12)) 12) c1 5)) c1 6)) 58 (bw ((bw ((rd (cpy (cpy σ (c1 + 1) 0 56 (bw ((rd σ 55 4) * 56)) 56) (c1 + 8) 0 57 (bw ((rd (cpy σ (c1 + 1) 0 56 (bw ((rd σ 55 4) * 56)) 56) 55 4) * 12)) 12) 55 4) * 4)) + 2)) (rd (wr (wr (cpy (cpy σ (c1 + 1) 0 56 (bw ((rd σ 55 4) * 56)) 56) (c1 + 8) 0 57 (bw ((rd (cpy σ (c1 + 1) 0 56 (bw ((rd σ 55 4) * 56)) 56) 55 4) * 12)) 12) 58 (bw ((rd (cpy (cpy σ (c1 + 1) 0 56 (bw ((rd σ 55 4) * 56)) 56) (c1 + 8) 0 57 (bw ((rd (cpy σ (c1 + 1) 0 56 (bw ((rd σ 55 4) * 56)) 56) 55 4) * 12)) 12) 55 4) * 4)) (rd (cpy (cpy σ (c1 + 1) 0 56 (bw ((rd σ 55 4) * 56)) 56) (c1 + 8) 0 57 (bw ((rd (cpy σ (c1 + 1) 0 56 (bw ((rd σ 55 4) * 56)) 56) 55 4) * 12)) 12) c1 5)) 58 (bw ((bw ((rd (cpy (cpy σ (c1 + 1) 0 56 (bw ((rd σ 55 4) * 56)) 56) (c1 + 8) 0 57 (bw ((rd (cpy σ (c1 + 1) 0 56 (bw ((rd σ 55 4) * 56)) 56) 55 4) * 12)) 12) 55 4) * 4)) + 1)) (rd (wr (cpy (cpy σ (c1 + 1) 0 56 (bw ((rd σ 55 4) * 56)) 56) (c1 + 8) 0 57 (bw ((rd (cpy σ (c1 + 1) 0 56 (bw ((rd σ 55 4) * 56)) 56) 55 4) * 12)) 12) 58 (bw ((rd (cpy (cpy σ (c1 + 1) 0 56 (bw ((rd σ 55 4) * 56)) 56) (c1 + 8) 0 57 (bw ((rd (cpy σ (c1 + 1) 0 56 (bw ((rd σ 55 4) * 56)) 56) 55 4) * 12)) 12) 55 4) * 4)) (rd (cpy (cpy σ (c1 + 1) 0 56 (bw ((rd σ 55 4) * 56)) 56) (c1 + 8) 0 57 (bw ((rd (cpy σ (c1 + 1) 0 56 (bw ((rd σ 55 4) * 56)) 56) 55 4) * 12)) 12) c1 5)) c1 6)) c1 7)) 58 (bw ((bw ((rd (cpy (cpy σ (c1 + 1) 0 56 (bw ((rd σ 55 4) * 56)) 56) (c1 + 8) 0 57 (bw ((rd (cpy σ (c1 + 1) 0 56 (bw ((rd σ 55 4) * 56)) 56) 55 4) * 12)) 12) 55 4) * 4)) + 3)) (rd (wr (wr (wr (cpy (cpy σ (c1 + 1) 0 56 (bw ((rd σ 55 4) * 56)) 56) (c1 + 8) 0 57 (bw ((rd (cpy σ (c1 + 1) 0 56 (bw ((rd σ 55 4) * 56)) 56) 55 4) * 12)) 12) 58 (bw ((rd (cpy (cpy σ (c1 + 1) 0 56 (bw ((rd σ 55 4) * 56)) 56) (c1 + 8) 0 57 (bw ((rd (cpy σ (c1 + 1) 0 56 (bw ((rd σ 55 4) * 56)) 56) 55 4) * 12)) 12) 55 4) * 4)) (rd (cpy (cpy σ (c1 + 1) 0 56 (bw ((rd σ 55 4) * 56)) 56) (c1 + 8) 0 57 (bw ((rd (cpy σ (c1 + 1) 0 56 (bw ((rd σ 55 4) * 56)) 56) 55 4) * 12)) 12) c1 5)) 58 (bw ((bw ((rd (cpy (cpy σ (c1 + 1) 0 56 (bw ((rd σ 55 4) * 56)) 56) (c1 + 8) 0 57 (bw ((rd (cpy σ (c1 + 1) 0 56 (bw ((rd σ 55 4) * 56)) 56) 55 4) * 12)) 12) 55 4) * 4)) + 1)) (rd (wr (cpy (cpy σ (c1 + 1) 0 56 (bw ((rd σ 55 4) * 56)) 56) (c1 + 8) 0 57 (bw ((rd (cpy σ (c1 + 1) 0 56 (bw ((rd σ 55 4) * 56)) 56) 55 4) * 12)) 12) 58 (bw ((rd (cpy (cpy σ (c1 + 1) 0 56 (bw ((rd σ 55 4) * 56)) 56) (c1 + 8) 0 57 (bw ((rd (cpy σ (c1 + 1) 0 56 (bw ((rd σ 55 4) * 56)) 56) 55 4) * 12)) 12) 55 4) * 4)) (rd (cpy (cpy σ (c1 + 1) 0 56 (bw ((rd σ 55 4) * 56)) 56) (c1 + 8) 0 57 (bw ((rd (cpy σ (c1 + 1) 0 56 (bw ((rd σ 55 4) * 56)) 56) 55 4) * 12)) 12) c1 5)) c1 6)) 58 (bw ((bw ((rd (cpy (cpy σ (c1 + 1) 0 56 (bw ((rd σ 55 4) * 56)) 56) (c1 + 8) 0 57 (bw ((rd (cpy σ (c1 + 1) 0 56 (bw ((rd σ 55 4) * 56)) 56) 55 4) * 12)) 12) 55 4) * 4)) + 2)) (rd (wr (wr (cpy (cpy σ (c1 + 1) 0 56 (bw ((rd σ 55 4) * 56)) 56) (c1 + 8) 0 57 (bw ((rd (cpy σ (c1 + 1) 0 56 (bw ((rd σ 55 4) * 56)) 56) 55 4) * 12)) 12) 58 (bw ((rd (cpy (cpy σ (c1 + 1) 0 56 (bw ((rd σ 55 4) * 56)) 56) (c1 + 8) 0 57 (bw ((rd (cpy σ (c1 + 1) 0 56 (bw ((rd σ 55 4) * 56)) 56) 55 4) * 12)) 12) 55 4) * 4)) (rd (cpy (cpy σ (c1 + 1) 0 56 (bw ((rd σ 55 4) * 56)) 56) (c1 + 8) 0 57 (bw ((rd (cpy σ (c1 + 1) 0 56 (bw ((rd σ 55 4) * 56)) 56) 55 4) * 12)) 12) c1 5)) 58 (bw ((bw ((rd (cpy (cpy σ (c1 + 1) 0 56 (bw ((rd σ 55 4) * 56)) 56) (c1 + 8) 0 57 (bw ((rd (cpy σ (c1 + 1) 0 56 (bw ((rd σ 55 4) * 56)) 56) 55 4) * 12)) 12) 55 4) * 4)) + 1)) (rd (wr (cpy (cpy σ (c1 + 1) 0 56 (bw ((rd σ 55 4) * 56)) 56) (c1 + 8) 0 57 (bw ((rd (cpy σ (c1 + 1) 0 56 (bw ((rd σ 55 4) * 56)) 56) 55 4) * 12)) 12) 58 (bw ((rd (cpy (cpy σ (c1 + 1) 0 56 (bw ((rd σ 55 4) * 56)) 56) (c1 + 8) 0 57 (bw ((rd (cpy σ (c1 + 1) 0 56 (bw ((rd σ 55 4) * 56)) 56) 55 4) * 12)) 12) 55 4) * 4)) (rd (cpy (cpy σ (c1 + 1) 0 56 (bw ((rd σ 55 4) * 56)) 56) (c1 + 8) 0 57 (bw ((rd (cpy σ (c1 + 1) 0 56 (bw ((rd σ 55 4) * 56)) 56) 55 4) * 12)) 12) c1 5)) c1 6)) c1 7)) (c1 + 25) 2)) 55 4 (trm (bw ((rd (wr (wr (wr (wr (cpy (cpy σ (c1 + 1) 0 56 (bw ((rd σ 55 4) * 56)) 56) (c1 + 8) 0 57 (bw ((rd (cpy σ (c1 + 1) 0 56 (bw ((rd σ 55 4) * 56)) 56) 55 4) * 12)) 12) 58 (bw ((rd (cpy (cpy σ (c1 + 1) 0 56 (bw ((rd σ 55 4) * 56)) 56) (c1 + 8) 0 57 (bw ((rd (cpy σ (c1 + 1) 0 56 (bw ((rd σ 55 4) * 56)) 56) 55 4) * 12)) 12) 55 4) * 4)) (rd (cpy (cpy σ (c1 + 1) 0 56 (bw ((rd σ 55 4) * 56)) 56) (c1 + 8) 0 57 (bw ((rd (cpy σ (c1 + 1) 0 56 (bw ((rd σ 55 4) * 56)) 56) 55 4) * 12)) 12) c1 5)) 58 (bw ((bw ((rd (cpy (cpy σ (c1 + 1) 0 56 (bw ((rd σ 55 4) * 56)) 56) (c1 + 8) 0 57 (bw ((rd (cpy σ (c1 + 1) 0 56 (bw ((rd σ 55 4) * 56)) 56) 55 4) * 12)) 12) 55 4) * 4)) + 1)) (rd (wr (cpy (cpy σ (c1 + 1) 0 56 (bw ((rd σ 55 4) * 56)) 56) (c1 + 8) 0 57 (bw ((rd (cpy σ (c1 + 1) 0 56 (bw ((rd σ 55 4) * 56)) 56) 55 4) * 12)) 12) 58 (bw ((rd (cpy (cpy σ (c1 + 1) 0 56 (bw ((rd σ 55 4) * 56)) 56) (c1 + 8) 0 57 (bw ((rd (cpy σ (c1 + 1) 0 56 (bw ((rd σ 55 4) * 56)) 56) 55 4) * 12)) 12) 55 4) * 4)) (rd (cpy (cpy σ (c1 + 1) 0 56 (bw ((rd σ 55 4) * 56)) 56) (c1 + 8) 0 57 (bw ((rd (cpy σ (c1 + 1) 0 56 (bw ((rd σ 55 4) * 56)) 56) 55 4) * 12)) 12) c1 5)) c1 6)) 58 (bw ((bw ((rd (cpy (cpy σ (c1 + 1) 0 56 (bw ((rd σ 55 4) * 56)) 56) (c1 + 8) 0 57 (bw ((rd (cpy σ (c1 + 1) 0 56 (bw ((rd σ 55 4) * 56)) 56) 55 4) * 12)) 12) 55 4) * 4)) + 2)) (rd (wr (wr (cpy (cpy σ (c1 + 1) 0 56 (bw ((rd σ 55 4) * 56)) 56) (c1 + 8) 0 57 (bw ((rd (cpy σ (c1 + 1) 0 56 (bw ((rd σ 55 4) * 56)) 56) 55 4) * 12)) 12) 58 (bw ((rd (cpy (cpy σ (c1 + 1) 0 56 (bw ((rd σ 55 4) * 56)) 56) (c1 + 8) 0 57 (bw ((rd (cpy σ (c1 + 1) 0 56 (bw ((rd σ 55 4) * 56)) 56) 55 4) * 12)) 12) 55 4) * 4)) (rd (cpy (cpy σ (c1 + 1) 0 56 (bw ((rd σ 55 4) * 56)) 56) (c1 + 8) 0 57 (bw ((rd (cpy σ (c1 + 1) 0 56 (bw ((rd σ 55 4) * 56)) 56) 55 4) * 12)) 12) c1 5)) 58 (bw ((bw ((rd (cpy (cpy σ (c1 + 1) 0 56 (bw ((rd σ 55 4) * 56)) 56) (c1 + 8) 0 57 (bw ((rd (cpy σ (c1 + 1) 0 56 (bw ((rd σ 55 4) * 56)) 56) 55 4) * 12)) 12) 55 4) * 4)) + 1)) (rd (wr (cpy (cpy σ (c1 + 1) 0 56 (bw ((rd σ 55 4) * 56)) 56) (c1 + 8) 0 57 (bw ((rd (cpy σ (c1 + 1) 0 56 (bw ((rd σ 55 4) * 56)) 56) 55 4) * 12)) 12) 58 (bw ((rd (cpy (cpy σ (c1 + 1) 0 56 (bw ((rd σ 55 4) * 56)) 56) (c1 + 8) 0 57 (bw ((rd (cpy σ (c1 + 1) 0 56 (bw ((rd σ 55 4) * 56)) 56) 55 4) * 12)) 12) 55 4) * 4)) (rd (cpy (cpy σ (c1 + 1) 0 56 (bw ((rd σ 55 4) * 56)) 56) (c1 + 8) 0 57 (bw ((rd (cpy σ (c1 + 1) 0 56 (bw ((rd σ 55 4) * 56)) 56) 55 4) * 12)) 12) c1 5)) c1 6)) c1 7)) 58 (bw ((bw ((rd (cpy (cpy σ (c1 + 1) 0 56 (bw ((rd σ 55 4) * 56)) 56) (c1 + 8) 0 57 (bw ((rd (cpy σ (c1 + 1) 0 56 (bw ((rd σ 55 4) * 56)) 56) 55 4) * 12)) 12) 55 4) * 4)) + 3)) (rd (wr (wr (wr (cpy (cpy σ (c1 + 1) 0 56 (bw ((rd σ 55 4) * 56)) 56) (c1 + 8) 0 57 (bw ((rd (cpy σ (c1 + 1) 0 56 (bw ((rd σ 55 4) * 56)) 56) 55 4) * 12)) 12) 58 (bw ((rd (cpy (cpy σ (c1 + 1) 0 56 (bw ((rd σ 55 4) * 56)) 56) (c1 + 8) 0 57 (bw ((rd (cpy σ (c1 + 1) 0 56 (bw ((rd σ 55 4) * 56)) 56) 55 4) * 12)) 12) 55 4) * 4)) (rd (cpy (cpy σ (c1 + 1) 0 56 (bw ((rd σ 55 4) * 56)) 56) (c1 + 8) 0 57 (bw ((rd (cpy σ (c1 + 1) 0 56 (bw ((rd σ 55 4) * 56)) 56) 55 4) * 12)) 12) c1 5)) 58 (bw ((bw ((rd (cpy (cpy σ (c1 + 1) 0 56 (bw ((rd σ 55 4) * 56)) 56) (c1 + 8) 0 57 (bw ((rd (cpy σ (c1 + 1) 0 56 (bw ((rd σ 55 4) * 56)) 56) 55 4) * 12)) 12) 55 4) * 4)) + 1)) (rd (wr (cpy (cpy σ (c1 + 1) 0 56 (bw ((rd σ 55 4) * 56)) 56) (c1 + 8) 0 57 (bw ((rd (cpy σ (c1 + 1) 0 56 (bw ((rd σ 55 4) * 56)) 56) 55 4) * 12)) 12) 58 (bw ((rd (cpy (cpy σ (c1 + 1) 0 56 (bw ((rd σ 55 4) * 56)) 56) (c1 + 8) 0 57 (bw ((rd (cpy σ (c1 + 1) 0 56 (bw ((rd σ 55 4) * 56)) 56) 55 4) * 12)) 12) 55 4) * 4)) (rd (cpy (cpy σ (c1 + 1) 0 56 (bw ((rd σ 55 4) * 56)) 56) (c1 + 8) 0 57 (bw ((rd (cpy σ (c1 + 1) 0 56 (bw ((rd σ 55 4) * 56)) 56) 55 4) * 12)) 12) c1 5)) c1 6)) 58 (bw ((bw ((rd (cpy (cpy σ (c1 + 1) 0 56 (bw ((rd σ 55 4) * 56)) 56) (c1 + 8) 0 57 (bw ((rd (cpy σ (c1 + 1) 0 56 (bw ((rd σ 55 4) * 56)) 56) 55 4) * 12)) 12) 55 4) * 4)) + 2)) (rd (wr (wr (cpy (cpy σ (c1 + 1) 0 56 (bw ((rd σ 55 4) * 56)) 56) (c1 + 8) 0 57 (bw ((rd (cpy σ (c1 + 1) 0 56 (bw ((rd σ 55 4) * 56)) 56) 55 4) * 12)) 12) 58 (bw ((rd (cpy (cpy σ (c1 + 1) 0 56 (bw ((rd σ 55 4) * 56)) 56) (c1 + 8) 0 57 (bw ((rd (cpy σ (c1 + 1) 0 56 (bw ((rd σ 55 4) * 56)) 56) 55 4) * 12)) 12) 55 4) * 4)) (rd (cpy (cpy σ (c1 + 1) 0 56 (bw ((rd σ 55 4) * 56)) 56) (c1 + 8) 0 57 (bw ((rd (cpy σ (c1 + 1) 0 56 (bw ((rd σ 55 4) * 56)) 56) 55 4) * 12)) 12) c1 5)) 58 (bw ((bw ((rd (cpy (cpy σ (c1 + 1) 0 56 (bw ((rd σ 55 4) * 56)) 56) (c1 + 8) 0 57 (bw ((rd (cpy σ (c1 + 1) 0 56 (bw ((rd σ 55 4) * 56)) 56) 55 4) * 12)) 12) 55 4) * 4)) + 1)) (rd (wr (cpy (cpy σ (c1 + 1) 0 56 (bw ((rd σ 55 4) * 56)) 56) (c1 + 8) 0 57 (bw ((rd (cpy σ (c1 + 1) 0 56 (bw ((rd σ 55 4) * 56)) 56) 55 4) * 12)) 12) 58 (bw ((rd (cpy (cpy σ (c1 + 1) 0 56 (bw ((rd σ 55 4) * 56)) 56) (c1 + 8) 0 57 (bw ((rd (cpy σ (c1 + 1) 0 56 (bw ((rd σ 55 4) * 56)) 56) 55 4) * 12)) 12) 55 4) * 4)) (rd (cpy (cpy σ (c1 + 1) 0 56 (bw ((rd σ 55 4) * 56)) 56) (c1 + 8) 0 57 (bw ((rd (cpy σ (c1 + 1) 0 56 (bw ((rd σ 55 4) * 56)) 56) 55 4) * 12)) 12) c1 5)) c1 6)) c1 7)) (c1 + 25) 2)) 55 4) + 1)) 6)) 55 3) + 1)) 6 _) rfl rfl (rok rfl rfl) (Nat.le_of_ble_eq_true rfl) (fun h1 => ?_)
  refine j_pf 74 12 rfl rfl hp0.1 rfl rfl (Or.inl rfl) ?_
  exact j_vret 75 rfl rfl rfl
abbrev jX3_giveBack (X : Cx) (ads : List Nat) (sk : List Sk) (ps : PS) (res : Option (Int × Sg)) : Prop := J X mX3_giveBack pX3_giveBack tbX3 (rmD 1 0 0) 0 0 E0 (fun a => FM X mX3_giveBack ads sk (wE a)) ads sk ps res
theorem eX3_giveBack {X : Cx} {ads : List Nat} {sk : List Sk} (hA : ads.length = sk.length ∧ sk.length ≤ 1000) (hp0 : ocP sk) {c1 : Nat} (hp1 : ocW sk c1) (σ : Sg) : CF X mX3_giveBack ads sk [.inr (some 55), .inr (some c1)] σ wE (fX3_giveBack c1 σ) := by
  refine CF.of ⟨pX3_giveBack_ok, tbX3_ok, hA.1, hA.2⟩ (plainFor_of_name plX3) (Nat.le_of_ble_eq_true rfl) ?_
  show jX3_giveBack X ads sk (0, [some (.inr (some 55)), some (.inr (some c1)), none], [], σ) (fX3_giveBack c1 σ)
  unfold fX3_giveBack
  refine j_run 0 1 rfl ?_
  refine j_gf 1 12 rfl rfl hp0.1 rfl ?_
  refine jc_if_gt 2 rfl rfl (fun h1 => ?_) (fun h1 => ?_)
  · refine j_run 5 2 rfl ?_
    refine j_gf 7 2 rfl rfl hp0.1 rfl ?_
    refine j_run 8 5 rfl ?_
    refine j_rem0 13 rfl (by decide) ?_
    refine j_pf 14 2 rfl rfl hp0.1 rfl rfl (Or.inl rfl) ?_
    refine j_run 15 2 rfl ?_
    refine j_gf 17 12 rfl rfl hp0.1 rfl ?_
    refine j_run 18 2 rfl ?_
    refine j_pf 20 12 rfl rfl hp0.1 rfl rfl (Or.inl rfl) ?_
    refine j_run 21 1 rfl ?_
    refine j_gr 22 1 rfl rfl hp0.1 rfl ?_
    refine j_run 23 1 rfl ?_
    refine j_gf 24 2 rfl rfl hp0.1 rfl ?_
    refine j_run 25 3 rfl ?_
    refine j_gr 28 0 rfl rfl hp1.1 rfl ?_
    refine j_run 29 2 rfl ?_
    refine j_copyE (d := 1) 31 0 rfl rfl hp0.2.1 hp1.2.1 rfl rfl rfl ?_
    refine j_run 32 1 rfl ?_
    refine j_gr 33 5 rfl rfl hp0.1 rfl ?_
    refine j_run 34 1 rfl ?_
    refine j_gf 35 2 rfl rfl hp0.1 rfl ?_
    refine j_run 36 3 rfl ?_
    refine j_gr 39 3 rfl rfl hp1.1 rfl ?_
    refine j_gr 40 4 rfl rfl hp1.2.2.2.1.1 rfl ?_
    refine j_run 41 2 rfl ?_
    refine j_copyE (d := 1) 43 0 rfl rfl hp0.2.2.1 hp1.2.2.2.1.2.2.2.2.2.1 rfl rfl rfl ?_
    refine j_run 44 1 rfl ?_
    refine j_gf 45 2 rfl rfl hp0.1 rfl ?_
    refine j_run 46 5 rfl ?_
    refine j_gr 51 6 rfl rfl hp0.1 rfl ?_
    refine j_run 52 1 rfl ?_
    refine j_ald 53 rfl hp0.2.2.2 rfl ?_
    refine j_pf 54 7 rfl rfl hp1.1 rfl rfl (Or.inl rfl) ?_
    refine j_run 55 2 rfl ?_
    refine j_gr 57 6 rfl rfl hp0.1 rfl ?_
    refine j_run 58 3 rfl ?_
    refine j_ald 61 rfl hp0.2.2.2 rfl ?_
    refine j_pf 62 8 rfl rfl hp1.1 rfl rfl (Or.inl rfl) ?_
    refine j_run 63 2 rfl ?_
    refine j_gr 65 6 rfl rfl hp0.1 rfl ?_
    refine j_run 66 3 rfl ?_
    refine j_ald 69 rfl hp0.2.2.2 rfl ?_
    refine j_pf 70 9 rfl rfl hp1.1 rfl rfl (Or.inl rfl) ?_
    refine j_run 71 1 rfl ?_
    refine j_gr 72 10 rfl rfl hp1.1 rfl ?_
    refine j_run 73 1 rfl ?_
    refine j_gr 74 6 rfl rfl hp0.1 rfl ?_
    refine j_run 75 3 rfl ?_
    refine j_ald 78 rfl hp0.2.2.2 rfl ?_
    refine j_pf 79 11 rfl rfl hp1.2.2.2.2.2.2.2.2.2.1 rfl rfl (Or.inl rfl) ?_
    refine j_run 80 1 rfl ?_
    exact j_zret 81 rfl rfl (by decide) rfl
  · refine j_run 3 1 rfl ?_
    exact j_zret 4 rfl rfl (by decide) rfl
abbrev jX9_rowsOf (X : Cx) (ads : List Nat) (sk : List Sk) (σ : Sg) (ps : PS) (res : Option (Nat)) : Prop := J X mX9_rowsOf pX9_rowsOf tbX9 (rmD 0 0 0) 0 0 E0 (fun a => FM X mX9_rowsOf ads sk ((wR σ) a)) ads sk ps res
theorem eX9_rowsOf {X : Cx} {ads : List Nat} {sk : List Sk} (hA : ads.length = sk.length ∧ sk.length ≤ 1000) {c0 : Nat} (hp0 : ocW sk c0) (x1 : Int) (σ : Sg) : CF X mX9_rowsOf ads sk [.inr (some c0), .inl x1] σ (wR σ) (some (fX9_rowsOf c0 x1)) := by
  refine CF.of ⟨pX9_rowsOf_ok, tbX9_ok, hA.1, hA.2⟩ (plainFor_of_name plX9) (Nat.le_of_ble_eq_true rfl) ?_
  show jX9_rowsOf X ads sk σ (0, [some (.inr (some c0)), some (.inl x1)], [], σ) (some (fX9_rowsOf c0 x1))
  unfold fX9_rowsOf
  refine j_run 0 2 rfl ?_
  refine jt_icmp_ne 2 rfl rfl (fun h1 => ?_) (fun h1 => ?_)
  · refine j_run 3 1 rfl ?_
    refine j_gr 4 7 rfl rfl hp0.1 rfl ?_
    exact j_aret 5 rfl rfl rfl
  · refine j_run 6 2 rfl ?_
    refine jt_icmp_ne 8 rfl rfl (fun h2 => ?_) (fun h2 => ?_)
    · refine j_run 9 1 rfl ?_
      refine j_gr 10 8 rfl rfl hp0.1 rfl ?_
      refine j_goto 11 rfl rfl ?_
      exact j_aret 14 rfl rfl rfl
    · refine j_run 12 1 rfl ?_
      refine j_gr 13 9 rfl rfl hp0.1 rfl ?_
      exact j_aret 14 rfl rfl rfl
abbrev jX4_refuse (X : Cx) (ads : List Nat) (sk : List Sk) (ps : PS) (res : Option (Int × Sg)) : Prop := J X mX4_refuse pX4_refuse tbX4 (rmD 0 0 0) 0 0 E0 (fun a => FM X mX4_refuse ads sk (wE a)) ads sk ps res
theorem eX4_refuse {X : Cx} {ads : List Nat} {sk : List Sk} (hA : ads.length = sk.length ∧ sk.length ≤ 1000) (hp0 : ocD sk) (x1 : Int) (σ : Sg) : CF X mX4_refuse ads sk [.inr (some 64), .inl x1] σ wE (fX4_refuse x1 σ) := by
  refine CF.of ⟨pX4_refuse_ok, tbX4_ok, hA.1, hA.2⟩ (plainFor_of_name plX4) (Nat.le_of_ble_eq_true rfl) ?_
  show jX4_refuse X ads sk (0, [some (.inr (some 64)), some (.inl x1)], [], σ) (fX4_refuse x1 σ)
  unfold fX4_refuse
  refine j_run 0 2 rfl ?_
  refine j_pf 2 0 rfl rfl hp0.1 rfl rfl (Or.inl rfl) ?_
  refine j_run 3 1 rfl ?_
  exact j_zret 4 rfl rfl (by decide) rfl
abbrev jX4_pass (X : Cx) (ads : List Nat) (sk : List Sk) (ps : PS) (res : Option (Sg)) : Prop := J X mX4_pass pX4_pass tbX4 (rmD 0 0 0) 0 0 E0 (fun a => FM X mX4_pass ads sk (wV a)) ads sk ps res
theorem eX4_pass {X : Cx} {ads : List Nat} {sk : List Sk} (hA : ads.length = sk.length ∧ sk.length ≤ 1000) (hp0 : ocD sk) (σ : Sg) : CF X mX4_pass ads sk [.inr (some 64)] σ wV (fX4_pass σ) := by
  refine CF.of ⟨pX4_pass_ok, tbX4_ok, hA.1, hA.2⟩ (plainFor_of_name plX4) (Nat.le_of_ble_eq_true rfl) ?_
  show jX4_pass X ads sk (0, [some (.inr (some 64))], [], σ) (fX4_pass σ)
  unfold fX4_pass
  refine j_run 0 1 rfl ?_
  refine j_gf 1 1 rfl rfl hp0.1 rfl ?_
  refine j_run 2 1 rfl ?_
  refine jc_icmp_ge 3 rfl rfl (fun h1 => ?_) (fun h1 => ?_)
  · refine j_run 4 2 rfl ?_
    refine j_gf 6 1 rfl rfl hp0.1 rfl ?_
    refine j_run 7 2 rfl ?_
    refine j_pf 9 1 rfl rfl hp0.1 rfl rfl (Or.inl rfl) ?_
    refine j_run 10 2 rfl ?_
    refine j_gr 12 2 rfl rfl hp0.1 rfl ?_
    refine j_gr 13 3 rfl rfl hp0.2.1.1 rfl ?_
    refine j_run 14 1 rfl ?_
    refine j_gf 15 1 rfl rfl hp0.1 rfl ?_
    refine j_ald 16 rfl hp0.2.1.2.2.1 rfl ?_
    refine j_pf 17 4 rfl rfl hp0.1 rfl rfl (Or.inl rfl) ?_
    exact j_vret 18 rfl rfl rfl
  · refine j_run 10 2 rfl ?_
    refine j_gr 12 2 rfl rfl hp0.1 rfl ?_
    refine j_gr 13 3 rfl rfl hp0.2.1.1 rfl ?_
    refine j_run 14 1 rfl ?_
    refine j_gf 15 1 rfl rfl hp0.1 rfl ?_
    refine j_ald 16 rfl hp0.2.1.2.2.1 rfl ?_
    refine j_pf 17 4 rfl rfl hp0.1 rfl rfl (Or.inl rfl) ?_
    exact j_vret 18 rfl rfl rfl
abbrev jX4_readsUnit (X : Cx) (ads : List Nat) (sk : List Sk) (ps : PS) (res : Option (Int × Sg)) : Prop := J X mX4_readsUnit pX4_readsUnit tbX4 (rmD 1 0 0) 0 0 E0 (fun a => FM X mX4_readsUnit ads sk (wE a)) ads sk ps res
theorem JX4_readsUnit_J73 {X : Cx} {ads : List Nat} {sk : List Sk} (hA : ads.length = sk.length ∧ sk.length ≤ 1000) (hp0 : ocD sk) (σ : Sg) : jX4_readsUnit X ads sk (73, [some (.inr (some 64))], [], σ) (fX4_readsUnit_J73 σ) := by
  unfold fX4_readsUnit_J73
  refine j_run 33 1 rfl ?_
  refine j_cv 34 0 0 rfl rfl mwX4_pass hp0.1 rfl rfl (eX4_pass hA hp0 _) rfl rfl (rok rfl rfl) (Nat.le_of_ble_eq_true rfl) (fun s1 _ h1 => ?_)
  refine j_run 35 1 rfl ?_
  exact j_zret 36 rfl rfl (by decide) rfl
theorem eX4_readsUnit {X : Cx} {ads : List Nat} {sk : List Sk} (hA : ads.length = sk.length ∧ sk.length ≤ 1000) (hp0 : ocD sk) (σ : Sg) : CF X mX4_readsUnit ads sk [.inr (some 64)] σ wE (fX4_readsUnit σ) := by
  refine CF.of ⟨pX4_readsUnit_ok, tbX4_ok, hA.1, hA.2⟩ (plainFor_of_name plX4) (Nat.le_of_ble_eq_true rfl) ?_
  show jX4_readsUnit X ads sk (0, [some (.inr (some 64))], [], σ) (fX4_readsUnit σ)
  unfold fX4_readsUnit
  refine j_run 0 1 rfl ?_
  refine j_gf 1 4 rfl rfl hp0.1 rfl ?_
  refine j_run 2 1 rfl ?_
  refine jc_icmp_ne 3 rfl rfl (fun h2 => ?_) (fun h2 => ?_)
  · refine j_run 4 1 rfl ?_
    refine j_gr 5 5 rfl rfl hp0.1 rfl ?_
    refine j_gr 6 6 rfl rfl hp0.2.2.2.1 rfl ?_
    refine j_run 7 1 rfl ?_
    refine j_gr 8 2 rfl rfl hp0.1 rfl ?_
    refine j_gr 9 7 rfl rfl hp0.2.1.1 rfl ?_
    refine j_run 10 1 rfl ?_
    refine j_gf 11 1 rfl rfl hp0.1 rfl ?_
    refine j_ald 12 rfl hp0.2.1.2.2.2.1 rfl ?_
    refine j_cv 13 1 1 rfl rfl mwX2_put hp0.2.2.2.2.2.2.2.1.1 rfl rfl (eX2_put hA hp0.2.2.2.2.2.2.2.1 (rd σ 62 (rd σ 64 5)) _) rfl rfl (rok rfl rfl) (Nat.le_of_ble_eq_true rfl) (fun s3 _ h3 => ?_)
    refine j_goto 14 rfl rfl ?_
    exact j_weak (leP_s (leP_z)) (JX4_readsUnit_J73 hA hp0 _)
  · refine j_run 15 1 rfl ?_
    refine j_gf 16 4 rfl rfl hp0.1 rfl ?_
    refine j_run 17 1 rfl ?_
    refine jc_icmp_lt 18 rfl rfl (fun h4 => ?_) (fun h4 => ?_)
    · refine j_run 31 1 rfl ?_
      exact j_zret 32 rfl rfl (by decide) rfl
    · refine j_run 19 1 rfl ?_
      refine j_gf 20 4 rfl rfl hp0.1 rfl ?_
      refine j_run 21 1 rfl ?_
      refine jc_icmp_gt 22 rfl rfl (fun h5 => ?_) (fun h5 => ?_)
      · refine j_run 31 1 rfl ?_
        exact j_zret 32 rfl rfl (by decide) rfl
      · refine j_run 23 1 rfl ?_
        refine j_gr 24 5 rfl rfl hp0.1 rfl ?_
        refine j_gr 25 6 rfl rfl hp0.2.2.2.1 rfl ?_
        refine j_run 26 1 rfl ?_
        refine j_gf 27 4 rfl rfl hp0.1 rfl ?_
        refine j_csT 28 2 1 rfl rfl mwX2_codeOfName (eX2_codeOfName hA (rd σ 64 6) _) rfl rfl (rok rfl rfl) (Nat.le_of_ble_eq_true rfl) (fun h6 => ?_)
        refine j_cv 29 1 1 rfl rfl mwX2_put hp0.2.2.2.2.2.2.2.1.1 rfl rfl (eX2_put hA hp0.2.2.2.2.2.2.2.1 (fX2_codeOfName (rd σ 64 6)) _) rfl rfl (rok rfl rfl) (Nat.le_of_ble_eq_true rfl) (fun s7 _ h7 => ?_)
        refine j_goto 30 rfl rfl ?_
        exact j_weak (leP_s (leP_z)) (JX4_readsUnit_J73 hA hp0 _)
abbrev jX4_readsSum (X : Cx) (ads : List Nat) (sk : List Sk) (ps : PS) (res : Option (Int × Sg)) : Prop := J X mX4_readsSum pX4_readsSum tbX4 (rmD 2 0 0) 0 0 E0 (fun a => FM X mX4_readsSum ads sk (wE a)) ads sk ps res
theorem JX4_readsSum_J175 {X : Cx} {ads : List Nat} {sk : List Sk} (hA : ads.length = sk.length ∧ sk.length ≤ 1000) (hp0 : ocD sk) (x1 : Int) (x2 : Int) (x3 : Int) (k6 : Int → Int → Int → Sg → Option (Int × Sg)) (hk6 : ∀ (x1 : Int) (x2 : Int) (x3 : Int) (σ : Sg), jX4_readsSum X ads sk (6, [some (.inr (some 64)), some (.inl x1), some (.inl x2), some (.inl x3)], [], σ) (k6 x1 x2 x3 σ)) (σ : Sg) : jX4_readsSum X ads sk (175, [some (.inr (some 64)), some (.inl x1), some (.inl x2), some (.inl x3)], [], σ) (fX4_readsSum_J175 k6 x1 x2 x3 σ) := by
  unfold fX4_readsSum_J175
  refine j_run 89 1 rfl ?_
  refine j_cv 90 0 0 rfl rfl mwX4_pass hp0.1 rfl rfl (eX4_pass hA hp0 _) rfl rfl (rok rfl rfl) (Nat.le_of_ble_eq_true rfl) (fun s4 _ h4 => ?_)
  refine j_run 91 1 rfl ?_
  refine j_goto 92 rfl rfl ?_
  exact j_weak (leP_s (leP_s (leP_s (leP_s (leP_z))))) (hk6 x1 x2 (bw (x3 + 1)) _)
theorem JX4_readsSum_J165 {X : Cx} {ads : List Nat} {sk : List Sk} (hA : ads.length = sk.length ∧ sk.length ≤ 1000) (hp0 : ocD sk) (x1 : Int) (x3 : Int) (k6 : Int → Int → Int → Sg → Option (Int × Sg)) (hk6 : ∀ (x1 : Int) (x2 : Int) (x3 : Int) (σ : Sg), jX4_readsSum X ads sk (6, [some (.inr (some 64)), some (.inl x1), some (.inl x2), some (.inl x3)], [], σ) (k6 x1 x2 x3 σ)) (x2 : Int) (σ : Sg) : jX4_readsSum X ads sk (165, [some (.inr (some 64)), some (.inl x1), some (.inl x2), some (.inl x3)], [], σ) (fX4_readsSum_J165 k6 x1 x3 x2 σ) := by
  unfold fX4_readsSum_J165
  refine j_run 83 1 rfl ?_
  refine jc_if_ne 84 rfl rfl (fun h5 => ?_) (fun h5 => ?_)
  · refine j_run 85 1 rfl ?_
    refine jc_if_ne 86 rfl rfl (fun h6 => ?_) (fun h6 => ?_)
    · refine j_run 87 1 rfl ?_
      exact j_zret 88 rfl rfl (by decide) rfl
    · exact j_weak (leP_s (leP_s (leP_s (leP_s (leP_z))))) (JX4_readsSum_J175 hA hp0 x1 x2 x3 _ hk6 _)
  · exact j_weak (leP_s (leP_s (leP_s (leP_s (leP_z))))) (JX4_readsSum_J175 hA hp0 x1 x2 x3 _ hk6 _)
theorem JX4_readsSum_J138 {X : Cx} {ads : List Nat} {sk : List Sk} (hA : ads.length = sk.length ∧ sk.length ≤ 1000) (hp0 : ocD sk) (x1 : Int) (x3 : Int) (k165 : Int → Sg → Option (Int × Sg)) (hk165 : ∀ (x2 : Int) (σ : Sg), jX4_readsSum X ads sk (165, [some (.inr (some 64)), some (.inl x1), some (.inl x2), some (.inl x3)], [], σ) (k165 x2 σ)) (σ : Sg) : jX4_readsSum X ads sk (138, [some (.inr (some 64)), some (.inl x1), none, some (.inl x3)], [], σ) (fX4_readsSum_J138 k165 x1 x3 σ) := by
  unfold fX4_readsSum_J138
  refine j_run 70 1 rfl ?_
  refine j_gf 71 4 rfl rfl hp0.1 rfl ?_
  refine j_run 72 1 rfl ?_
  refine jc_icmp_eq 73 rfl rfl (fun h8 => ?_) (fun h8 => ?_)
  · refine j_run 78 1 rfl ?_
    refine j_gf 79 4 rfl rfl hp0.1 rfl ?_
    refine j_goto 80 rfl rfl ?_
    refine j_run 82 1 rfl ?_
    exact j_weak (leP_s (leP_s (leP_s (leP_s (leP_z))))) (hk165 (rd σ 64 6) _)
  · refine j_run 74 1 rfl ?_
    refine j_gf 75 4 rfl rfl hp0.1 rfl ?_
    refine j_run 76 1 rfl ?_
    refine jc_icmp_ne 77 rfl rfl (fun h9 => ?_) (fun h9 => ?_)
    · refine j_run 78 1 rfl ?_
      refine j_gf 79 4 rfl rfl hp0.1 rfl ?_
      refine j_goto 80 rfl rfl ?_
      refine j_run 82 1 rfl ?_
      exact j_weak (leP_s (leP_s (leP_s (leP_s (leP_z))))) (hk165 (rd σ 64 6) _)
    · refine j_run 81 1 rfl ?_
      refine j_run 82 1 rfl ?_
      exact j_weak (leP_s (leP_s (leP_s (leP_s (leP_z))))) (hk165 0 _)
theorem JX4_readsSum_J115 {X : Cx} {ads : List Nat} {sk : List Sk} (hA : ads.length = sk.length ∧ sk.length ≤ 1000) (hp0 : ocD sk) (x2 : Int) (x3 : Int) (k6 : Int → Int → Int → Sg → Option (Int × Sg)) (hk6 : ∀ (x1 : Int) (x2 : Int) (x3 : Int) (σ : Sg), jX4_readsSum X ads sk (6, [some (.inr (some 64)), some (.inl x1), some (.inl x2), some (.inl x3)], [], σ) (k6 x1 x2 x3 σ)) (y0 : Int) (σ : Sg) : jX4_readsSum X ads sk (115, [some (.inr (some 64)), none, some (.inl x2), some (.inl x3)], [.inl y0], σ) (fX4_readsSum_J115 k6 x2 x3 y0 σ) := by
  unfold fX4_readsSum_J115
  refine j_run 59 2 rfl ?_
  refine jc_if_ne 61 rfl rfl (fun h7 => ?_) (fun h7 => ?_)
  · refine j_run 62 1 rfl ?_
    refine jc_if_eq 63 rfl rfl (fun h10 => ?_) (fun h10 => ?_)
    · exact j_weak (leP_s (leP_s (leP_n (leP_s (leP_z))))) (JX4_readsSum_J138 hA hp0 y0 x3 _ (JX4_readsSum_J165 hA hp0 y0 x3 _ hk6) _)
    · refine j_run 64 1 rfl ?_
      refine j_gr 65 5 rfl rfl hp0.1 rfl ?_
      refine j_gr 66 6 rfl rfl hp0.2.2.2.1 rfl ?_
      refine j_run 67 1 rfl ?_
      refine j_csT 68 4 1 rfl rfl mwX2_codeOfJoint (eX2_codeOfJoint hA x2 _) rfl rfl (rok rfl rfl) (Nat.le_of_ble_eq_true rfl) (fun h11 => ?_)
      refine j_cv 69 1 1 rfl rfl mwX2_put hp0.2.2.2.2.2.2.2.1.1 rfl rfl (eX2_put hA hp0.2.2.2.2.2.2.2.1 (fX2_codeOfJoint x2) _) rfl rfl (rok rfl rfl) (Nat.le_of_ble_eq_true rfl) (fun s12 _ h12 => ?_)
      exact j_weak (leP_s (leP_s (leP_n (leP_s (leP_z))))) (JX4_readsSum_J138 hA hp0 y0 x3 _ (JX4_readsSum_J165 hA hp0 y0 x3 _ hk6) _)
  · exact j_weak (leP_s (leP_s (leP_s (leP_s (leP_z))))) (JX4_readsSum_J165 hA hp0 y0 x3 _ hk6 x2 _)
theorem JX4_readsSum_J107 {X : Cx} {ads : List Nat} {sk : List Sk} (hA : ads.length = sk.length ∧ sk.length ≤ 1000) (hp0 : ocD sk) (x2 : Int) (x3 : Int) (k115 : Int → Sg → Option (Int × Sg)) (hk115 : ∀ (y0 : Int) (σ : Sg), jX4_readsSum X ads sk (115, [some (.inr (some 64)), none, some (.inl x2), some (.inl x3)], [.inl y0], σ) (k115 y0 σ)) (σ : Sg) : jX4_readsSum X ads sk (107, [some (.inr (some 64)), none, some (.inl x2), some (.inl x3)], [], σ) (fX4_readsSum_J107 k115 x2 x3 σ) := by
  unfold fX4_readsSum_J107
  refine j_run 55 1 rfl ?_
  refine j_gf 56 4 rfl rfl hp0.1 rfl ?_
  refine j_goto 57 rfl rfl ?_
  exact j_weak (leP_s (leP_n (leP_s (leP_s (leP_z))))) (hk115 (rd σ 64 6) _)
theorem JX4_readsSum_J89 {X : Cx} {ads : List Nat} {sk : List Sk} (hA : ads.length = sk.length ∧ sk.length ≤ 1000) (hp0 : ocD sk) (x2 : Int) (x3 : Int) (k6 : Int → Int → Int → Sg → Option (Int × Sg)) (hk6 : ∀ (x1 : Int) (x2 : Int) (x3 : Int) (σ : Sg), jX4_readsSum X ads sk (6, [some (.inr (some 64)), some (.inl x1), some (.inl x2), some (.inl x3)], [], σ) (k6 x1 x2 x3 σ)) (σ : Sg) : jX4_readsSum X ads sk (89, [some (.inr (some 64)), none, some (.inl x2), some (.inl x3)], [], σ) (fX4_readsSum_J89 k6 x2 x3 σ) := by
  unfold fX4_readsSum_J89
  refine j_run 47 1 rfl ?_
  refine j_gf 48 4 rfl rfl hp0.1 rfl ?_
  refine j_run 49 1 rfl ?_
  refine jc_icmp_eq 50 rfl rfl (fun h13 => ?_) (fun h13 => ?_)
  · exact j_weak (leP_s (leP_n (leP_s (leP_s (leP_z))))) (JX4_readsSum_J107 hA hp0 x2 x3 _ (JX4_readsSum_J115 hA hp0 x2 x3 _ hk6) _)
  · refine j_run 51 1 rfl ?_
    refine j_gf 52 4 rfl rfl hp0.1 rfl ?_
    refine j_run 53 1 rfl ?_
    refine jc_icmp_ne 54 rfl rfl (fun h14 => ?_) (fun h14 => ?_)
    · exact j_weak (leP_s (leP_n (leP_s (leP_s (leP_z))))) (JX4_readsSum_J107 hA hp0 x2 x3 _ (JX4_readsSum_J115 hA hp0 x2 x3 _ hk6) _)
    · refine j_run 58 1 rfl ?_
      exact j_weak (leP_s (leP_n (leP_s (leP_s (leP_z))))) (JX4_readsSum_J115 hA hp0 x2 x3 _ hk6 0 _)
theorem JX4_readsSum_J62 {X : Cx} {ads : List Nat} {sk : List Sk} (hA : ads.length = sk.length ∧ sk.length ≤ 1000) (hp0 : ocD sk) (x1 : Int) (x2 : Int) (x3 : Int) (k6 : Int → Int → Int → Sg → Option (Int × Sg)) (hk6 : ∀ (x1 : Int) (x2 : Int) (x3 : Int) (σ : Sg), jX4_readsSum X ads sk (6, [some (.inr (some 64)), some (.inl x1), some (.inl x2), some (.inl x3)], [], σ) (k6 x1 x2 x3 σ)) (σ : Sg) : jX4_readsSum X ads sk (62, [some (.inr (some 64)), some (.inl x1), some (.inl x2), some (.inl x3)], [], σ) (fX4_readsSum_J62 k6 x1 x2 x3 σ) := by
  unfold fX4_readsSum_J62
  refine j_run 34 1 rfl ?_
  refine j_cv 35 3 0 rfl rfl mwX4_readsUnit hp0.1 rfl rfl (eX4_readsUnit hA hp0 _) rfl rfl (rok rfl rfl) (Nat.le_of_ble_eq_true rfl) (fun q2 _ h2 => ?_)
  refine jc_if_ne 36 rfl rfl (fun h3 => ?_) (fun h3 => ?_)
  · refine j_run 37 1 rfl ?_
    exact j_zret 38 rfl rfl (by decide) rfl
  · refine j_run 39 1 rfl ?_
    refine jc_if_eq 40 rfl rfl (fun h15 => ?_) (fun h15 => ?_)
    · exact j_weak (leP_s (leP_n (leP_s (leP_s (leP_z))))) (JX4_readsSum_J89 hA hp0 x2 x3 _ hk6 _)
    · refine j_run 41 1 rfl ?_
      refine j_gr 42 5 rfl rfl hp0.1 rfl ?_
      refine j_gr 43 6 rfl rfl hp0.2.2.2.1 rfl ?_
      refine j_run 44 1 rfl ?_
      refine j_csT 45 4 1 rfl rfl mwX2_codeOfJoint (eX2_codeOfJoint hA x1 _) rfl rfl (rok rfl rfl) (Nat.le_of_ble_eq_true rfl) (fun h16 => ?_)
      refine j_cv 46 1 1 rfl rfl mwX2_put hp0.2.2.2.2.2.2.2.1.1 rfl rfl (eX2_put hA hp0.2.2.2.2.2.2.2.1 (fX2_codeOfJoint x1) _) rfl rfl (rok rfl rfl) (Nat.le_of_ble_eq_true rfl) (fun s17 _ h17 => ?_)
      exact j_weak (leP_s (leP_n (leP_s (leP_s (leP_z))))) (JX4_readsSum_J89 hA hp0 x2 x3 _ hk6 _)
theorem JX4_readsSum_J48 {X : Cx} {ads : List Nat} {sk : List Sk} (hA : ads.length = sk.length ∧ sk.length ≤ 1000) (hp0 : ocD sk) (x1 : Int) (x2 : Int) (x3 : Int) (k6 : Int → Int → Int → Sg → Option (Int × Sg)) (hk6 : ∀ (x1 : Int) (x2 : Int) (x3 : Int) (σ : Sg), jX4_readsSum X ads sk (6, [some (.inr (some 64)), some (.inl x1), some (.inl x2), some (.inl x3)], [], σ) (k6 x1 x2 x3 σ)) (σ : Sg) : jX4_readsSum X ads sk (48, [some (.inr (some 64)), some (.inl x1), some (.inl x2), some (.inl x3)], [], σ) (fX4_readsSum_J48 k6 x1 x2 x3 σ) := by
  unfold fX4_readsSum_J48
  refine j_run 27 2 rfl ?_
  refine jc_icmp_ne 29 rfl rfl (fun h18 => ?_) (fun h18 => ?_)
  · refine j_run 30 1 rfl ?_
    refine j_gf 31 4 rfl rfl hp0.1 rfl ?_
    refine j_run 32 1 rfl ?_
    refine jc_icmp_ne 33 rfl rfl (fun h19 => ?_) (fun h19 => ?_)
    · exact j_weak (leP_s (leP_s (leP_s (leP_s (leP_z))))) (JX4_readsSum_J62 hA hp0 x1 x2 x3 _ hk6 _)
    · refine j_run 37 1 rfl ?_
      exact j_zret 38 rfl rfl (by decide) rfl
  · exact j_weak (leP_s (leP_s (leP_s (leP_s (leP_z))))) (JX4_readsSum_J62 hA hp0 x1 x2 x3 _ hk6 _)
theorem JX4_readsSum_L6 {X : Cx} {ads : List Nat} {sk : List Sk} (hA : ads.length = sk.length ∧ sk.length ≤ 1000) (hp0 : ocD sk) (k42 : Sg → Option (Int × Sg)) (hk42 : ∀  (σ : Sg), jX4_readsSum X ads sk (42, [some (.inr (some 64)), none, none, none], [], σ) (k42 σ)) : ∀ (n : Nat) (x1 : Int) (x2 : Int) (x3 : Int) (σ : Sg), jX4_readsSum X ads sk (6, [some (.inr (some 64)), some (.inl x1), some (.inl x2), some (.inl x3)], [], σ) (fX4_readsSum_L6 k42 n x1 x2 x3 σ) := by
  intro n
  induction n with
  | zero => intro x1 x2 x3 σ; exact j_none
  | succ n ih =>
    intro x1 x2 x3 σ
    rw [fX4_readsSum_L6]
    refine j_run 6 2 rfl ?_
    refine jc_icmp_gt 8 rfl rfl (fun h1 => ?_) (fun h1 => ?_)
    · refine j_run 93 1 rfl ?_
      exact j_zret 94 rfl rfl (by decide) rfl
    · refine j_run 9 2 rfl ?_
      refine jc_icmp_ne 11 rfl rfl (fun h20 => ?_) (fun h20 => ?_)
      · refine j_run 12 1 rfl ?_
        refine j_gf 13 4 rfl rfl hp0.1 rfl ?_
        refine j_run 14 1 rfl ?_
        refine jc_icmp_ne 15 rfl rfl (fun h21 => ?_) (fun h21 => ?_)
        · refine j_run 16 1 rfl ?_
          refine j_gr 17 2 rfl rfl hp0.1 rfl ?_
          refine j_gr 18 7 rfl rfl hp0.2.1.1 rfl ?_
          refine j_run 19 1 rfl ?_
          refine j_gf 20 1 rfl rfl hp0.1 rfl ?_
          refine j_ald 21 rfl hp0.2.1.2.2.2.1 rfl ?_
          refine jc_if_ne 22 rfl rfl (fun h22 => ?_) (fun h22 => ?_)
          · exact j_weak (leP_s (leP_n (leP_n (leP_n (leP_z))))) (hk42 _)
          · exact j_weak (leP_s (leP_s (leP_s (leP_s (leP_z))))) (JX4_readsSum_J48 hA hp0 x1 x2 x3 _ ih _)
        · exact j_weak (leP_s (leP_s (leP_s (leP_s (leP_z))))) (JX4_readsSum_J48 hA hp0 x1 x2 x3 _ ih _)
      · exact j_weak (leP_s (leP_s (leP_s (leP_s (leP_z))))) (JX4_readsSum_J48 hA hp0 x1 x2 x3 _ ih _)
theorem eX4_readsSum {X : Cx} {ads : List Nat} {sk : List Sk} (hA : ads.length = sk.length ∧ sk.length ≤ 1000) (hp0 : ocD sk) (σ : Sg) : CF X mX4_readsSum ads sk [.inr (some 64)] σ wE (fX4_readsSum σ) := by
  refine CF.of ⟨pX4_readsSum_ok, tbX4_ok, hA.1, hA.2⟩ (plainFor_of_name plX4) (Nat.le_of_ble_eq_true rfl) ?_
  show jX4_readsSum X ads sk (0, [some (.inr (some 64)), none, none, none], [], σ) (fX4_readsSum σ)
  unfold fX4_readsSum
  refine j_run 0 6 rfl ?_
  refine j_weak (leP_s (leP_s (leP_s (leP_s (leP_z))))) (JX4_readsSum_L6 hA hp0 _ (fun s23 => ?_) FU 0 0 0 _)
  refine j_run 23 2 rfl ?_
  refine j_cv 25 5 1 rfl rfl mwX4_refuse hp0.1 rfl rfl (eX4_refuse hA hp0 2 _) rfl rfl (rok rfl rfl) (Nat.le_of_ble_eq_true rfl) (fun q24 _ h24 => ?_)
  exact j_zret 26 rfl rfl (nrR_b h24 rfl) rfl
abbrev jX4_passes (X : Cx) (ads : List Nat) (sk : List Sk) (ps : PS) (res : Option (Int × Sg)) : Prop := J X mX4_passes pX4_passes tbX4 (rmD 1 0 0) 0 0 E0 (fun a => FM X mX4_passes ads sk (wE a)) ads sk ps res
theorem eX4_passes {X : Cx} {ads : List Nat} {sk : List Sk} (hA : ads.length = sk.length ∧ sk.length ≤ 1000) (hp0 : ocD sk) (x1 : Int) (σ : Sg) : CF X mX4_passes ads sk [.inr (some 64), .inl x1] σ wE (fX4_passes x1 σ) := by
  refine CF.of ⟨pX4_passes_ok, tbX4_ok, hA.1, hA.2⟩ (plainFor_of_name plX4) (Nat.le_of_ble_eq_true rfl) ?_
  show jX4_passes X ads sk (0, [some (.inr (some 64)), some (.inl x1)], [], σ) (fX4_passes x1 σ)
  unfold fX4_passes
  refine j_run 0 1 rfl ?_
  refine j_gf 1 4 rfl rfl hp0.1 rfl ?_
  refine j_run 2 1 rfl ?_
  refine jc_icmp_eq 3 rfl rfl (fun h1 => ?_) (fun h1 => ?_)
  · refine j_run 6 1 rfl ?_
    refine j_cv 7 0 0 rfl rfl mwX4_pass hp0.1 rfl rfl (eX4_pass hA hp0 _) rfl rfl (rok rfl rfl) (Nat.le_of_ble_eq_true rfl) (fun s2 _ h2 => ?_)
    refine j_run 8 1 rfl ?_
    exact j_zret 9 rfl rfl (by decide) rfl
  · refine j_run 4 1 rfl ?_
    exact j_zret 5 rfl rfl (by decide) rfl
abbrev jX4_readsEither (X : Cx) (ads : List Nat) (sk : List Sk) (e : Nat) (ps : PS) (res : Option (Int × Sg)) : Prop := J X (mX4_readsEither e) pX4_readsEither tbX4 (rmD e 0 0) 0 0 E0 (fun a => FM X (mX4_readsEither e) ads sk (wE a)) ads sk ps res
theorem JX4_readsEither_J107 {X : Cx} {ads : List Nat} {sk : List Sk} (hA : ads.length = sk.length ∧ sk.length ≤ 1000) (hp0 : ocD sk) {e e2 : Nat} (he : e2 + 1 ≤ e) (hb : 3 ≤ e) {r_readsEither : Int → Sg → Option (Int × Sg)} (hr_readsEither : ∀  (x1 : Int) (σ : Sg), CF X (mX4_readsEither e2) ads sk [.inr (some 64), .inl x1] σ wE (r_readsEither x1 σ)) {r_readsSingle : Int → Sg → Option (Int × Sg)} (hr_readsSingle : ∀  (x1 : Int) (σ : Sg), CF X (mX4_readsSingle e2) ads sk [.inr (some 64), .inl x1] σ wE (r_readsSingle x1 σ)) (x1 : Int) (x2 : Int) (x3 : Int) (x4 : Int) (k7 : Int → Int → Int → Sg → Option (Int × Sg)) (hk7 : ∀ (x2 : Int) (x3 : Int) (x4 : Int) (σ : Sg), jX4_readsEither X ads sk e (7, [some (.inr (some 64)), some (.inl x1), some (.inl x2), some (.inl x3), some (.inl x4)], [], σ) (k7 x2 x3 x4 σ)) (σ : Sg) : jX4_readsEither X ads sk e (107, [some (.inr (some 64)), some (.inl x1), some (.inl x2), some (.inl x3), some (.inl x4)], [], σ) (fX4_readsEither_J107 r_readsEither r_readsSingle k7 x1 x2 x3 x4 σ) := by
  unfold fX4_readsEither_J107
  refine j_run 55 1 rfl ?_
  refine j_cv 56 0 0 rfl rfl mwX4_pass hp0.1 rfl rfl (eX4_pass hA hp0 _) rfl rfl (rokS (Nat.le_trans (Nat.le_of_ble_eq_true (rfl : Nat.ble (0 + 1) 3 = true)) hb) (Nat.le_of_ble_eq_true rfl)) (Nat.le_of_ble_eq_true rfl) (fun s4 _ h4 => ?_)
  refine j_run 57 1 rfl ?_
  refine j_goto 58 rfl rfl ?_
  exact j_weak (leP_s (leP_s (leP_s (leP_s (leP_s (leP_z)))))) (hk7 x2 x3 (bw (x4 + 1)) _)
theorem JX4_readsEither_J97 {X : Cx} {ads : List Nat} {sk : List Sk} (hA : ads.length = sk.length ∧ sk.length ≤ 1000) (hp0 : ocD sk) {e e2 : Nat} (he : e2 + 1 ≤ e) (hb : 3 ≤ e) {r_readsEither : Int → Sg → Option (Int × Sg)} (hr_readsEither : ∀  (x1 : Int) (σ : Sg), CF X (mX4_readsEither e2) ads sk [.inr (some 64), .inl x1] σ wE (r_readsEither x1 σ)) {r_readsSingle : Int → Sg → Option (Int × Sg)} (hr_readsSingle : ∀  (x1 : Int) (σ : Sg), CF X (mX4_readsSingle e2) ads sk [.inr (some 64), .inl x1] σ wE (r_readsSingle x1 σ)) (x1 : Int) (x2 : Int) (x4 : Int) (k7 : Int → Int → Int → Sg → Option (Int × Sg)) (hk7 : ∀ (x2 : Int) (x3 : Int) (x4 : Int) (σ : Sg), jX4_readsEither X ads sk e (7, [some (.inr (some 64)), some (.inl x1), some (.inl x2), some (.inl x3), some (.inl x4)], [], σ) (k7 x2 x3 x4 σ)) (x3 : Int) (σ : Sg) : jX4_readsEither X ads sk e (97, [some (.inr (some 64)), some (.inl x1), some (.inl x2), some (.inl x3), some (.inl x4)], [], σ) (fX4_readsEither_J97 r_readsEither r_readsSingle k7 x1 x2 x4 x3 σ) := by
  unfold fX4_readsEither_J97
  refine j_run 49 1 rfl ?_
  refine jc_if_ne 50 rfl rfl (fun h5 => ?_) (fun h5 => ?_)
  · refine j_run 51 1 rfl ?_
    refine jc_if_ne 52 rfl rfl (fun h6 => ?_) (fun h6 => ?_)
    · refine j_run 53 1 rfl ?_
      exact j_zret 54 rfl rfl (by decide) rfl
    · exact j_weak (leP_s (leP_s (leP_s (leP_s (leP_s (leP_z)))))) (JX4_readsEither_J107 hA hp0 he hb hr_readsEither hr_readsSingle x1 x2 x3 x4 _ hk7 _)
  · exact j_weak (leP_s (leP_s (leP_s (leP_s (leP_s (leP_z)))))) (JX4_readsEither_J107 hA hp0 he hb hr_readsEither hr_readsSingle x1 x2 x3 x4 _ hk7 _)
theorem JX4_readsEither_J82 {X : Cx} {ads : List Nat} {sk : List Sk} (hA : ads.length = sk.length ∧ sk.length ≤ 1000) (hp0 : ocD sk) {e e2 : Nat} (he : e2 + 1 ≤ e) (hb : 3 ≤ e) {r_readsEither : Int → Sg → Option (Int × Sg)} (hr_readsEither : ∀  (x1 : Int) (σ : Sg), CF X (mX4_readsEither e2) ads sk [.inr (some 64), .inl x1] σ wE (r_readsEither x1 σ)) {r_readsSingle : Int → Sg → Option (Int × Sg)} (hr_readsSingle : ∀  (x1 : Int) (σ : Sg), CF X (mX4_readsSingle e2) ads sk [.inr (some 64), .inl x1] σ wE (r_readsSingle x1 σ)) (x1 : Int) (x2 : Int) (x4 : Int) (k97 : Int → Sg → Option (Int × Sg)) (hk97 : ∀ (x3 : Int) (σ : Sg), jX4_readsEither X ads sk e (97, [some (.inr (some 64)), some (.inl x1), some (.inl x2), some (.inl x3), some (.inl x4)], [], σ) (k97 x3 σ)) (σ : Sg) : jX4_readsEither X ads sk e (82, [some (.inr (some 64)), some (.inl x1), some (.inl x2), none, some (.inl x4)], [], σ) (fX4_readsEither_J82 r_readsEither r_readsSingle k97 x1 x2 x4 σ) := by
  unfold fX4_readsEither_J82
  refine j_run 41 1 rfl ?_
  refine j_gf 42 4 rfl rfl hp0.1 rfl ?_
  refine j_run 43 1 rfl ?_
  refine jc_icmp_ne 44 rfl rfl (fun h8 => ?_) (fun h8 => ?_)
  · refine j_run 45 1 rfl ?_
    refine j_goto 46 rfl rfl ?_
    refine j_run 48 1 rfl ?_
    exact j_weak (leP_s (leP_s (leP_s (leP_s (leP_s (leP_z)))))) (hk97 1 _)
  · refine j_run 47 1 rfl ?_
    refine j_run 48 1 rfl ?_
    exact j_weak (leP_s (leP_s (leP_s (leP_s (leP_s (leP_z)))))) (hk97 0 _)
theorem JX4_readsEither_J58 {X : Cx} {ads : List Nat} {sk : List Sk} (hA : ads.length = sk.length ∧ sk.length ≤ 1000) (hp0 : ocD sk) {e e2 : Nat} (he : e2 + 1 ≤ e) (hb : 3 ≤ e) {r_readsEither : Int → Sg → Option (Int × Sg)} (hr_readsEither : ∀  (x1 : Int) (σ : Sg), CF X (mX4_readsEither e2) ads sk [.inr (some 64), .inl x1] σ wE (r_readsEither x1 σ)) {r_readsSingle : Int → Sg → Option (Int × Sg)} (hr_readsSingle : ∀  (x1 : Int) (σ : Sg), CF X (mX4_readsSingle e2) ads sk [.inr (some 64), .inl x1] σ wE (r_readsSingle x1 σ)) (x1 : Int) (x3 : Int) (x4 : Int) (k7 : Int → Int → Int → Sg → Option (Int × Sg)) (hk7 : ∀ (x2 : Int) (x3 : Int) (x4 : Int) (σ : Sg), jX4_readsEither X ads sk e (7, [some (.inr (some 64)), some (.inl x1), some (.inl x2), some (.inl x3), some (.inl x4)], [], σ) (k7 x2 x3 x4 σ)) (y0 : Int) (σ : Sg) : jX4_readsEither X ads sk e (58, [some (.inr (some 64)), some (.inl x1), none, some (.inl x3), some (.inl x4)], [.inl y0], σ) (fX4_readsEither_J58 r_readsEither r_readsSingle k7 x1 x3 x4 y0 σ) := by
  unfold fX4_readsEither_J58
  refine j_run 30 2 rfl ?_
  refine jc_if_ne 32 rfl rfl (fun h7 => ?_) (fun h7 => ?_)
  · refine j_run 33 1 rfl ?_
    refine jc_if_eq 34 rfl rfl (fun h9 => ?_) (fun h9 => ?_)
    · exact j_weak (leP_s (leP_s (leP_s (leP_n (leP_s (leP_z)))))) (JX4_readsEither_J82 hA hp0 he hb hr_readsEither hr_readsSingle x1 y0 x4 _ (JX4_readsEither_J97 hA hp0 he hb hr_readsEither hr_readsSingle x1 y0 x4 _ hk7) _)
    · refine j_run 35 1 rfl ?_
      refine j_gr 36 5 rfl rfl hp0.1 rfl ?_
      refine j_gr 37 6 rfl rfl hp0.2.2.2.1 rfl ?_
      refine j_run 38 1 rfl ?_
      refine j_csT 39 4 1 rfl rfl mwX2_codeOfJoint (eX2_codeOfJoint hA 7 _) rfl rfl (rokS (Nat.le_trans (Nat.le_of_ble_eq_true (rfl : Nat.ble (0 + 1) 3 = true)) hb) (Nat.le_of_ble_eq_true rfl)) (Nat.le_of_ble_eq_true rfl) (fun h10 => ?_)
      refine j_cv 40 1 1 rfl rfl mwX2_put hp0.2.2.2.2.2.2.2.1.1 rfl rfl (eX2_put hA hp0.2.2.2.2.2.2.2.1 (fX2_codeOfJoint 7) _) rfl rfl (rokS (Nat.le_trans (Nat.le_of_ble_eq_true (rfl : Nat.ble (0 + 1) 3 = true)) hb) (Nat.le_of_ble_eq_true rfl)) (Nat.le_of_ble_eq_true rfl) (fun s11 _ h11 => ?_)
      exact j_weak (leP_s (leP_s (leP_s (leP_n (leP_s (leP_z)))))) (JX4_readsEither_J82 hA hp0 he hb hr_readsEither hr_readsSingle x1 y0 x4 _ (JX4_readsEither_J97 hA hp0 he hb hr_readsEither hr_readsSingle x1 y0 x4 _ hk7) _)
  · exact j_weak (leP_s (leP_s (leP_s (leP_s (leP_s (leP_z)))))) (JX4_readsEither_J97 hA hp0 he hb hr_readsEither hr_readsSingle x1 y0 x4 _ hk7 x3 _)
theorem JX4_readsEither_J44 {X : Cx} {ads : List Nat} {sk : List Sk} (hA : ads.length = sk.length ∧ sk.length ≤ 1000) (hp0 : ocD sk) {e e2 : Nat} (he : e2 + 1 ≤ e) (hb : 3 ≤ e) {r_readsEither : Int → Sg → Option (Int × Sg)} (hr_readsEither : ∀  (x1 : Int) (σ : Sg), CF X (mX4_readsEither e2) ads sk [.inr (some 64), .inl x1] σ wE (r_readsEither x1 σ)) {r_readsSingle : Int → Sg → Option (Int × Sg)} (hr_readsSingle : ∀  (x1 : Int) (σ : Sg), CF X (mX4_readsSingle e2) ads sk [.inr (some 64), .inl x1] σ wE (r_readsSingle x1 σ)) (x1 : Int) (x3 : Int) (x4 : Int) (k7 : Int → Int → Int → Sg → Option (Int × Sg)) (hk7 : ∀ (x2 : Int) (x3 : Int) (x4 : Int) (σ : Sg), jX4_readsEither X ads sk e (7, [some (.inr (some 64)), some (.inl x1), some (.inl x2), some (.inl x3), some (.inl x4)], [], σ) (k7 x2 x3 x4 σ)) (σ : Sg) : jX4_readsEither X ads sk e (44, [some (.inr (some 64)), some (.inl x1), none, some (.inl x3), some (.inl x4)], [], σ) (fX4_readsEither_J44 r_readsEither r_readsSingle k7 x1 x3 x4 σ) := by
  unfold fX4_readsEither_J44
  refine j_run 23 1 rfl ?_
  refine j_gf 24 4 rfl rfl hp0.1 rfl ?_
  refine j_run 25 1 rfl ?_
  refine jc_icmp_ne 26 rfl rfl (fun h12 => ?_) (fun h12 => ?_)
  · refine j_run 27 1 rfl ?_
    refine j_goto 28 rfl rfl ?_
    exact j_weak (leP_s (leP_s (leP_n (leP_s (leP_s (leP_z)))))) (JX4_readsEither_J58 hA hp0 he hb hr_readsEither hr_readsSingle x1 x3 x4 _ hk7 1 _)
  · refine j_run 29 1 rfl ?_
    exact j_weak (leP_s (leP_s (leP_n (leP_s (leP_s (leP_z)))))) (JX4_readsEither_J58 hA hp0 he hb hr_readsEither hr_readsSingle x1 x3 x4 _ hk7 0 _)
theorem JX4_readsEither_L7 {X : Cx} {ads : List Nat} {sk : List Sk} (hA : ads.length = sk.length ∧ sk.length ≤ 1000) (hp0 : ocD sk) {e e2 : Nat} (he : e2 + 1 ≤ e) (hb : 3 ≤ e) {r_readsEither : Int → Sg → Option (Int × Sg)} (hr_readsEither : ∀  (x1 : Int) (σ : Sg), CF X (mX4_readsEither e2) ads sk [.inr (some 64), .inl x1] σ wE (r_readsEither x1 σ)) {r_readsSingle : Int → Sg → Option (Int × Sg)} (hr_readsSingle : ∀  (x1 : Int) (σ : Sg), CF X (mX4_readsSingle e2) ads sk [.inr (some 64), .inl x1] σ wE (r_readsSingle x1 σ)) (x1 : Int) : ∀ (n : Nat) (x2 : Int) (x3 : Int) (x4 : Int) (σ : Sg), jX4_readsEither X ads sk e (7, [some (.inr (some 64)), some (.inl x1), some (.inl x2), some (.inl x3), some (.inl x4)], [], σ) (fX4_readsEither_L7 r_readsEither r_readsSingle x1 n x2 x3 x4 σ) := by
  intro n
  induction n with
  | zero => intro x2 x3 x4 σ; exact j_none
  | succ n ih =>
    intro x2 x3 x4 σ
    rw [fX4_readsEither_L7]
    refine j_run 6 2 rfl ?_
    refine jc_icmp_gt 8 rfl rfl (fun h1 => ?_) (fun h1 => ?_)
    · refine j_run 59 1 rfl ?_
      exact j_zret 60 rfl rfl (by decide) rfl
    · refine j_run 9 2 rfl ?_
      refine j_cv 11 6 1 rfl rfl (mwX4_readsSingle _) hp0.1 rfl rfl (hr_readsSingle x1 _) rfl rfl (rokS he (Nat.le_of_ble_eq_true rfl)) (Nat.le_of_ble_eq_true rfl) (fun q2 _ h2 => ?_)
      refine jc_if_ne 12 rfl rfl (fun h3 => ?_) (fun h3 => ?_)
      · refine j_run 13 1 rfl ?_
        exact j_zret 14 rfl rfl (by decide) rfl
      · refine j_run 15 1 rfl ?_
        refine jc_if_eq 16 rfl rfl (fun h13 => ?_) (fun h13 => ?_)
        · exact j_weak (leP_s (leP_s (leP_n (leP_s (leP_s (leP_z)))))) (JX4_readsEither_J44 hA hp0 he hb hr_readsEither hr_readsSingle x1 x3 x4 _ ih _)
        · refine j_run 17 1 rfl ?_
          refine j_gr 18 5 rfl rfl hp0.1 rfl ?_
          refine j_gr 19 6 rfl rfl hp0.2.2.2.1 rfl ?_
          refine j_run 20 1 rfl ?_
          refine j_csT 21 4 1 rfl rfl mwX2_codeOfJoint (eX2_codeOfJoint hA 8 _) rfl rfl (rokS (Nat.le_trans (Nat.le_of_ble_eq_true (rfl : Nat.ble (0 + 1) 3 = true)) hb) (Nat.le_of_ble_eq_true rfl)) (Nat.le_of_ble_eq_true rfl) (fun h14 => ?_)
          refine j_cv 22 1 1 rfl rfl mwX2_put hp0.2.2.2.2.2.2.2.1.1 rfl rfl (eX2_put hA hp0.2.2.2.2.2.2.2.1 (fX2_codeOfJoint 8) _) rfl rfl (rokS (Nat.le_trans (Nat.le_of_ble_eq_true (rfl : Nat.ble (0 + 1) 3 = true)) hb) (Nat.le_of_ble_eq_true rfl)) (Nat.le_of_ble_eq_true rfl) (fun s15 _ h15 => ?_)
          exact j_weak (leP_s (leP_s (leP_n (leP_s (leP_s (leP_z)))))) (JX4_readsEither_J44 hA hp0 he hb hr_readsEither hr_readsSingle x1 x3 x4 _ ih _)
theorem egX4_readsEither {X : Cx} {ads : List Nat} {sk : List Sk} (hA : ads.length = sk.length ∧ sk.length ≤ 1000) (hp0 : ocD sk) {e e2 : Nat} (he : e2 + 1 ≤ e) (hb : 3 ≤ e) {r_readsEither : Int → Sg → Option (Int × Sg)} (hr_readsEither : ∀  (x1 : Int) (σ : Sg), CF X (mX4_readsEither e2) ads sk [.inr (some 64), .inl x1] σ wE (r_readsEither x1 σ)) {r_readsSingle : Int → Sg → Option (Int × Sg)} (hr_readsSingle : ∀  (x1 : Int) (σ : Sg), CF X (mX4_readsSingle e2) ads sk [.inr (some 64), .inl x1] σ wE (r_readsSingle x1 σ)) (x1 : Int) (σ : Sg) : CF X (mX4_readsEither e) ads sk [.inr (some 64), .inl x1] σ wE (gX4_readsEither r_readsEither r_readsSingle x1 σ) := by
  refine CF.of ⟨pX4_readsEither_ok, tbX4_ok, hA.1, hA.2⟩ (plainFor_of_name plX4) (Nat.le_of_ble_eq_true rfl) ?_
  show jX4_readsEither X ads sk e (0, [some (.inr (some 64)), some (.inl x1), none, none, none], [], σ) (gX4_readsEither r_readsEither r_readsSingle x1 σ)
  unfold gX4_readsEither
  refine j_run 0 6 rfl ?_
  exact j_weak (leP_s (leP_s (leP_s (leP_s (leP_s (leP_z)))))) (JX4_readsEither_L7 hA hp0 he hb hr_readsEither hr_readsSingle x1 FU 0 0 0 _)
abbrev jX4_readsSingle (X : Cx) (ads : List Nat) (sk : List Sk) (e : Nat) (ps : PS) (res : Option (Int × Sg)) : Prop := J X (mX4_readsSingle e) pX4_readsSingle tbX4 (rmD e 0 0) 0 0 E0 (fun a => FM X (mX4_readsSingle e) ads sk (wE a)) ads sk ps res
theorem JX4_readsSingle_J17 {X : Cx} {ads : List Nat} {sk : List Sk} (hA : ads.length = sk.length ∧ sk.length ≤ 1000) (hp0 : ocD sk) {e e2 : Nat} (he : e2 + 1 ≤ e) (hb : 3 ≤ e) {r_readsEither : Int → Sg → Option (Int × Sg)} (hr_readsEither : ∀  (x1 : Int) (σ : Sg), CF X (mX4_readsEither e2) ads sk [.inr (some 64), .inl x1] σ wE (r_readsEither x1 σ)) {r_readsSingle : Int → Sg → Option (Int × Sg)} (hr_readsSingle : ∀  (x1 : Int) (σ : Sg), CF X (mX4_readsSingle e2) ads sk [.inr (some 64), .inl x1] σ wE (r_readsSingle x1 σ)) (x1 : Int) (x2 : Int) (σ : Sg) : jX4_readsSingle X ads sk e (17, [some (.inr (some 64)), some (.inl x1), some (.inl x2), none], [], σ) (fX4_readsSingle_J17 r_readsEither r_readsSingle x1 x2 σ) := by
  unfold fX4_readsSingle_J17
  refine j_run 9 2 rfl ?_
  refine jc_icmp_lt 11 rfl rfl (fun h1 => ?_) (fun h1 => ?_)
  · refine j_run 16 1 rfl ?_
    refine j_cv 17 0 0 rfl rfl mwX4_pass hp0.1 rfl rfl (eX4_pass hA hp0 _) rfl rfl (rokS (Nat.le_trans (Nat.le_of_ble_eq_true (rfl : Nat.ble (0 + 1) 3 = true)) hb) (Nat.le_of_ble_eq_true rfl)) (Nat.le_of_ble_eq_true rfl) (fun s2 _ h2 => ?_)
    refine j_run 18 2 rfl ?_
    refine jc_icmp_ne 20 rfl rfl (fun h3 => ?_) (fun h3 => ?_)
    · refine j_run 21 4 rfl ?_
      refine j_cv 25 7 1 rfl rfl (mwX4_readsEither _) hp0.1 rfl rfl (hr_readsEither (bw (x1 + 1)) _) rfl rfl (rokS he (Nat.le_of_ble_eq_true rfl)) (Nat.le_of_ble_eq_true rfl) (fun q4 _ h4 => ?_)
      refine jc_if_eq 26 rfl rfl (fun h5 => ?_) (fun h5 => ?_)
      · refine j_run 33 1 rfl ?_
        exact j_zret 34 rfl rfl (by decide) rfl
      · refine j_run 27 2 rfl ?_
        refine j_cv 29 8 1 rfl rfl mwX4_passes hp0.1 rfl rfl (eX4_passes hA hp0 41 _) rfl rfl (rokS (Nat.le_trans (Nat.le_of_ble_eq_true (rfl : Nat.ble (1 + 1) 3 = true)) hb) (Nat.le_of_ble_eq_true rfl)) (Nat.le_of_ble_eq_true rfl) (fun q6 _ h6 => ?_)
        refine jc_if_eq 30 rfl rfl (fun h7 => ?_) (fun h7 => ?_)
        · refine j_run 33 1 rfl ?_
          exact j_zret 34 rfl rfl (by decide) rfl
        · refine j_run 31 1 rfl ?_
          refine j_goto 32 rfl rfl ?_
          exact j_zret 34 rfl rfl (by decide) rfl
    · refine j_run 35 4 rfl ?_
      refine j_cv 39 6 1 rfl rfl (mwX4_readsSingle _) hp0.1 rfl rfl (hr_readsSingle (bw (x1 + 1)) _) rfl rfl (rokS he (Nat.le_of_ble_eq_true rfl)) (Nat.le_of_ble_eq_true rfl) (fun q8 _ h8 => ?_)
      refine jc_if_ne 40 rfl rfl (fun h9 => ?_) (fun h9 => ?_)
      · refine j_run 41 1 rfl ?_
        exact j_zret 42 rfl rfl (by decide) rfl
      · refine j_run 43 1 rfl ?_
        refine j_gr 44 5 rfl rfl hp0.1 rfl ?_
        refine j_gr 45 6 rfl rfl hp0.2.2.2.1 rfl ?_
        refine j_run 46 1 rfl ?_
        refine j_cv 47 1 1 rfl rfl mwX2_put hp0.2.2.2.2.2.2.2.1.1 rfl rfl (eX2_put hA hp0.2.2.2.2.2.2.2.1 (-20) _) rfl rfl (rokS (Nat.le_trans (Nat.le_of_ble_eq_true (rfl : Nat.ble (0 + 1) 3 = true)) hb) (Nat.le_of_ble_eq_true rfl)) (Nat.le_of_ble_eq_true rfl) (fun s10 _ h10 => ?_)
        refine j_run 48 1 rfl ?_
        exact j_zret 49 rfl rfl (by decide) rfl
  · refine j_run 12 2 rfl ?_
    refine j_cv 14 5 1 rfl rfl mwX4_refuse hp0.1 rfl rfl (eX4_refuse hA hp0 3 _) rfl rfl (rokS (Nat.le_trans (Nat.le_of_ble_eq_true (rfl : Nat.ble (0 + 1) 3 = true)) hb) (Nat.le_of_ble_eq_true rfl)) (Nat.le_of_ble_eq_true rfl) (fun q11 _ h11 => ?_)
    exact j_zret 15 rfl rfl (nrR_b h11 rfl) rfl
theorem JX4_readsSingle_J131 {X : Cx} {ads : List Nat} {sk : List Sk} (hA : ads.length = sk.length ∧ sk.length ≤ 1000) (hp0 : ocD sk) {e e2 : Nat} (he : e2 + 1 ≤ e) (hb : 3 ≤ e) {r_readsEither : Int → Sg → Option (Int × Sg)} (hr_readsEither : ∀  (x1 : Int) (σ : Sg), CF X (mX4_readsEither e2) ads sk [.inr (some 64), .inl x1] σ wE (r_readsEither x1 σ)) {r_readsSingle : Int → Sg → Option (Int × Sg)} (hr_readsSingle : ∀  (x1 : Int) (σ : Sg), CF X (mX4_readsSingle e2) ads sk [.inr (some 64), .inl x1] σ wE (r_readsSingle x1 σ)) (x3 : Int) (σ : Sg) : jX4_readsSingle X ads sk e (131, [some (.inr (some 64)), none, none, some (.inl x3)], [], σ) (fX4_readsSingle_J131 r_readsEither r_readsSingle x3 σ) := by
  unfold fX4_readsSingle_J131
  refine j_run 70 1 rfl ?_
  refine j_cv 71 9 0 rfl rfl mwX4_readsSum hp0.1 rfl rfl (eX4_readsSum hA hp0 _) rfl rfl (rokS (Nat.le_trans (Nat.le_of_ble_eq_true (rfl : Nat.ble (2 + 1) 3 = true)) hb) (Nat.le_of_ble_eq_true rfl)) (Nat.le_of_ble_eq_true rfl) (fun q17 _ h17 => ?_)
  refine jc_if_ne 72 rfl rfl (fun h18 => ?_) (fun h18 => ?_)
  · refine j_run 73 1 rfl ?_
    exact j_zret 74 rfl rfl (by decide) rfl
  · refine j_run 75 1 rfl ?_
    refine j_gr 76 5 rfl rfl hp0.1 rfl ?_
    refine j_gr 77 6 rfl rfl hp0.2.2.2.1 rfl ?_
    refine j_run 78 1 rfl ?_
    refine j_csT 79 4 1 rfl rfl mwX2_codeOfJoint (eX2_codeOfJoint hA x3 _) rfl rfl (rokS (Nat.le_trans (Nat.le_of_ble_eq_true (rfl : Nat.ble (0 + 1) 3 = true)) hb) (Nat.le_of_ble_eq_true rfl)) (Nat.le_of_ble_eq_true rfl) (fun h19 => ?_)
    refine j_cv 80 1 1 rfl rfl mwX2_put hp0.2.2.2.2.2.2.2.1.1 rfl rfl (eX2_put hA hp0.2.2.2.2.2.2.2.1 (fX2_codeOfJoint x3) _) rfl rfl (rokS (Nat.le_trans (Nat.le_of_ble_eq_true (rfl : Nat.ble (0 + 1) 3 = true)) hb) (Nat.le_of_ble_eq_true rfl)) (Nat.le_of_ble_eq_true rfl) (fun s20 _ h20 => ?_)
    refine j_run 81 1 rfl ?_
    exact j_zret 82 rfl rfl (by decide) rfl
theorem egX4_readsSingle {X : Cx} {ads : List Nat} {sk : List Sk} (hA : ads.length = sk.length ∧ sk.length ≤ 1000) (hp0 : ocD sk) {e e2 : Nat} (he : e2 + 1 ≤ e) (hb : 3 ≤ e) {r_readsEither : Int → Sg → Option (Int × Sg)} (hr_readsEither : ∀  (x1 : Int) (σ : Sg), CF X (mX4_readsEither e2) ads sk [.inr (some 64), .inl x1] σ wE (r_readsEither x1 σ)) {r_readsSingle : Int → Sg → Option (Int × Sg)} (hr_readsSingle : ∀  (x1 : Int) (σ : Sg), CF X (mX4_readsSingle e2) ads sk [.inr (some 64), .inl x1] σ wE (r_readsSingle x1 σ)) (x1 : Int) (σ : Sg) : CF X (mX4_readsSingle e) ads sk [.inr (some 64), .inl x1] σ wE (gX4_readsSingle r_readsEither r_readsSingle x1 σ) := by
  refine CF.of ⟨pX4_readsSingle_ok, tbX4_ok, hA.1, hA.2⟩ (plainFor_of_name plX4) (Nat.le_of_ble_eq_true rfl) ?_
  show jX4_readsSingle X ads sk e (0, [some (.inr (some 64)), some (.inl x1), none, none], [], σ) (gX4_readsSingle r_readsEither r_readsSingle x1 σ)
  unfold gX4_readsSingle
  refine j_run 0 1 rfl ?_
  refine j_gf 1 4 rfl rfl hp0.1 rfl ?_
  refine j_run 2 3 rfl ?_
  refine jc_icmp_eq 5 rfl rfl (fun h12 => ?_) (fun h12 => ?_)
  · exact j_weak (leP_s (leP_s (leP_s (leP_n (leP_z))))) (JX4_readsSingle_J17 hA hp0 he hb hr_readsEither hr_readsSingle x1 (rd σ 64 6) _)
  · refine j_run 6 2 rfl ?_
    refine jc_icmp_ne 8 rfl rfl (fun h13 => ?_) (fun h13 => ?_)
    · exact j_weak (leP_s (leP_s (leP_s (leP_n (leP_z))))) (JX4_readsSingle_J17 hA hp0 he hb hr_readsEither hr_readsSingle x1 (rd σ 64 6) _)
    · refine j_run 50 1 rfl ?_
      refine j_cv 51 9 0 rfl rfl mwX4_readsSum hp0.1 rfl rfl (eX4_readsSum hA hp0 _) rfl rfl (rokS (Nat.le_trans (Nat.le_of_ble_eq_true (rfl : Nat.ble (2 + 1) 3 = true)) hb) (Nat.le_of_ble_eq_true rfl)) (Nat.le_of_ble_eq_true rfl) (fun q14 _ h14 => ?_)
      refine jc_if_ne 52 rfl rfl (fun h15 => ?_) (fun h15 => ?_)
      · refine j_run 53 1 rfl ?_
        exact j_zret 54 rfl rfl (by decide) rfl
      · refine j_run 55 1 rfl ?_
        refine j_gf 56 4 rfl rfl hp0.1 rfl ?_
        refine j_run 57 3 rfl ?_
        refine j_cv 60 8 1 rfl rfl mwX4_passes hp0.1 rfl rfl (eX4_passes hA hp0 60 _) rfl rfl (rokS (Nat.le_trans (Nat.le_of_ble_eq_true (rfl : Nat.ble (1 + 1) 3 = true)) hb) (Nat.le_of_ble_eq_true rfl)) (Nat.le_of_ble_eq_true rfl) (fun q16 _ h16 => ?_)
        refine jc_if_ne 61 rfl rfl (fun h21 => ?_) (fun h21 => ?_)
        · refine j_run 62 2 rfl ?_
          refine j_cv 64 8 1 rfl rfl mwX4_passes hp0.1 rfl rfl (eX4_passes hA hp0 61 _) rfl rfl (rokS (Nat.le_trans (Nat.le_of_ble_eq_true (rfl : Nat.ble (1 + 1) 3 = true)) hb) (Nat.le_of_ble_eq_true rfl)) (Nat.le_of_ble_eq_true rfl) (fun q22 _ h22 => ?_)
          refine jc_if_ne 65 rfl rfl (fun h23 => ?_) (fun h23 => ?_)
          · refine j_run 66 2 rfl ?_
            refine j_cv 68 8 1 rfl rfl mwX4_passes hp0.1 rfl rfl (eX4_passes hA hp0 62 _) rfl rfl (rokS (Nat.le_trans (Nat.le_of_ble_eq_true (rfl : Nat.ble (1 + 1) 3 = true)) hb) (Nat.le_of_ble_eq_true rfl)) (Nat.le_of_ble_eq_true rfl) (fun q24 _ h24 => ?_)
            refine jc_if_eq 69 rfl rfl (fun h25 => ?_) (fun h25 => ?_)
            · refine j_run 73 1 rfl ?_
              exact j_zret 74 rfl rfl (by decide) rfl
            · exact j_weak (leP_s (leP_n (leP_n (leP_s (leP_z))))) (JX4_readsSingle_J131 hA hp0 he hb hr_readsEither hr_readsSingle (rd q14.2 64 6) _)
          · exact j_weak (leP_s (leP_n (leP_n (leP_s (leP_z))))) (JX4_readsSingle_J131 hA hp0 he hb hr_readsEither hr_readsSingle (rd q14.2 64 6) _)
        · exact j_weak (leP_s (leP_n (leP_n (leP_s (leP_z))))) (JX4_readsSingle_J131 hA hp0 he hb hr_readsEither hr_readsSingle (rd q14.2 64 6) _)
theorem et_X4_readsEither {X : Cx} {ads : List Nat} {sk : List Sk} (hA : ads.length = sk.length ∧ sk.length ≤ 1000) (hp0 : ocD sk) : ∀ n : Nat, (∀ (x1 : Int) (σ : Sg), CF X (mX4_readsEither (3 + n)) ads sk [.inr (some 64), .inl x1] σ wE ((rg_X4_readsEither n).1 x1 σ)) ∧ (∀ (x1 : Int) (σ : Sg), CF X (mX4_readsSingle (3 + n)) ads sk [.inr (some 64), .inl x1] σ wE ((rg_X4_readsEither n).2 x1 σ))
  | 0 => ⟨(by intros; intro a ha; cases ha), (by intros; intro a ha; cases ha)⟩
  | n + 1 => by
    have ih := et_X4_readsEither (X := X) hA hp0 n
    exact ⟨(by intros; exact egX4_readsEither hA hp0 (e := 3 + (n + 1)) (e2 := 3 + n) (by omega) (by omega) (ih.1) (ih.2) _ _), (by intros; exact egX4_readsSingle hA hp0 (e := 3 + (n + 1)) (e2 := 3 + n) (by omega) (by omega) (ih.1) (ih.2) _ _)⟩
theorem eX4_readsEither_n {X : Cx} {ads : List Nat} {sk : List Sk} (hA : ads.length = sk.length ∧ sk.length ≤ 1000) (hp0 : ocD sk) (n : Nat) (x1 : Int) (σ : Sg) : CF X (mX4_readsEither (3 + n)) ads sk [.inr (some 64), .inl x1] σ wE (fX4_readsEither n x1 σ) := (et_X4_readsEither hA hp0 n).1 x1 σ
theorem eX4_readsSingle_n {X : Cx} {ads : List Nat} {sk : List Sk} (hA : ads.length = sk.length ∧ sk.length ≤ 1000) (hp0 : ocD sk) (n : Nat) (x1 : Int) (σ : Sg) : CF X (mX4_readsSingle (3 + n)) ads sk [.inr (some 64), .inl x1] σ wE (fX4_readsSingle n x1 σ) := (et_X4_readsEither hA hp0 n).2 x1 σ
abbrev jX4_lawLine (X : Cx) (ads : List Nat) (sk : List Sk) (ps : PS) (res : Option (Int × Sg)) : Prop := J X mX4_lawLine pX4_lawLine tbX4 (rmD 44 0 0) 0 0 E0 (fun a => FM X mX4_lawLine ads sk (wE a)) ads sk ps res
theorem JX4_lawLine_J107 {X : Cx} {ads : List Nat} {sk : List Sk} (hA : ads.length = sk.length ∧ sk.length ≤ 1000) (hp0 : ocD sk) (x2 : Int) (σ : Sg) : jX4_lawLine X ads sk (107, [some (.inr (some 64)), some (.inr (some 38)), some (.inl x2)], [], σ) (fX4_lawLine_J107 x2 σ) := by
  unfold fX4_lawLine_J107
  refine j_run 59 1 rfl ?_
  refine j_gr 60 12 rfl rfl hp0.2.2.2.2.2.2.2.1.1 rfl ?_
  refine j_run 61 4 rfl ?_
  refine j_gf 65 11 rfl rfl hp0.2.2.2.2.2.2.2.1.1 rfl ?_
  refine j_ast 66 rfl hp0.2.2.2.2.2.2.2.1.2.2.2.1 rfl ?_
  refine j_run 67 4 rfl ?_
  refine j_pf 71 8 rfl rfl hp0.2.2.2.2.2.2.2.1.1 rfl rfl (Or.inl rfl) ?_
  refine j_run 72 2 rfl ?_
  refine j_cv 74 8 1 rfl rfl mwX4_passes hp0.1 rfl rfl (eX4_passes hA hp0 59 _) rfl rfl (rok rfl rfl) (Nat.le_of_ble_eq_true rfl) (fun q5 _ h5 => ?_)
  exact j_zret 75 rfl rfl (nrR_b h5 rfl) rfl
theorem JX4_lawLine_J34 {X : Cx} {ads : List Nat} {sk : List Sk} (hA : ads.length = sk.length ∧ sk.length ≤ 1000) (hp0 : ocD sk) (σ : Sg) : jX4_lawLine X ads sk (34, [some (.inr (some 64)), some (.inr (some 38)), none], [], σ) (fX4_lawLine_J34 σ) := by
  unfold fX4_lawLine_J34
  refine j_run 18 1 rfl ?_
  refine j_gf 19 8 rfl rfl hp0.2.2.2.2.2.2.2.1.1 rfl ?_
  refine j_run 20 3 rfl ?_
  refine jc_icmp_lt 23 rfl rfl (fun h1 => ?_) (fun h1 => ?_)
  · refine j_run 28 1 rfl ?_
    refine j_gr 29 9 rfl rfl hp0.2.2.2.2.2.2.2.1.1 rfl ?_
    refine j_run 30 2 rfl ?_
    refine j_gf 32 4 rfl rfl hp0.1 rfl ?_
    refine j_ast 33 rfl hp0.2.2.2.2.2.2.2.1.2.2.1 rfl ?_
    refine j_run 34 1 rfl ?_
    refine j_cv 35 0 0 rfl rfl mwX4_pass hp0.1 rfl rfl (eX4_pass hA hp0 _) rfl rfl (rok rfl rfl) (Nat.le_of_ble_eq_true rfl) (fun s2 _ h2 => ?_)
    refine j_run 36 1 rfl ?_
    refine j_cv 37 9 0 rfl rfl mwX4_readsSum hp0.1 rfl rfl (eX4_readsSum hA hp0 _) rfl rfl (rok rfl rfl) (Nat.le_of_ble_eq_true rfl) (fun q3 _ h3 => ?_)
    refine jc_if_ne 38 rfl rfl (fun h4 => ?_) (fun h4 => ?_)
    · refine j_run 39 1 rfl ?_
      exact j_zret 40 rfl rfl (by decide) rfl
    · refine j_run 41 1 rfl ?_
      refine j_gr 42 10 rfl rfl hp0.2.2.2.2.2.2.2.1.1 rfl ?_
      refine j_run 43 2 rfl ?_
      refine j_gf 45 11 rfl rfl hp0.2.2.2.2.2.2.2.1.1 rfl ?_
      refine j_ast 46 rfl hp0.2.2.2.2.2.2.2.1.2.2.2.2.1 rfl ?_
      refine j_run 47 1 rfl ?_
      refine j_gf 48 4 rfl rfl hp0.1 rfl ?_
      refine j_run 49 1 rfl ?_
      refine jc_icmp_ne 50 rfl rfl (fun h6 => ?_) (fun h6 => ?_)
      · refine j_run 51 1 rfl ?_
        refine j_cv 52 0 0 rfl rfl mwX4_pass hp0.1 rfl rfl (eX4_pass hA hp0 _) rfl rfl (rok rfl rfl) (Nat.le_of_ble_eq_true rfl) (fun s7 _ h7 => ?_)
        refine j_run 53 2 rfl ?_
        refine j_cv 55 7 1 rfl rfl (mwX4_readsEither _) hp0.1 rfl rfl (eX4_readsEither_n hA hp0 40 0 _) rfl rfl (rok rfl rfl) (Nat.le_of_ble_eq_true rfl) (fun q8 _ h8 => ?_)
        refine jc_if_ne 56 rfl rfl (fun h9 => ?_) (fun h9 => ?_)
        · refine j_run 57 1 rfl ?_
          exact j_zret 58 rfl rfl (by decide) rfl
        · exact j_weak (leP_s (leP_s (leP_s (leP_z)))) (JX4_lawLine_J107 hA hp0 (rd σ 38 6) _)
      · exact j_weak (leP_s (leP_s (leP_s (leP_z)))) (JX4_lawLine_J107 hA hp0 (rd σ 38 6) _)
  · refine j_run 24 2 rfl ?_
    refine j_cv 26 5 1 rfl rfl mwX4_refuse hp0.1 rfl rfl (eX4_refuse hA hp0 3 _) rfl rfl (rok rfl rfl) (Nat.le_of_ble_eq_true rfl) (fun q10 _ h10 => ?_)
    exact j_zret 27 rfl rfl (nrR_b h10 rfl) rfl
theorem eX4_lawLine {X : Cx} {ads : List Nat} {sk : List Sk} (hA : ads.length = sk.length ∧ sk.length ≤ 1000) (hp0 : ocD sk) (σ : Sg) : CF X mX4_lawLine ads sk [.inr (some 64)] σ wE (fX4_lawLine σ) := by
  refine CF.of ⟨pX4_lawLine_ok, tbX4_ok, hA.1, hA.2⟩ (plainFor_of_name plX4) (Nat.le_of_ble_eq_true rfl) ?_
  show jX4_lawLine X ads sk (0, [some (.inr (some 64)), none, none], [], σ) (fX4_lawLine σ)
  unfold fX4_lawLine
  refine j_run 0 1 rfl ?_
  refine j_gr 1 5 rfl rfl hp0.1 rfl ?_
  refine j_gr 2 6 rfl rfl hp0.2.2.2.1 rfl ?_
  refine j_run 3 2 rfl ?_
  refine j_gf 5 4 rfl rfl hp0.1 rfl ?_
  refine j_run 6 1 rfl ?_
  refine jc_icmp_eq 7 rfl rfl (fun h11 => ?_) (fun h11 => ?_)
  · exact j_weak (leP_s (leP_s (leP_n (leP_z)))) (JX4_lawLine_J34 hA hp0 _)
  · refine j_run 8 1 rfl ?_
    refine j_gf 9 4 rfl rfl hp0.1 rfl ?_
    refine j_run 10 1 rfl ?_
    refine jc_icmp_eq 11 rfl rfl (fun h12 => ?_) (fun h12 => ?_)
    · exact j_weak (leP_s (leP_s (leP_n (leP_z)))) (JX4_lawLine_J34 hA hp0 _)
    · refine j_run 12 1 rfl ?_
      refine j_gf 13 4 rfl rfl hp0.1 rfl ?_
      refine j_run 14 1 rfl ?_
      refine jc_icmp_eq 15 rfl rfl (fun h13 => ?_) (fun h13 => ?_)
      · exact j_weak (leP_s (leP_s (leP_n (leP_z)))) (JX4_lawLine_J34 hA hp0 _)
      · refine j_run 16 1 rfl ?_
        exact j_zret 17 rfl rfl (by decide) rfl
abbrev jX4_begins (X : Cx) (ads : List Nat) (sk : List Sk) (ps : PS) (res : Option (Int × Sg)) : Prop := J X mX4_begins pX4_begins tbX4 (rmD 2 0 0) 0 0 E0 (fun a => FM X mX4_begins ads sk (wE a)) ads sk ps res
theorem JX4_begins_J25 {X : Cx} {ads : List Nat} {sk : List Sk} (hA : ads.length = sk.length ∧ sk.length ≤ 1000) (hp0 : ocD sk) {c2 : Nat} {N2 : Nat} (hp2 : ocR sk c2 N2) (x1 : Int) (σ : Sg) : jX4_begins X ads sk (25, [some (.inr (some 64)), some (.inl x1), none], [], σ) (fX4_begins_J25 c2 N2 x1 σ) := by
  unfold fX4_begins_J25
  refine j_run 13 2 rfl ?_
  refine j_cv 15 8 1 rfl rfl mwX4_passes hp0.1 rfl rfl (eX4_passes hA hp0 x1 _) rfl rfl (rok rfl rfl) (Nat.le_of_ble_eq_true rfl) (fun q1 _ h1 => ?_)
  exact j_zret 16 rfl rfl (nrR_b h1 rfl) rfl
theorem eX4_begins {X : Cx} {ads : List Nat} {sk : List Sk} (hA : ads.length = sk.length ∧ sk.length ≤ 1000) (hp0 : ocD sk) {c2 : Nat} {N2 : Nat} (hp2 : ocR sk c2 N2) (x1 : Int) (σ : Sg) : CF X mX4_begins ads sk [.inr (some 64), .inl x1, .inr (some c2)] σ wE (fX4_begins c2 N2 x1 σ) := by
  refine CF.of ⟨pX4_begins_ok, tbX4_ok, hA.1, hA.2⟩ (plainFor_of_name plX4) (Nat.le_of_ble_eq_true rfl) ?_
  show jX4_begins X ads sk (0, [some (.inr (some 64)), some (.inl x1), some (.inr (some c2))], [], σ) (fX4_begins c2 N2 x1 σ)
  unfold fX4_begins
  refine j_run 0 1 rfl ?_
  refine j_gf 1 4 rfl rfl hp0.1 rfl ?_
  refine j_run 2 1 rfl ?_
  refine jc_icmp_ne 3 rfl rfl (fun h2 => ?_) (fun h2 => ?_)
  · refine j_run 4 1 rfl ?_
    refine j_gf 5 13 rfl rfl hp2.1 rfl ?_
    refine j_run 6 1 rfl ?_
    refine j_gf 7 14 rfl rfl hp2.1 rfl ?_
    refine jc_icmp_lt 8 rfl rfl (fun h3 => ?_) (fun h3 => ?_)
    · exact j_weak (leP_s (leP_s (leP_n (leP_z)))) (JX4_begins_J25 hA hp0 hp2 x1 _)
    · refine j_run 9 2 rfl ?_
      refine j_cv 11 5 1 rfl rfl mwX4_refuse hp0.1 rfl rfl (eX4_refuse hA hp0 3 _) rfl rfl (rok rfl rfl) (Nat.le_of_ble_eq_true rfl) (fun q4 _ h4 => ?_)
      exact j_zret 12 rfl rfl (nrR_b h4 rfl) rfl
  · exact j_weak (leP_s (leP_s (leP_n (leP_z)))) (JX4_begins_J25 hA hp0 hp2 x1 _)
abbrev jX4_passesNumber (X : Cx) (ads : List Nat) (sk : List Sk) (ps : PS) (res : Option (Int × Sg)) : Prop := J X mX4_passesNumber pX4_passesNumber tbX4 (rmD 1 0 0) 0 0 E0 (fun a => FM X mX4_passesNumber ads sk (wE a)) ads sk ps res
theorem JX4_passesNumber_J42 {X : Cx} {ads : List Nat} {sk : List Sk} (hA : ads.length = sk.length ∧ sk.length ≤ 1000) (hp0 : ocD sk) (σ : Sg) : jX4_passesNumber X ads sk (42, [some (.inr (some 64)), none, none], [], σ) (fX4_passesNumber_J42 σ) := by
  unfold fX4_passesNumber_J42
  refine j_run 22 2 rfl ?_
  refine j_cv 24 5 1 rfl rfl mwX4_refuse hp0.1 rfl rfl (eX4_refuse hA hp0 2 _) rfl rfl (rok rfl rfl) (Nat.le_of_ble_eq_true rfl) (fun q2 _ h2 => ?_)
  exact j_zret 25 rfl rfl (nrR_b h2 rfl) rfl
theorem eX4_passesNumber {X : Cx} {ads : List Nat} {sk : List Sk} (hA : ads.length = sk.length ∧ sk.length ≤ 1000) (hp0 : ocD sk) (x1 : Int) (x2 : Int) (σ : Sg) : CF X mX4_passesNumber ads sk [.inr (some 64), .inl x1, .inl x2] σ wE (fX4_passesNumber x1 x2 σ) := by
  refine CF.of ⟨pX4_passesNumber_ok, tbX4_ok, hA.1, hA.2⟩ (plainFor_of_name plX4) (Nat.le_of_ble_eq_true rfl) ?_
  show jX4_passesNumber X ads sk (0, [some (.inr (some 64)), some (.inl x1), some (.inl x2)], [], σ) (fX4_passesNumber x1 x2 σ)
  unfold fX4_passesNumber
  refine j_run 0 1 rfl ?_
  refine j_gf 1 4 rfl rfl hp0.1 rfl ?_
  refine j_run 2 1 rfl ?_
  refine jc_icmp_eq 3 rfl rfl (fun h1 => ?_) (fun h1 => ?_)
  · refine j_run 6 2 rfl ?_
    refine j_gr 8 2 rfl rfl hp0.1 rfl ?_
    refine j_gr 9 7 rfl rfl hp0.2.1.1 rfl ?_
    refine j_run 10 1 rfl ?_
    refine j_gf 11 1 rfl rfl hp0.1 rfl ?_
    refine j_ald 12 rfl hp0.2.1.2.2.2.1 rfl ?_
    refine j_pf 13 15 rfl rfl hp0.1 rfl rfl (Or.inl rfl) ?_
    refine j_run 14 1 rfl ?_
    refine j_gf 15 15 rfl rfl hp0.1 rfl ?_
    refine j_run 16 1 rfl ?_
    refine jc_icmp_lt 17 rfl rfl (fun h3 => ?_) (fun h3 => ?_)
    · exact j_weak (leP_s (leP_n (leP_n (leP_z)))) (JX4_passesNumber_J42 hA hp0 _)
    · refine j_run 18 1 rfl ?_
      refine j_gf 19 15 rfl rfl hp0.1 rfl ?_
      refine j_run 20 1 rfl ?_
      refine jc_icmp_le 21 rfl rfl (fun h4 => ?_) (fun h4 => ?_)
      · exact j_weak (leP_s (leP_n (leP_n (leP_z)))) (JX4_passesNumber_J42 hA hp0 _)
      · refine j_run 26 1 rfl ?_
        refine j_cv 27 0 0 rfl rfl mwX4_pass hp0.1 rfl rfl (eX4_pass hA hp0 _) rfl rfl (rok rfl rfl) (Nat.le_of_ble_eq_true rfl) (fun s5 _ h5 => ?_)
        refine j_run 28 1 rfl ?_
        exact j_zret 29 rfl rfl (by decide) rfl
  · refine j_run 4 1 rfl ?_
    exact j_zret 5 rfl rfl (by decide) rfl
abbrev jX4_passesPerson (X : Cx) (ads : List Nat) (sk : List Sk) (ps : PS) (res : Option (Int × Sg)) : Prop := J X mX4_passesPerson pX4_passesPerson tbX4 (rmD 2 0 0) 0 0 E0 (fun a => FM X mX4_passesPerson ads sk (wE a)) ads sk ps res
theorem JX4_passesPerson_J82 {X : Cx} {ads : List Nat} {sk : List Sk} (hA : ads.length = sk.length ∧ sk.length ≤ 1000) (hp0 : ocD sk) (σ : Sg) : jX4_passesPerson X ads sk (82, [some (.inr (some 64)), none, none], [], σ) (fX4_passesPerson_J82 σ) := by
  unfold fX4_passesPerson_J82
  refine j_run 40 3 rfl ?_
  refine j_cv 43 10 2 rfl rfl mwX4_passesNumber hp0.1 rfl rfl (eX4_passesNumber hA hp0 0 11 _) rfl rfl (rok rfl rfl) (Nat.le_of_ble_eq_true rfl) (fun q1 _ h1 => ?_)
  exact j_zret 44 rfl rfl (nrR_b h1 rfl) rfl
theorem JX4_passesPerson_J76 {X : Cx} {ads : List Nat} {sk : List Sk} (hA : ads.length = sk.length ∧ sk.length ≤ 1000) (hp0 : ocD sk) (σ : Sg) : jX4_passesPerson X ads sk (76, [some (.inr (some 64)), none, none], [], σ) (fX4_passesPerson_J76 σ) := by
  unfold fX4_passesPerson_J76
  refine j_run 36 2 rfl ?_
  refine j_cv 38 5 1 rfl rfl mwX4_refuse hp0.1 rfl rfl (eX4_refuse hA hp0 2 _) rfl rfl (rok rfl rfl) (Nat.le_of_ble_eq_true rfl) (fun q4 _ h4 => ?_)
  exact j_zret 39 rfl rfl (nrR_b h4 rfl) rfl
theorem eX4_passesPerson {X : Cx} {ads : List Nat} {sk : List Sk} (hA : ads.length = sk.length ∧ sk.length ≤ 1000) (hp0 : ocD sk) (x1 : Int) (σ : Sg) : CF X mX4_passesPerson ads sk [.inr (some 64), .inl x1] σ wE (fX4_passesPerson x1 σ) := by
  refine CF.of ⟨pX4_passesPerson_ok, tbX4_ok, hA.1, hA.2⟩ (plainFor_of_name plX4) (Nat.le_of_ble_eq_true rfl) ?_
  show jX4_passesPerson X ads sk (0, [some (.inr (some 64)), some (.inl x1), none], [], σ) (fX4_passesPerson x1 σ)
  unfold fX4_passesPerson
  refine j_run 0 1 rfl ?_
  refine j_gf 1 4 rfl rfl hp0.1 rfl ?_
  refine j_run 2 1 rfl ?_
  refine jc_icmp_ne 3 rfl rfl (fun h2 => ?_) (fun h2 => ?_)
  · refine j_run 4 1 rfl ?_
    refine j_gr 5 2 rfl rfl hp0.1 rfl ?_
    refine j_gr 6 7 rfl rfl hp0.2.1.1 rfl ?_
    refine j_run 7 1 rfl ?_
    refine j_gf 8 1 rfl rfl hp0.1 rfl ?_
    refine j_ald 9 rfl hp0.2.1.2.2.2.1 rfl ?_
    refine j_run 10 2 rfl ?_
    refine j_gr 12 16 rfl rfl hp0.1 rfl ?_
    refine j_gr 13 17 rfl rfl hp0.2.2.1.1 rfl ?_
    refine j_run 14 1 rfl ?_
    refine j_cvT 15 11 1 rfl rfl mwX1_has hp0.2.2.1.2.2.2.1.1 rfl rfl (eX1_has hA hp0.2.2.1.2.2.2.1 (rd σ 62 (rd σ 64 5)) _) rfl rfl (rok rfl rfl) (Nat.le_of_ble_eq_true rfl) (fun h3 => ?_)
    refine jc_if_eq 16 rfl rfl (fun h5 => ?_) (fun h5 => ?_)
    · exact j_weak (leP_s (leP_n (leP_n (leP_z)))) (JX4_passesPerson_J76 hA hp0 _)
    · refine j_run 17 1 rfl ?_
      refine j_gr 18 16 rfl rfl hp0.1 rfl ?_
      refine j_gr 19 17 rfl rfl hp0.2.2.1.1 rfl ?_
      refine j_run 20 1 rfl ?_
      refine j_cvT 21 11 1 rfl rfl mwX1_has hp0.2.2.1.2.2.2.1.1 rfl rfl (eX1_has hA hp0.2.2.1.2.2.2.1 x1 _) rfl rfl (rok rfl rfl) (Nat.le_of_ble_eq_true rfl) (fun h6 => ?_)
      refine jc_if_eq 22 rfl rfl (fun h7 => ?_) (fun h7 => ?_)
      · exact j_weak (leP_s (leP_n (leP_n (leP_z)))) (JX4_passesPerson_J82 hA hp0 _)
      · refine j_run 23 1 rfl ?_
        refine j_gr 24 16 rfl rfl hp0.1 rfl ?_
        refine j_gr 25 17 rfl rfl hp0.2.2.1.1 rfl ?_
        refine j_gr 26 18 rfl rfl hp0.2.2.1.2.2.2.1.1 rfl ?_
        refine j_run 27 1 rfl ?_
        refine j_ald 28 rfl hp0.2.2.1.2.2.2.1.2.1 rfl ?_
        refine j_run 29 1 rfl ?_
        refine j_gr 30 16 rfl rfl hp0.1 rfl ?_
        refine j_gr 31 17 rfl rfl hp0.2.2.1.1 rfl ?_
        refine j_gr 32 18 rfl rfl hp0.2.2.1.2.2.2.1.1 rfl ?_
        refine j_run 33 1 rfl ?_
        refine j_ald 34 rfl hp0.2.2.1.2.2.2.1.2.1 rfl ?_
        refine jc_icmp_ne 35 rfl rfl (fun h8 => ?_) (fun h8 => ?_)
        · exact j_weak (leP_s (leP_n (leP_n (leP_z)))) (JX4_passesPerson_J76 hA hp0 _)
        · exact j_weak (leP_s (leP_n (leP_n (leP_z)))) (JX4_passesPerson_J82 hA hp0 _)
  · exact j_weak (leP_s (leP_n (leP_n (leP_z)))) (JX4_passesPerson_J82 hA hp0 _)
abbrev jX4_passesField (X : Cx) (ads : List Nat) (sk : List Sk) (ps : PS) (res : Option (Int × Sg)) : Prop := J X mX4_passesField pX4_passesField tbX4 (rmD 2 0 0) 0 0 E0 (fun a => FM X mX4_passesField ads sk (wE a)) ads sk ps res
theorem JX4_passesField_J36 {X : Cx} {ads : List Nat} {sk : List Sk} (hA : ads.length = sk.length ∧ sk.length ≤ 1000) (hp0 : ocD sk) (σ : Sg) : jX4_passesField X ads sk (36, [some (.inr (some 64))], [], σ) (fX4_passesField_J36 σ) := by
  unfold fX4_passesField_J36
  refine j_run 18 3 rfl ?_
  refine j_cv 21 10 2 rfl rfl mwX4_passesNumber hp0.1 rfl rfl (eX4_passesNumber hA hp0 0 55 _) rfl rfl (rok rfl rfl) (Nat.le_of_ble_eq_true rfl) (fun q1 _ h1 => ?_)
  exact j_zret 22 rfl rfl (nrR_b h1 rfl) rfl
theorem eX4_passesField {X : Cx} {ads : List Nat} {sk : List Sk} (hA : ads.length = sk.length ∧ sk.length ≤ 1000) (hp0 : ocD sk) (σ : Sg) : CF X mX4_passesField ads sk [.inr (some 64)] σ wE (fX4_passesField σ) := by
  refine CF.of ⟨pX4_passesField_ok, tbX4_ok, hA.1, hA.2⟩ (plainFor_of_name plX4) (Nat.le_of_ble_eq_true rfl) ?_
  show jX4_passesField X ads sk (0, [some (.inr (some 64))], [], σ) (fX4_passesField σ)
  unfold fX4_passesField
  refine j_run 0 1 rfl ?_
  refine j_gf 1 4 rfl rfl hp0.1 rfl ?_
  refine j_run 2 1 rfl ?_
  refine jc_icmp_ne 3 rfl rfl (fun h2 => ?_) (fun h2 => ?_)
  · refine j_run 4 1 rfl ?_
    refine j_gr 5 16 rfl rfl hp0.1 rfl ?_
    refine j_run 6 1 rfl ?_
    refine j_gr 7 2 rfl rfl hp0.1 rfl ?_
    refine j_gr 8 7 rfl rfl hp0.2.1.1 rfl ?_
    refine j_run 9 1 rfl ?_
    refine j_gf 10 1 rfl rfl hp0.1 rfl ?_
    refine j_ald 11 rfl hp0.2.1.2.2.2.1 rfl ?_
    refine j_cvT 12 12 1 rfl rfl mwX9_hasField hp0.2.2.1.1 rfl rfl (eX9_hasField hA hp0.2.2.1 (rd σ 62 (rd σ 64 5)) _) rfl rfl (rok rfl rfl) (Nat.le_of_ble_eq_true rfl) (fun h3 => ?_)
    refine jc_if_ne 13 rfl rfl (fun h4 => ?_) (fun h4 => ?_)
    · refine j_run 14 2 rfl ?_
      refine j_cv 16 5 1 rfl rfl mwX4_refuse hp0.1 rfl rfl (eX4_refuse hA hp0 2 _) rfl rfl (rok rfl rfl) (Nat.le_of_ble_eq_true rfl) (fun q5 _ h5 => ?_)
      exact j_zret 17 rfl rfl (nrR_b h5 rfl) rfl
    · exact j_weak (leP_s (leP_z)) (JX4_passesField_J36 hA hp0 _)
  · exact j_weak (leP_s (leP_z)) (JX4_passesField_J36 hA hp0 _)
abbrev jX6_add (X : Cx) (ads : List Nat) (sk : List Sk) (ps : PS) (res : Option (Int × Sg)) : Prop := J X mX6_add pX6_add tbX6 (rmD 0 0 0) 0 0 E0 (fun a => FM X mX6_add ads sk (wE a)) ads sk ps res
theorem eX6_add {X : Cx} {ads : List Nat} {sk : List Sk} (hA : ads.length = sk.length ∧ sk.length ≤ 1000) {c0 : Nat} {N0 : Nat} (hp0 : ocR sk c0 N0) (x1 : Int) (x2 : Int) (x3 : Int) (x4 : Int) (σ : Sg) : CF X mX6_add ads sk [.inr (some c0), .inl x1, .inl x2, .inl x3, .inl x4] σ wE (fX6_add c0 N0 x1 x2 x3 x4 σ) := by
  refine CF.of ⟨pX6_add_ok, tbX6_ok, hA.1, hA.2⟩ (plainFor_of_name plX6) (Nat.le_of_ble_eq_true rfl) ?_
  show jX6_add X ads sk (0, [some (.inr (some c0)), some (.inl x1), some (.inl x2), some (.inl x3), some (.inl x4), none], [], σ) (fX6_add c0 N0 x1 x2 x3 x4 σ)
  unfold fX6_add
  refine j_run 0 1 rfl ?_
  refine j_gf 1 0 rfl rfl hp0.1 rfl ?_
  refine j_run 2 1 rfl ?_
  refine j_gf 3 1 rfl rfl hp0.1 rfl ?_
  refine jc_icmp_lt 4 rfl rfl (fun h1 => ?_) (fun h1 => ?_)
  · refine j_run 7 1 rfl ?_
    refine j_gf 8 0 rfl rfl hp0.1 rfl ?_
    refine j_run 9 4 rfl ?_
    refine j_gr 13 2 rfl rfl hp0.1 rfl ?_
    refine j_run 14 2 rfl ?_
    refine j_ast 16 rfl hp0.2 rfl ?_
    refine j_run 17 1 rfl ?_
    refine j_gr 18 2 rfl rfl hp0.1 rfl ?_
    refine j_run 19 4 rfl ?_
    refine j_ast 23 rfl hp0.2 rfl ?_
    refine j_run 24 1 rfl ?_
    refine j_gr 25 2 rfl rfl hp0.1 rfl ?_
    refine j_run 26 4 rfl ?_
    refine j_ast 30 rfl hp0.2 rfl ?_
    refine j_run 31 1 rfl ?_
    refine j_gr 32 2 rfl rfl hp0.1 rfl ?_
    refine j_run 33 4 rfl ?_
    refine j_ast 37 rfl hp0.2 rfl ?_
    refine j_run 38 2 rfl ?_
    refine j_gf 40 0 rfl rfl hp0.1 rfl ?_
    refine j_run 41 2 rfl ?_
    refine j_pf 43 0 rfl rfl hp0.1 rfl rfl (Or.inl rfl) ?_
    refine j_run 44 1 rfl ?_
    exact j_zret 45 rfl rfl (by decide) rfl
  · refine j_run 5 1 rfl ?_
    exact j_zret 6 rfl rfl (by decide) rfl
abbrev jX4_vowLine (X : Cx) (ads : List Nat) (sk : List Sk) (ps : PS) (res : Option (Int × Sg)) : Prop := J X mX4_vowLine pX4_vowLine tbX4 (rmD 3 0 0) 0 0 E0 (fun a => FM X mX4_vowLine ads sk (wE a)) ads sk ps res
theorem eX4_vowLine {X : Cx} {ads : List Nat} {sk : List Sk} (hA : ads.length = sk.length ∧ sk.length ≤ 1000) (hp0 : ocD sk) (σ : Sg) : CF X mX4_vowLine ads sk [.inr (some 64)] σ wE (fX4_vowLine σ) := by
  refine CF.of ⟨pX4_vowLine_ok, tbX4_ok, hA.1, hA.2⟩ (plainFor_of_name plX4) (Nat.le_of_ble_eq_true rfl) ?_
  show jX4_vowLine X ads sk (0, [some (.inr (some 64)), none, none, none, none], [], σ) (fX4_vowLine σ)
  unfold fX4_vowLine
  refine j_run 0 3 rfl ?_
  refine j_gr 3 5 rfl rfl hp0.1 rfl ?_
  refine j_gr 4 19 rfl rfl hp0.2.2.2.1 rfl ?_
  refine j_cv 5 13 2 rfl rfl mwX4_begins hp0.1 rfl rfl (eX4_begins hA hp0 hp0.2.2.2.2.2.2.2.2.1 20 _) rfl rfl (rok rfl rfl) (Nat.le_of_ble_eq_true rfl) (fun q1 _ h1 => ?_)
  refine jc_if_eq 6 rfl rfl (fun h2 => ?_) (fun h2 => ?_)
  · refine j_run 12 1 rfl ?_
    exact j_zret 13 rfl rfl (by decide) rfl
  · refine j_run 7 3 rfl ?_
    refine j_cv 10 10 2 rfl rfl mwX4_passesNumber hp0.1 rfl rfl (eX4_passesNumber hA hp0 0 999 _) rfl rfl (rok rfl rfl) (Nat.le_of_ble_eq_true rfl) (fun q3 _ h3 => ?_)
    refine jc_if_ne 11 rfl rfl (fun h4 => ?_) (fun h4 => ?_)
    · refine j_run 12 1 rfl ?_
      exact j_zret 13 rfl rfl (by decide) rfl
    · refine j_run 14 1 rfl ?_
      refine j_gf 15 15 rfl rfl hp0.1 rfl ?_
      refine j_run 16 3 rfl ?_
      refine j_cv 19 14 1 rfl rfl mwX4_passesPerson hp0.1 rfl rfl (eX4_passesPerson hA hp0 (-1) _) rfl rfl (rok rfl rfl) (Nat.le_of_ble_eq_true rfl) (fun q5 _ h5 => ?_)
      refine jc_if_ne 20 rfl rfl (fun h6 => ?_) (fun h6 => ?_)
      · refine j_run 21 1 rfl ?_
        exact j_zret 22 rfl rfl (by decide) rfl
      · refine j_run 23 1 rfl ?_
        refine j_gf 24 15 rfl rfl hp0.1 rfl ?_
        refine j_run 25 3 rfl ?_
        refine j_cv 28 8 1 rfl rfl mwX4_passes hp0.1 rfl rfl (eX4_passes hA hp0 8 _) rfl rfl (rok rfl rfl) (Nat.le_of_ble_eq_true rfl) (fun q7 _ h7 => ?_)
        refine jc_if_eq 29 rfl rfl (fun h8 => ?_) (fun h8 => ?_)
        · refine j_run 34 1 rfl ?_
          exact j_zret 35 rfl rfl (by decide) rfl
        · refine j_run 30 2 rfl ?_
          refine j_cv 32 14 1 rfl rfl mwX4_passesPerson hp0.1 rfl rfl (eX4_passesPerson hA hp0 (rd q5.2 64 7) _) rfl rfl (rok rfl rfl) (Nat.le_of_ble_eq_true rfl) (fun q9 _ h9 => ?_)
          refine jc_if_ne 33 rfl rfl (fun h10 => ?_) (fun h10 => ?_)
          · refine j_run 34 1 rfl ?_
            exact j_zret 35 rfl rfl (by decide) rfl
          · refine j_run 36 1 rfl ?_
            refine j_gf 37 15 rfl rfl hp0.1 rfl ?_
            refine j_run 38 3 rfl ?_
            refine j_cv 41 8 1 rfl rfl mwX4_passes hp0.1 rfl rfl (eX4_passes hA hp0 21 _) rfl rfl (rok rfl rfl) (Nat.le_of_ble_eq_true rfl) (fun q11 _ h11 => ?_)
            refine jc_if_eq 42 rfl rfl (fun h12 => ?_) (fun h12 => ?_)
            · refine j_run 46 1 rfl ?_
              exact j_zret 47 rfl rfl (by decide) rfl
            · refine j_run 43 1 rfl ?_
              refine j_cv 44 15 0 rfl rfl mwX4_passesField hp0.1 rfl rfl (eX4_passesField hA hp0 _) rfl rfl (rok rfl rfl) (Nat.le_of_ble_eq_true rfl) (fun q13 _ h13 => ?_)
              refine jc_if_ne 45 rfl rfl (fun h14 => ?_) (fun h14 => ?_)
              · refine j_run 46 1 rfl ?_
                exact j_zret 47 rfl rfl (by decide) rfl
              · refine j_run 48 1 rfl ?_
                refine j_gf 49 15 rfl rfl hp0.1 rfl ?_
                refine j_run 50 3 rfl ?_
                refine j_cv 53 8 1 rfl rfl mwX4_passes hp0.1 rfl rfl (eX4_passes hA hp0 59 _) rfl rfl (rok rfl rfl) (Nat.le_of_ble_eq_true rfl) (fun q15 _ h15 => ?_)
                refine jc_if_eq 54 rfl rfl (fun h16 => ?_) (fun h16 => ?_)
                · refine j_run 66 1 rfl ?_
                  exact j_zret 67 rfl rfl (by decide) rfl
                · refine j_run 55 1 rfl ?_
                  refine j_gr 56 5 rfl rfl hp0.1 rfl ?_
                  refine j_gr 57 19 rfl rfl hp0.2.2.2.1 rfl ?_
                  refine j_run 58 4 rfl ?_
                  refine j_cv 62 16 4 rfl rfl mwX6_add hp0.2.2.2.2.2.2.2.2.1.1 rfl rfl (eX6_add hA hp0.2.2.2.2.2.2.2.2.1 (rd q3.2 64 7) (rd q5.2 64 7) (rd q9.2 64 7) (rd q13.2 64 7) _) rfl rfl (rok rfl rfl) (Nat.le_of_ble_eq_true rfl) (fun q17 _ h17 => ?_)
                  refine jc_if_eq 63 rfl rfl (fun h18 => ?_) (fun h18 => ?_)
                  · refine j_run 66 1 rfl ?_
                    exact j_zret 67 rfl rfl (by decide) rfl
                  · refine j_run 64 1 rfl ?_
                    refine j_goto 65 rfl rfl ?_
                    exact j_zret 67 rfl rfl (by decide) rfl
abbrev jX4_weatherLine (X : Cx) (ads : List Nat) (sk : List Sk) (ps : PS) (res : Option (Int × Sg)) : Prop := J X mX4_weatherLine pX4_weatherLine tbX4 (rmD 3 0 0) 0 0 E0 (fun a => FM X mX4_weatherLine ads sk (wE a)) ads sk ps res
theorem eX4_weatherLine {X : Cx} {ads : List Nat} {sk : List Sk} (hA : ads.length = sk.length ∧ sk.length ≤ 1000) (hp0 : ocD sk) (σ : Sg) : CF X mX4_weatherLine ads sk [.inr (some 64)] σ wE (fX4_weatherLine σ) := by
  refine CF.of ⟨pX4_weatherLine_ok, tbX4_ok, hA.1, hA.2⟩ (plainFor_of_name plX4) (Nat.le_of_ble_eq_true rfl) ?_
  show jX4_weatherLine X ads sk (0, [some (.inr (some 64)), none, none], [], σ) (fX4_weatherLine σ)
  unfold fX4_weatherLine
  refine j_run 0 3 rfl ?_
  refine j_gr 3 5 rfl rfl hp0.1 rfl ?_
  refine j_gr 4 20 rfl rfl hp0.2.2.2.1 rfl ?_
  refine j_cv 5 13 2 rfl rfl mwX4_begins hp0.1 rfl rfl (eX4_begins hA hp0 hp0.2.2.2.2.2.2.2.2.2.1 22 _) rfl rfl (rok rfl rfl) (Nat.le_of_ble_eq_true rfl) (fun q1 _ h1 => ?_)
  refine jc_if_eq 6 rfl rfl (fun h2 => ?_) (fun h2 => ?_)
  · refine j_run 12 1 rfl ?_
    exact j_zret 13 rfl rfl (by decide) rfl
  · refine j_run 7 3 rfl ?_
    refine j_cv 10 10 2 rfl rfl mwX4_passesNumber hp0.1 rfl rfl (eX4_passesNumber hA hp0 1 60 _) rfl rfl (rok rfl rfl) (Nat.le_of_ble_eq_true rfl) (fun q3 _ h3 => ?_)
    refine jc_if_ne 11 rfl rfl (fun h4 => ?_) (fun h4 => ?_)
    · refine j_run 12 1 rfl ?_
      exact j_zret 13 rfl rfl (by decide) rfl
    · refine j_run 14 1 rfl ?_
      refine j_gf 15 15 rfl rfl hp0.1 rfl ?_
      refine j_run 16 3 rfl ?_
      refine j_cv 19 8 1 rfl rfl mwX4_passes hp0.1 rfl rfl (eX4_passes hA hp0 17 _) rfl rfl (rok rfl rfl) (Nat.le_of_ble_eq_true rfl) (fun q5 _ h5 => ?_)
      refine jc_if_eq 20 rfl rfl (fun h6 => ?_) (fun h6 => ?_)
      · refine j_run 26 1 rfl ?_
        exact j_zret 27 rfl rfl (by decide) rfl
      · refine j_run 21 3 rfl ?_
        refine j_cv 24 10 2 rfl rfl mwX4_passesNumber hp0.1 rfl rfl (eX4_passesNumber hA hp0 0 30 _) rfl rfl (rok rfl rfl) (Nat.le_of_ble_eq_true rfl) (fun q7 _ h7 => ?_)
        refine jc_if_ne 25 rfl rfl (fun h8 => ?_) (fun h8 => ?_)
        · refine j_run 26 1 rfl ?_
          exact j_zret 27 rfl rfl (by decide) rfl
        · refine j_run 28 1 rfl ?_
          refine j_gf 29 15 rfl rfl hp0.1 rfl ?_
          refine j_run 30 3 rfl ?_
          refine j_cv 33 8 1 rfl rfl mwX4_passes hp0.1 rfl rfl (eX4_passes hA hp0 59 _) rfl rfl (rok rfl rfl) (Nat.le_of_ble_eq_true rfl) (fun q9 _ h9 => ?_)
          refine jc_if_eq 34 rfl rfl (fun h10 => ?_) (fun h10 => ?_)
          · refine j_run 46 1 rfl ?_
            exact j_zret 47 rfl rfl (by decide) rfl
          · refine j_run 35 1 rfl ?_
            refine j_gr 36 5 rfl rfl hp0.1 rfl ?_
            refine j_gr 37 20 rfl rfl hp0.2.2.2.1 rfl ?_
            refine j_run 38 4 rfl ?_
            refine j_cv 42 16 4 rfl rfl mwX6_add hp0.2.2.2.2.2.2.2.2.2.1.1 rfl rfl (eX6_add hA hp0.2.2.2.2.2.2.2.2.2.1 (rd q3.2 64 7) (rd q7.2 64 7) 0 0 _) rfl rfl (rok rfl rfl) (Nat.le_of_ble_eq_true rfl) (fun q11 _ h11 => ?_)
            refine jc_if_eq 43 rfl rfl (fun h12 => ?_) (fun h12 => ?_)
            · refine j_run 46 1 rfl ?_
              exact j_zret 47 rfl rfl (by decide) rfl
            · refine j_run 44 1 rfl ?_
              refine j_goto 45 rfl rfl ?_
              exact j_zret 47 rfl rfl (by decide) rfl
abbrev jX4_wantLine (X : Cx) (ads : List Nat) (sk : List Sk) (ps : PS) (res : Option (Int × Sg)) : Prop := J X mX4_wantLine pX4_wantLine tbX4 (rmD 3 0 0) 0 0 E0 (fun a => FM X mX4_wantLine ads sk (wE a)) ads sk ps res
theorem eX4_wantLine {X : Cx} {ads : List Nat} {sk : List Sk} (hA : ads.length = sk.length ∧ sk.length ≤ 1000) (hp0 : ocD sk) (σ : Sg) : CF X mX4_wantLine ads sk [.inr (some 64)] σ wE (fX4_wantLine σ) := by
  refine CF.of ⟨pX4_wantLine_ok, tbX4_ok, hA.1, hA.2⟩ (plainFor_of_name plX4) (Nat.le_of_ble_eq_true rfl) ?_
  show jX4_wantLine X ads sk (0, [some (.inr (some 64)), none, none, none], [], σ) (fX4_wantLine σ)
  unfold fX4_wantLine
  refine j_run 0 3 rfl ?_
  refine j_gr 3 5 rfl rfl hp0.1 rfl ?_
  refine j_gr 4 21 rfl rfl hp0.2.2.2.1 rfl ?_
  refine j_cv 5 13 2 rfl rfl mwX4_begins hp0.1 rfl rfl (eX4_begins hA hp0 hp0.2.2.2.2.2.2.2.2.2.2.1 23 _) rfl rfl (rok rfl rfl) (Nat.le_of_ble_eq_true rfl) (fun q1 _ h1 => ?_)
  refine jc_if_eq 6 rfl rfl (fun h2 => ?_) (fun h2 => ?_)
  · refine j_run 10 1 rfl ?_
    exact j_zret 11 rfl rfl (by decide) rfl
  · refine j_run 7 1 rfl ?_
    refine j_cv 8 15 0 rfl rfl mwX4_passesField hp0.1 rfl rfl (eX4_passesField hA hp0 _) rfl rfl (rok rfl rfl) (Nat.le_of_ble_eq_true rfl) (fun q3 _ h3 => ?_)
    refine jc_if_ne 9 rfl rfl (fun h4 => ?_) (fun h4 => ?_)
    · refine j_run 10 1 rfl ?_
      exact j_zret 11 rfl rfl (by decide) rfl
    · refine j_run 12 1 rfl ?_
      refine j_gf 13 15 rfl rfl hp0.1 rfl ?_
      refine j_run 14 3 rfl ?_
      refine j_cv 17 8 1 rfl rfl mwX4_passes hp0.1 rfl rfl (eX4_passes hA hp0 20 _) rfl rfl (rok rfl rfl) (Nat.le_of_ble_eq_true rfl) (fun q5 _ h5 => ?_)
      refine jc_if_eq 18 rfl rfl (fun h6 => ?_) (fun h6 => ?_)
      · refine j_run 24 1 rfl ?_
        exact j_zret 25 rfl rfl (by decide) rfl
      · refine j_run 19 3 rfl ?_
        refine j_cv 22 10 2 rfl rfl mwX4_passesNumber hp0.1 rfl rfl (eX4_passesNumber hA hp0 0 999 _) rfl rfl (rok rfl rfl) (Nat.le_of_ble_eq_true rfl) (fun q7 _ h7 => ?_)
        refine jc_if_ne 23 rfl rfl (fun h8 => ?_) (fun h8 => ?_)
        · refine j_run 24 1 rfl ?_
          exact j_zret 25 rfl rfl (by decide) rfl
        · refine j_run 26 1 rfl ?_
          refine j_gf 27 15 rfl rfl hp0.1 rfl ?_
          refine j_run 28 3 rfl ?_
          refine j_cv 31 8 1 rfl rfl mwX4_passes hp0.1 rfl rfl (eX4_passes hA hp0 24 _) rfl rfl (rok rfl rfl) (Nat.le_of_ble_eq_true rfl) (fun q9 _ h9 => ?_)
          refine jc_if_eq 32 rfl rfl (fun h10 => ?_) (fun h10 => ?_)
          · refine j_run 38 1 rfl ?_
            exact j_zret 39 rfl rfl (by decide) rfl
          · refine j_run 33 3 rfl ?_
            refine j_cv 36 10 2 rfl rfl mwX4_passesNumber hp0.1 rfl rfl (eX4_passesNumber hA hp0 1 99 _) rfl rfl (rok rfl rfl) (Nat.le_of_ble_eq_true rfl) (fun q11 _ h11 => ?_)
            refine jc_if_ne 37 rfl rfl (fun h12 => ?_) (fun h12 => ?_)
            · refine j_run 38 1 rfl ?_
              exact j_zret 39 rfl rfl (by decide) rfl
            · refine j_run 40 1 rfl ?_
              refine j_gf 41 15 rfl rfl hp0.1 rfl ?_
              refine j_run 42 3 rfl ?_
              refine j_cv 45 8 1 rfl rfl mwX4_passes hp0.1 rfl rfl (eX4_passes hA hp0 59 _) rfl rfl (rok rfl rfl) (Nat.le_of_ble_eq_true rfl) (fun q13 _ h13 => ?_)
              refine jc_if_eq 46 rfl rfl (fun h14 => ?_) (fun h14 => ?_)
              · refine j_run 58 1 rfl ?_
                exact j_zret 59 rfl rfl (by decide) rfl
              · refine j_run 47 1 rfl ?_
                refine j_gr 48 5 rfl rfl hp0.1 rfl ?_
                refine j_gr 49 21 rfl rfl hp0.2.2.2.1 rfl ?_
                refine j_run 50 4 rfl ?_
                refine j_cv 54 16 4 rfl rfl mwX6_add hp0.2.2.2.2.2.2.2.2.2.2.1.1 rfl rfl (eX6_add hA hp0.2.2.2.2.2.2.2.2.2.2.1 (rd q3.2 64 7) (rd q7.2 64 7) (rd q11.2 64 7) 0 _) rfl rfl (rok rfl rfl) (Nat.le_of_ble_eq_true rfl) (fun q15 _ h15 => ?_)
                refine jc_if_eq 55 rfl rfl (fun h16 => ?_) (fun h16 => ?_)
                · refine j_run 58 1 rfl ?_
                  exact j_zret 59 rfl rfl (by decide) rfl
                · refine j_run 56 1 rfl ?_
                  refine j_goto 57 rfl rfl ?_
                  exact j_zret 59 rfl rfl (by decide) rfl
abbrev jX4_reads (X : Cx) (ads : List Nat) (sk : List Sk) (ps : PS) (res : Option (Int × Sg)) : Prop := J X mX4_reads pX4_reads tbX4 (rmD 45 0 0) 0 0 E0 (fun a => FM X mX4_reads ads sk (wE a)) ads sk ps res
theorem JX4_reads_J105 {X : Cx} {ads : List Nat} {sk : List Sk} (hA : ads.length = sk.length ∧ sk.length ≤ 1000) (hp0 : ocD sk) (x1 : Int) (x2 : Int) (k52 : Int → Sg → Option (Int × Sg)) (hk52 : ∀ (x2 : Int) (σ : Sg), jX4_reads X ads sk (52, [some (.inr (some 64)), some (.inl x1), some (.inl x2), none], [], σ) (k52 x2 σ)) (k110 : Sg → Option (Int × Sg)) (hk110 : ∀  (σ : Sg), jX4_reads X ads sk (110, [some (.inr (some 64)), none, none, none], [], σ) (k110 σ)) (y0 : Int) (σ : Sg) : jX4_reads X ads sk (105, [some (.inr (some 64)), some (.inl x1), some (.inl x2), none], [.inl y0], σ) (fX4_reads_J105 k52 k110 x1 x2 y0 σ) := by
  unfold fX4_reads_J105
  refine j_run 53 2 rfl ?_
  refine jc_if_ne 55 rfl rfl (fun h5 => ?_) (fun h5 => ?_)
  · exact j_weak (leP_s (leP_n (leP_n (leP_n (leP_z))))) (hk110 _)
  · refine j_run 75 1 rfl ?_
    refine j_goto 76 rfl rfl ?_
    exact j_weak (leP_s (leP_s (leP_s (leP_n (leP_z))))) (hk52 (bw (x2 + 1)) _)
theorem JX4_reads_L52 {X : Cx} {ads : List Nat} {sk : List Sk} (hA : ads.length = sk.length ∧ sk.length ≤ 1000) (hp0 : ocD sk) (x1 : Int) (k110 : Sg → Option (Int × Sg)) (hk110 : ∀  (σ : Sg), jX4_reads X ads sk (110, [some (.inr (some 64)), none, none, none], [], σ) (k110 σ)) : ∀ (n : Nat) (x2 : Int) (σ : Sg), jX4_reads X ads sk (52, [some (.inr (some 64)), some (.inl x1), some (.inl x2), none], [], σ) (fX4_reads_L52 k110 x1 n x2 σ) := by
  intro n
  induction n with
  | zero => intro x2 σ; exact j_none
  | succ n ih =>
    intro x2 σ
    rw [fX4_reads_L52]
    refine j_run 28 2 rfl ?_
    refine jc_icmp_gt 30 rfl rfl (fun h3 => ?_) (fun h3 => ?_)
    · refine j_run 77 1 rfl ?_
      exact j_zret 78 rfl rfl (by decide) rfl
    · refine j_run 31 1 rfl ?_
      refine j_gf 32 4 rfl rfl hp0.1 rfl ?_
      refine jc_if_eq 33 rfl rfl (fun h4 => ?_) (fun h4 => ?_)
      · refine j_run 77 1 rfl ?_
        exact j_zret 78 rfl rfl (by decide) rfl
      · refine j_run 34 1 rfl ?_
        refine jc_if_ne 35 rfl rfl (fun h6 => ?_) (fun h6 => ?_)
        · refine j_run 36 1 rfl ?_
          refine j_cv 37 19 0 rfl rfl mwX4_lawLine hp0.1 rfl rfl (eX4_lawLine hA hp0 _) rfl rfl (rok rfl rfl) (Nat.le_of_ble_eq_true rfl) (fun q7 _ h7 => ?_)
          refine j_goto 38 rfl rfl ?_
          exact j_weak (leP_s (leP_s (leP_s (leP_n (leP_z))))) (JX4_reads_J105 hA hp0 x1 x2 _ ih _ hk110 q7.1 _)
        · refine j_run 39 2 rfl ?_
          refine jc_icmp_ne 41 rfl rfl (fun h8 => ?_) (fun h8 => ?_)
          · refine j_run 42 1 rfl ?_
            refine j_cv 43 20 0 rfl rfl mwX4_vowLine hp0.1 rfl rfl (eX4_vowLine hA hp0 _) rfl rfl (rok rfl rfl) (Nat.le_of_ble_eq_true rfl) (fun q9 _ h9 => ?_)
            refine j_goto 44 rfl rfl ?_
            exact j_weak (leP_s (leP_s (leP_s (leP_n (leP_z))))) (JX4_reads_J105 hA hp0 x1 x2 _ ih _ hk110 q9.1 _)
          · refine j_run 45 2 rfl ?_
            refine jc_icmp_ne 47 rfl rfl (fun h10 => ?_) (fun h10 => ?_)
            · refine j_run 48 1 rfl ?_
              refine j_cv 49 21 0 rfl rfl mwX4_weatherLine hp0.1 rfl rfl (eX4_weatherLine hA hp0 _) rfl rfl (rok rfl rfl) (Nat.le_of_ble_eq_true rfl) (fun q11 _ h11 => ?_)
              refine j_goto 50 rfl rfl ?_
              exact j_weak (leP_s (leP_s (leP_s (leP_n (leP_z))))) (JX4_reads_J105 hA hp0 x1 x2 _ ih _ hk110 q11.1 _)
            · refine j_run 51 1 rfl ?_
              refine j_cv 52 22 0 rfl rfl mwX4_wantLine hp0.1 rfl rfl (eX4_wantLine hA hp0 _) rfl rfl (rok rfl rfl) (Nat.le_of_ble_eq_true rfl) (fun q12 _ h12 => ?_)
              exact j_weak (leP_s (leP_s (leP_s (leP_n (leP_z))))) (JX4_reads_J105 hA hp0 x1 x2 _ ih _ hk110 q12.1 _)
theorem eX4_reads {X : Cx} {ads : List Nat} {sk : List Sk} (hA : ads.length = sk.length ∧ sk.length ≤ 1000) (hp0 : ocD sk) (x1 : Int) (σ : Sg) : CF X mX4_reads ads sk [.inr (some 64), .inl x1] σ wE (fX4_reads x1 σ) := by
  refine CF.of ⟨pX4_reads_ok, tbX4_ok, hA.1, hA.2⟩ (plainFor_of_name plX4) (Nat.le_of_ble_eq_true rfl) ?_
  show jX4_reads X ads sk (0, [some (.inr (some 64)), some (.inl x1), none, none], [], σ) (fX4_reads x1 σ)
  unfold fX4_reads
  refine j_run 0 2 rfl ?_
  refine j_pf 2 1 rfl rfl hp0.1 rfl rfl (Or.inl rfl) ?_
  refine j_run 3 2 rfl ?_
  refine j_gr 5 2 rfl rfl hp0.1 rfl ?_
  refine j_gr 6 3 rfl rfl hp0.2.1.1 rfl ?_
  refine j_run 7 1 rfl ?_
  refine j_ald0 8 rfl hp0.2.1.2.2.1 (by decide) ?_
  refine j_pf 9 4 rfl rfl hp0.1 rfl rfl (Or.inl rfl) ?_
  refine j_run 10 2 rfl ?_
  refine j_pf 12 0 rfl rfl hp0.1 rfl rfl (Or.inl rfl) ?_
  refine j_run 13 2 rfl ?_
  refine j_pf 15 22 rfl rfl hp0.1 rfl rfl (Or.inl rfl) ?_
  refine j_run 16 1 rfl ?_
  refine j_gr 17 5 rfl rfl hp0.1 rfl ?_
  refine j_gr 18 6 rfl rfl hp0.2.2.2.1 rfl ?_
  refine j_cv 19 17 0 rfl rfl mwX2_clear hp0.2.2.2.2.2.2.2.1.1 rfl rfl (eX2_clear hA hp0.2.2.2.2.2.2.2.1 _) rfl rfl (rok rfl rfl) (Nat.le_of_ble_eq_true rfl) (fun s1 _ h1 => ?_)
  refine j_run 20 1 rfl ?_
  refine j_gr 21 5 rfl rfl hp0.1 rfl ?_
  refine j_run 22 1 rfl ?_
  refine j_cvT 23 18 1 rfl rfl mwX9_rowsOf hp0.2.2.2.1 rfl rfl (eX9_rowsOf hA hp0.2.2.2 x1 _) rfl rfl (rok rfl rfl) (Nat.le_of_ble_eq_true rfl) (fun h2 => ?_)
  refine j_run 24 1 rfl ?_
  refine j_pf 25 13 rfl rfl (rowsOf_ok hp0.2.2.2 x1).1 rfl rfl (Or.inl rfl) ?_
  refine j_run 26 2 rfl ?_
  refine j_weak (leP_s (leP_s (leP_s (leP_n (leP_z))))) (JX4_reads_L52 hA hp0 x1 _ (fun s13 => ?_) FU 0 _)
  refine j_run 56 2 rfl ?_
  refine j_gf 58 0 rfl rfl hp0.1 rfl ?_
  refine jc_if_ne 59 rfl rfl (fun h14 => ?_) (fun h14 => ?_)
  · refine j_run 60 1 rfl ?_
    refine j_goto 61 rfl rfl ?_
    refine j_pf 64 0 rfl rfl hp0.1 rfl rfl (Or.inl rfl) ?_
    refine j_run 65 2 rfl ?_
    refine j_gr 67 2 rfl rfl hp0.1 rfl ?_
    refine j_gr 68 23 rfl rfl hp0.2.1.1 rfl ?_
    refine j_run 69 1 rfl ?_
    refine j_gf 70 1 rfl rfl hp0.1 rfl ?_
    refine j_ald 71 rfl hp0.2.1.2.2.2.2 rfl ?_
    refine j_pf 72 22 rfl rfl hp0.1 rfl rfl (Or.inl rfl) ?_
    refine j_run 73 1 rfl ?_
    exact j_zret 74 rfl rfl (by decide) rfl
  · refine j_run 62 1 rfl ?_
    refine j_gf 63 0 rfl rfl hp0.1 rfl ?_
    refine j_pf 64 0 rfl rfl hp0.1 rfl rfl (Or.inl rfl) ?_
    refine j_run 65 2 rfl ?_
    refine j_gr 67 2 rfl rfl hp0.1 rfl ?_
    refine j_gr 68 23 rfl rfl hp0.2.1.1 rfl ?_
    refine j_run 69 1 rfl ?_
    refine j_gf 70 1 rfl rfl hp0.1 rfl ?_
    refine j_ald 71 rfl hp0.2.1.2.2.2.2 rfl ?_
    refine j_pf 72 22 rfl rfl hp0.1 rfl rfl (Or.inl rfl) ?_
    refine j_run 73 1 rfl ?_
    exact j_zret 74 rfl rfl (by decide) rfl
abbrev jX6_cell (X : Cx) (ads : List Nat) (sk : List Sk) (σ : Sg) (ps : PS) (res : Option (Int)) : Prop := J X mX6_cell pX6_cell tbX6 (rmD 0 0 0) 0 0 E0 (fun a => FM X mX6_cell ads sk ((wP σ) a)) ads sk ps res
theorem eX6_cell {X : Cx} {ads : List Nat} {sk : List Sk} (hA : ads.length = sk.length ∧ sk.length ≤ 1000) {c0 : Nat} {N0 : Nat} (hp0 : ocR sk c0 N0) (x1 : Int) (x2 : Int) (σ : Sg) : CF X mX6_cell ads sk [.inr (some c0), .inl x1, .inl x2] σ (wP σ) (fX6_cell c0 N0 x1 x2 σ) := by
  refine CF.of ⟨pX6_cell_ok, tbX6_ok, hA.1, hA.2⟩ (plainFor_of_name plX6) (Nat.le_of_ble_eq_true rfl) ?_
  show jX6_cell X ads sk σ (0, [some (.inr (some c0)), some (.inl x1), some (.inl x2)], [], σ) (fX6_cell c0 N0 x1 x2 σ)
  unfold fX6_cell
  refine j_run 0 1 rfl ?_
  refine jc_if_lt 1 rfl rfl (fun h1 => ?_) (fun h1 => ?_)
  · refine j_run 11 1 rfl ?_
    exact j_iret 12 rfl rfl rfl
  · refine j_run 2 2 rfl ?_
    refine j_gf 4 0 rfl rfl hp0.1 rfl ?_
    refine jc_icmp_ge 5 rfl rfl (fun h2 => ?_) (fun h2 => ?_)
    · refine j_run 6 1 rfl ?_
      refine jc_if_lt 7 rfl rfl (fun h3 => ?_) (fun h3 => ?_)
      · refine j_run 11 1 rfl ?_
        exact j_iret 12 rfl rfl rfl
      · refine j_run 8 2 rfl ?_
        refine jc_icmp_lt 10 rfl rfl (fun h4 => ?_) (fun h4 => ?_)
        · refine j_run 13 1 rfl ?_
          refine j_gr 14 2 rfl rfl hp0.1 rfl ?_
          refine j_run 15 5 rfl ?_
          refine j_ald 20 rfl hp0.2 rfl ?_
          exact j_iret 21 rfl rfl rfl
        · refine j_run 11 1 rfl ?_
          exact j_iret 12 rfl rfl rfl
    · refine j_run 11 1 rfl ?_
      exact j_iret 12 rfl rfl rfl
abbrev jX5_isOpen (X : Cx) (ads : List Nat) (sk : List Sk) (σ : Sg) (ps : PS) (res : Option (Int)) : Prop := J X mX5_isOpen pX5_isOpen tbX5 (rmD 2 0 0) 0 0 E0 (fun a => FM X mX5_isOpen ads sk ((wP σ) a)) ads sk ps res
theorem JX5_isOpen_L2 {X : Cx} {ads : List Nat} {sk : List Sk} (hA : ads.length = sk.length ∧ sk.length ≤ 1000) (hp0 : ocO sk) (σ : Sg) (x1 : Int) (x2 : Int) : ∀ (n : Nat) (x3 : Int), jX5_isOpen X ads sk σ (2, [some (.inr (some 80)), some (.inl x1), some (.inl x2), some (.inl x3)], [], σ) (fX5_isOpen_L2 σ x1 x2 n x3) := by
  intro n
  induction n with
  | zero => intro x3; exact j_none
  | succ n ih =>
    intro x3
    rw [fX5_isOpen_L2]
    refine j_run 2 2 rfl ?_
    refine jc_icmp_ge 4 rfl rfl (fun h1 => ?_) (fun h1 => ?_)
    · refine j_run 5 1 rfl ?_
      refine j_gr 6 0 rfl rfl hp0.1 rfl ?_
      refine j_run 7 1 rfl ?_
      refine j_ald 8 rfl hp0.2.2.2 rfl ?_
      refine j_run 9 1 rfl ?_
      refine jc_icmp_ne 10 rfl rfl (fun h2 => ?_) (fun h2 => ?_)
      · refine j_run 11 1 rfl ?_
        refine j_gr 12 1 rfl rfl hp0.1 rfl ?_
        refine j_run 13 1 rfl ?_
        refine j_ald 14 rfl hp0.2.2.1 rfl ?_
        refine j_run 15 1 rfl ?_
        refine j_gr 16 1 rfl rfl hp0.1 rfl ?_
        refine j_run 17 1 rfl ?_
        refine j_ald 18 rfl hp0.2.2.1 rfl ?_
        refine j_csNT 19 0 2 rfl rfl mwX10_steps (eX10_steps hA (rd σ 82 x1) (rd σ 82 x3) _) rfl rfl (rok rfl rfl) (Nat.le_of_ble_eq_true rfl) (fun h3 => ?_)
        refine j_run 20 1 rfl ?_
        refine jc_icmp_gt 21 rfl rfl (fun h4 => ?_) (fun h4 => ?_)
        · refine j_run 24 1 rfl ?_
          refine j_goto 25 rfl rfl ?_
          exact j_weak (leP_s (leP_s (leP_s (leP_s (leP_z))))) (ih (bw (x3 + 1)))
        · refine j_run 22 1 rfl ?_
          exact j_zret 23 rfl rfl (by decide) rfl
      · refine j_run 24 1 rfl ?_
        refine j_goto 25 rfl rfl ?_
        exact j_weak (leP_s (leP_s (leP_s (leP_s (leP_z))))) (ih (bw (x3 + 1)))
    · refine j_run 26 1 rfl ?_
      exact j_zret 27 rfl rfl (by decide) rfl
theorem eX5_isOpen {X : Cx} {ads : List Nat} {sk : List Sk} (hA : ads.length = sk.length ∧ sk.length ≤ 1000) (hp0 : ocO sk) (x1 : Int) (x2 : Int) (σ : Sg) : CF X mX5_isOpen ads sk [.inr (some 80), .inl x1, .inl x2] σ (wP σ) (fX5_isOpen x1 x2 σ) := by
  refine CF.of ⟨pX5_isOpen_ok, tbX5_ok, hA.1, hA.2⟩ (plainFor_of_name plX5) (Nat.le_of_ble_eq_true rfl) ?_
  show jX5_isOpen X ads sk σ (0, [some (.inr (some 80)), some (.inl x1), some (.inl x2), none], [], σ) (fX5_isOpen x1 x2 σ)
  unfold fX5_isOpen
  refine j_run 0 2 rfl ?_
  exact j_weak (leP_s (leP_s (leP_s (leP_s (leP_z))))) (JX5_isOpen_L2 hA hp0 σ x1 x2 FU 0)
abbrev jX5_fits (X : Cx) (ads : List Nat) (sk : List Sk) (e : Nat) (ps : PS) (res : Option (Int × Sg)) : Prop := J X (mX5_fits e) pX5_fits tbX5 (rmD e 0 0) 0 0 E0 (fun a => FM X (mX5_fits e) ads sk (wE a)) ads sk ps res
theorem JX5_fits_L12 {X : Cx} {ads : List Nat} {sk : List Sk} (hA : ads.length = sk.length ∧ sk.length ≤ 1000) (hp0 : ocO sk) {e e2 : Nat} (he : e2 + 1 ≤ e) (hb : 3 ≤ e) {r_fits : Int → Sg → Option (Int × Sg)} (hr_fits : ∀  (x1 : Int) (σ : Sg), CF X (mX5_fits e2) ads sk [.inr (some 80), .inl x1] σ wE (r_fits x1 σ)) (x1 : Int) : ∀ (n : Nat) (x2 : Int) (σ : Sg), jX5_fits X ads sk e (12, [some (.inr (some 80)), some (.inl x1), some (.inl x2)], [], σ) (fX5_fits_L12 r_fits x1 n x2 σ) := by
  intro n
  induction n with
  | zero => intro x2 σ; exact j_none
  | succ n ih =>
    intro x2 σ
    rw [fX5_fits_L12]
    refine j_run 8 2 rfl ?_
    refine j_gf 10 3 rfl rfl hp0.1 rfl ?_
    refine jc_icmp_ge 11 rfl rfl (fun h2 => ?_) (fun h2 => ?_)
    · refine j_run 12 3 rfl ?_
      refine j_cv 15 0 2 rfl rfl mwX5_isOpen hp0.1 rfl rfl (eX5_isOpen hA hp0 x1 x2 _) rfl rfl (rokS (Nat.le_trans (Nat.le_of_ble_eq_true (rfl : Nat.ble (2 + 1) 3 = true)) hb) (Nat.le_of_ble_eq_true rfl)) (Nat.le_of_ble_eq_true rfl) (fun r3 _ h3 => ?_)
      refine jc_if_eq 16 rfl rfl (fun h4 => ?_) (fun h4 => ?_)
      · refine j_run 30 1 rfl ?_
        refine j_goto 31 rfl rfl ?_
        exact j_weak (leP_s (leP_s (leP_s (leP_z)))) (ih (bw (x2 + 1)) _)
      · refine j_run 17 1 rfl ?_
        refine j_gr 18 0 rfl rfl hp0.1 rfl ?_
        refine j_run 19 2 rfl ?_
        refine j_ast 21 rfl hp0.2.2.2 rfl ?_
        refine j_run 22 4 rfl ?_
        refine j_cs 26 1 2 rfl rfl (mwX5_fits _) (hr_fits (bw (x1 + 1)) _) rfl rfl (rokS he (Nat.le_of_ble_eq_true rfl)) (Nat.le_of_ble_eq_true rfl) (fun q5 _ h5 => ?_)
        refine jc_if_eq 27 rfl rfl (fun h6 => ?_) (fun h6 => ?_)
        · refine j_run 30 1 rfl ?_
          refine j_goto 31 rfl rfl ?_
          exact j_weak (leP_s (leP_s (leP_s (leP_z)))) (ih (bw (x2 + 1)) _)
        · refine j_run 28 1 rfl ?_
          exact j_zret 29 rfl rfl (by decide) rfl
    · refine j_run 32 1 rfl ?_
      exact j_zret 33 rfl rfl (by decide) rfl
theorem egX5_fits {X : Cx} {ads : List Nat} {sk : List Sk} (hA : ads.length = sk.length ∧ sk.length ≤ 1000) (hp0 : ocO sk) {e e2 : Nat} (he : e2 + 1 ≤ e) (hb : 3 ≤ e) {r_fits : Int → Sg → Option (Int × Sg)} (hr_fits : ∀  (x1 : Int) (σ : Sg), CF X (mX5_fits e2) ads sk [.inr (some 80), .inl x1] σ wE (r_fits x1 σ)) (x1 : Int) (σ : Sg) : CF X (mX5_fits e) ads sk [.inr (some 80), .inl x1] σ wE (gX5_fits r_fits x1 σ) := by
  refine CF.of ⟨pX5_fits_ok, tbX5_ok, hA.1, hA.2⟩ (plainFor_of_name plX5) (Nat.le_of_ble_eq_true rfl) ?_
  show jX5_fits X ads sk e (0, [some (.inr (some 80)), some (.inl x1), none], [], σ) (gX5_fits r_fits x1 σ)
  unfold gX5_fits
  refine j_run 0 2 rfl ?_
  refine j_gf 2 2 rfl rfl hp0.1 rfl ?_
  refine jc_icmp_lt 3 rfl rfl (fun h1 => ?_) (fun h1 => ?_)
  · refine j_run 6 2 rfl ?_
    exact j_weak (leP_s (leP_s (leP_s (leP_z)))) (JX5_fits_L12 hA hp0 he hb hr_fits x1 FU 0 _)
  · refine j_run 4 1 rfl ?_
    exact j_zret 5 rfl rfl (by decide) rfl
theorem et_X5_fits {X : Cx} {ads : List Nat} {sk : List Sk} (hA : ads.length = sk.length ∧ sk.length ≤ 1000) (hp0 : ocO sk) : ∀ n : Nat, (∀ (x1 : Int) (σ : Sg), CF X (mX5_fits (3 + n)) ads sk [.inr (some 80), .inl x1] σ wE ((rg_X5_fits n) x1 σ))
  | 0 => by intros; intro a ha; cases ha
  | n + 1 => by
    have ih := et_X5_fits (X := X) hA hp0 n
    exact ((by intros; exact egX5_fits hA hp0 (e := 3 + (n + 1)) (e2 := 3 + n) (by omega) (by omega) (ih) _ _))
theorem eX5_fits_n {X : Cx} {ads : List Nat} {sk : List Sk} (hA : ads.length = sk.length ∧ sk.length ≤ 1000) (hp0 : ocO sk) (n : Nat) (x1 : Int) (σ : Sg) : CF X (mX5_fits (3 + n)) ads sk [.inr (some 80), .inl x1] σ wE (fX5_fits n x1 σ) := (et_X5_fits hA hp0 n) x1 σ
abbrev jX5_make (X : Cx) (ads : List Nat) (sk : List Sk) (ps : PS) (res : Option (Sg)) : Prop := J X mX5_make pX5_make tbX5 (rmD 44 0 0) 0 0 E0 (fun a => FM X mX5_make ads sk (wV a)) ads sk ps res
theorem JX5_make_L15 {X : Cx} {ads : List Nat} {sk : List Sk} (hA : ads.length = sk.length ∧ sk.length ≤ 1000) (hp0 : ocO sk) {c1 : Nat} (hp1 : ocW sk c1) (k113 : Sg → Option (Sg)) (hk113 : ∀  (σ : Sg), jX5_make X ads sk (113, [some (.inr (some 80)), none, none, none, none], [], σ) (k113 σ)) : ∀ (n : Nat) (x2 : Int) (x3 : Int) (σ : Sg), jX5_make X ads sk (15, [some (.inr (some 80)), some (.inr (some c1)), some (.inl x2), some (.inl x3), none], [], σ) (fX5_make_L15 c1 k113 n x2 x3 σ) := by
  intro n
  induction n with
  | zero => intro x2 x3 σ; exact j_none
  | succ n ih =>
    intro x2 x3 σ
    rw [fX5_make_L15]
    refine j_run 9 2 rfl ?_
    refine j_gr 11 5 rfl rfl hp1.1 rfl ?_
    refine j_gf 12 6 rfl rfl hp1.2.2.2.2.2.1.1 rfl ?_
    refine jc_icmp_ge 13 rfl rfl (fun h2 => ?_) (fun h2 => ?_)
    · refine j_run 14 2 rfl ?_
      refine jc_icmp_ge 16 rfl rfl (fun h3 => ?_) (fun h3 => ?_)
      · refine j_run 17 2 rfl ?_
        refine j_gr 19 5 rfl rfl hp1.1 rfl ?_
        refine j_run 20 2 rfl ?_
        refine j_cv 22 3 2 rfl rfl mwX6_cell hp1.2.2.2.2.2.1.1 rfl rfl (eX6_cell hA hp1.2.2.2.2.2.1 x3 1 _) rfl rfl (rok rfl rfl) (Nat.le_of_ble_eq_true rfl) (fun r4 _ h4 => ?_)
        refine j_run 23 3 rfl ?_
        refine j_gr 26 5 rfl rfl hp1.1 rfl ?_
        refine j_run 27 2 rfl ?_
        refine j_cv 29 3 2 rfl rfl mwX6_cell hp1.2.2.2.2.2.1.1 rfl rfl (eX6_cell hA hp1.2.2.2.2.2.1 x3 2 _) rfl rfl (rok rfl rfl) (Nat.le_of_ble_eq_true rfl) (fun r5 _ h5 => ?_)
        refine j_run 30 6 rfl ?_
        refine jc_if_ne 36 rfl rfl (fun h6 => ?_) (fun h6 => ?_)
        · refine j_run 37 5 rfl ?_
          refine j_gr 42 7 rfl rfl hp0.1 rfl ?_
          refine j_run 43 1 rfl ?_
          refine j_gf 44 2 rfl rfl hp0.1 rfl ?_
          refine j_run 45 1 rfl ?_
          refine j_ast 46 rfl hp0.2.1 rfl ?_
          refine j_run 47 1 rfl ?_
          refine j_gr 48 1 rfl rfl hp0.1 rfl ?_
          refine j_run 49 1 rfl ?_
          refine j_gf 50 2 rfl rfl hp0.1 rfl ?_
          refine j_run 51 1 rfl ?_
          refine j_gr 52 5 rfl rfl hp1.1 rfl ?_
          refine j_run 53 2 rfl ?_
          refine j_cv 55 3 2 rfl rfl mwX6_cell hp1.2.2.2.2.2.1.1 rfl rfl (eX6_cell hA hp1.2.2.2.2.2.1 x3 3 _) rfl rfl (rok rfl rfl) (Nat.le_of_ble_eq_true rfl) (fun r7 _ h7 => ?_)
          refine j_ast 56 rfl hp0.2.2.1 rfl ?_
          refine j_run 57 2 rfl ?_
          refine j_gf 59 2 rfl rfl hp0.1 rfl ?_
          refine j_run 60 2 rfl ?_
          refine j_pf 62 2 rfl rfl hp0.1 rfl rfl (Or.inl rfl) ?_
          refine j_run 63 1 rfl ?_
          refine j_goto 64 rfl rfl ?_
          exact j_weak (leP_s (leP_s (leP_s (leP_s (leP_n (leP_z)))))) (ih (bor x2 (bor (bshl 1 r4) (bshl 1 r5))) (bw (x3 + 1)) _)
        · refine j_run 63 1 rfl ?_
          refine j_goto 64 rfl rfl ?_
          exact j_weak (leP_s (leP_s (leP_s (leP_s (leP_n (leP_z)))))) (ih x2 (bw (x3 + 1)) _)
      · exact j_weak (leP_s (leP_n (leP_n (leP_n (leP_n (leP_z)))))) (hk113 _)
    · exact j_weak (leP_s (leP_n (leP_n (leP_n (leP_n (leP_z)))))) (hk113 _)
theorem JX5_make_L118 {X : Cx} {ads : List Nat} {sk : List Sk} (hA : ads.length = sk.length ∧ sk.length ≤ 1000) (hp0 : ocO sk) {c1 : Nat} (hp1 : ocW sk c1) : ∀ (n : Nat) (x3 : Int) (x4 : Int) (σ : Sg), jX5_make X ads sk (118, [some (.inr (some 80)), none, none, some (.inl x3), some (.inl x4)], [], σ) (fX5_make_L118 c1 n x3 x4 σ) := by
  intro n
  induction n with
  | zero => intro x3 x4 σ; exact j_none
  | succ n ih =>
    intro x3 x4 σ
    rw [fX5_make_L118]
    refine j_run 69 2 rfl ?_
    refine j_gf 71 2 rfl rfl hp0.1 rfl ?_
    refine jc_icmp_gt 72 rfl rfl (fun h9 => ?_) (fun h9 => ?_)
    · exact j_vret 84 rfl rfl rfl
    · refine j_run 73 1 rfl ?_
      refine jc_if_ne 74 rfl rfl (fun h10 => ?_) (fun h10 => ?_)
      · refine j_run 75 2 rfl ?_
        refine j_pf 77 3 rfl rfl hp0.1 rfl rfl (Or.inl rfl) ?_
        refine j_run 78 2 rfl ?_
        refine j_cs 80 1 2 rfl rfl (mwX5_fits _) (eX5_fits_n hA hp0 40 0 _) rfl rfl (rok rfl rfl) (Nat.le_of_ble_eq_true rfl) (fun q11 _ h11 => ?_)
        refine j_run 81 2 rfl ?_
        refine j_goto 83 rfl rfl ?_
        exact j_weak (leP_s (leP_n (leP_n (leP_s (leP_s (leP_z)))))) (ih q11.1 (bw (x4 + 1)) _)
      · exact j_vret 84 rfl rfl rfl
theorem eX5_make {X : Cx} {ads : List Nat} {sk : List Sk} (hA : ads.length = sk.length ∧ sk.length ≤ 1000) (hp0 : ocO sk) {c1 : Nat} (hp1 : ocW sk c1) (σ : Sg) : CF X mX5_make ads sk [.inr (some 80), .inr (some c1)] σ wV (fX5_make c1 σ) := by
  refine CF.of ⟨pX5_make_ok, tbX5_ok, hA.1, hA.2⟩ (plainFor_of_name plX5) (Nat.le_of_ble_eq_true rfl) ?_
  show jX5_make X ads sk (0, [some (.inr (some 80)), some (.inr (some c1)), none, none, none], [], σ) (fX5_make c1 σ)
  unfold fX5_make
  refine j_run 0 2 rfl ?_
  refine j_pf 2 2 rfl rfl hp0.1 rfl rfl (Or.inl rfl) ?_
  refine j_run 3 1 rfl ?_
  refine j_gr 4 4 rfl rfl hp1.1 rfl ?_
  refine j_cv 5 2 0 rfl rfl mwX1_wedSet hp1.2.2.2.1.1 rfl rfl (eX1_wedSet hA hp1.2.2.2.1 _) rfl rfl (rok rfl rfl) (Nat.le_of_ble_eq_true rfl) (fun r1 _ h1 => ?_)
  refine j_run 6 3 rfl ?_
  refine j_weak (leP_s (leP_s (leP_s (leP_s (leP_n (leP_z)))))) (JX5_make_L15 hA hp0 hp1 _ (fun s8 => ?_) FU r1 0 _)
  refine j_run 65 4 rfl ?_
  exact j_weak (leP_s (leP_n (leP_n (leP_s (leP_s (leP_z)))))) (JX5_make_L118 hA hp0 hp1 FU 0 0 _)
abbrev jX5_dayOf (X : Cx) (ads : List Nat) (sk : List Sk) (σ : Sg) (ps : PS) (res : Option (Int)) : Prop := J X mX5_dayOf pX5_dayOf tbX5 (rmD 0 0 0) 0 0 E0 (fun a => FM X mX5_dayOf ads sk ((wP σ) a)) ads sk ps res
theorem JX5_dayOf_L2 {X : Cx} {ads : List Nat} {sk : List Sk} (hA : ads.length = sk.length ∧ sk.length ≤ 1000) (hp0 : ocO sk) (σ : Sg) (x1 : Int) : ∀ (n : Nat) (x2 : Int), jX5_dayOf X ads sk σ (2, [some (.inr (some 80)), some (.inl x1), some (.inl x2)], [], σ) (fX5_dayOf_L2 σ x1 n x2) := by
  intro n
  induction n with
  | zero => intro x2; exact j_none
  | succ n ih =>
    intro x2
    rw [fX5_dayOf_L2]
    refine j_run 2 2 rfl ?_
    refine j_gf 4 2 rfl rfl hp0.1 rfl ?_
    refine jc_icmp_ge 5 rfl rfl (fun h1 => ?_) (fun h1 => ?_)
    · refine j_run 6 1 rfl ?_
      refine j_gr 7 7 rfl rfl hp0.1 rfl ?_
      refine j_run 8 1 rfl ?_
      refine j_ald 9 rfl hp0.2.1 rfl ?_
      refine j_run 10 1 rfl ?_
      refine jc_icmp_ne 11 rfl rfl (fun h2 => ?_) (fun h2 => ?_)
      · refine j_run 12 1 rfl ?_
        refine j_gr 13 0 rfl rfl hp0.1 rfl ?_
        refine j_run 14 1 rfl ?_
        refine j_ald 15 rfl hp0.2.2.2 rfl ?_
        exact j_iret 16 rfl rfl rfl
      · refine j_run 17 1 rfl ?_
        refine j_goto 18 rfl rfl ?_
        exact j_weak (leP_s (leP_s (leP_s (leP_z)))) (ih (bw (x2 + 1)))
    · refine j_run 19 1 rfl ?_
      exact j_iret 20 rfl rfl rfl
theorem eX5_dayOf {X : Cx} {ads : List Nat} {sk : List Sk} (hA : ads.length = sk.length ∧ sk.length ≤ 1000) (hp0 : ocO sk) (x1 : Int) (σ : Sg) : CF X mX5_dayOf ads sk [.inr (some 80), .inl x1] σ (wP σ) (fX5_dayOf x1 σ) := by
  refine CF.of ⟨pX5_dayOf_ok, tbX5_ok, hA.1, hA.2⟩ (plainFor_of_name plX5) (Nat.le_of_ble_eq_true rfl) ?_
  show jX5_dayOf X ads sk σ (0, [some (.inr (some 80)), some (.inl x1), none], [], σ) (fX5_dayOf x1 σ)
  unfold fX5_dayOf
  refine j_run 0 2 rfl ?_
  exact j_weak (leP_s (leP_s (leP_s (leP_z)))) (JX5_dayOf_L2 hA hp0 σ x1 FU 0)
abbrev jX6_greatest (X : Cx) (ads : List Nat) (sk : List Sk) (σ : Sg) (ps : PS) (res : Option (Int)) : Prop := J X mX6_greatest pX6_greatest tbX6 (rmD 1 0 0) 0 0 E0 (fun a => FM X mX6_greatest ads sk ((wP σ) a)) ads sk ps res
theorem JX6_greatest_L4 {X : Cx} {ads : List Nat} {sk : List Sk} (hA : ads.length = sk.length ∧ sk.length ≤ 1000) {c0 : Nat} {N0 : Nat} (hp0 : ocR sk c0 N0) (σ : Sg) (x1 : Int) : ∀ (n : Nat) (x2 : Int) (x3 : Int), jX6_greatest X ads sk σ (4, [some (.inr (some c0)), some (.inl x1), some (.inl x2), some (.inl x3)], [], σ) (fX6_greatest_L4 c0 N0 σ x1 n x2 x3) := by
  intro n
  induction n with
  | zero => intro x2 x3; exact j_none
  | succ n ih =>
    intro x2 x3
    rw [fX6_greatest_L4]
    refine j_run 4 2 rfl ?_
    refine j_gf 6 0 rfl rfl hp0.1 rfl ?_
    refine jc_icmp_ge 7 rfl rfl (fun h1 => ?_) (fun h1 => ?_)
    · refine j_run 8 4 rfl ?_
      refine j_cv 12 0 2 rfl rfl mwX6_cell hp0.1 rfl rfl (eX6_cell hA hp0 x3 x1 _) rfl rfl (rok rfl rfl) (Nat.le_of_ble_eq_true rfl) (fun r2 _ h2 => ?_)
      refine j_csT 13 1 2 rfl rfl mwJ9_max_7cf53 (eJ9_max_7cf53 hA x2 r2 _) rfl rfl (rok rfl rfl) (Nat.le_of_ble_eq_true rfl) (fun h3 => ?_)
      refine j_run 14 2 rfl ?_
      refine j_goto 16 rfl rfl ?_
      exact j_weak (leP_s (leP_s (leP_s (leP_s (leP_z))))) (ih (fJ9_max_7cf53 x2 r2) (bw (x3 + 1)))
    · refine j_run 17 1 rfl ?_
      exact j_iret 18 rfl rfl rfl
theorem eX6_greatest {X : Cx} {ads : List Nat} {sk : List Sk} (hA : ads.length = sk.length ∧ sk.length ≤ 1000) {c0 : Nat} {N0 : Nat} (hp0 : ocR sk c0 N0) (x1 : Int) (σ : Sg) : CF X mX6_greatest ads sk [.inr (some c0), .inl x1] σ (wP σ) (fX6_greatest c0 N0 x1 σ) := by
  refine CF.of ⟨pX6_greatest_ok, tbX6_ok, hA.1, hA.2⟩ (plainFor_of_name plX6) (Nat.le_of_ble_eq_true rfl) ?_
  show jX6_greatest X ads sk σ (0, [some (.inr (some c0)), some (.inl x1), none, none], [], σ) (fX6_greatest c0 N0 x1 σ)
  unfold fX6_greatest
  refine j_run 0 4 rfl ?_
  exact j_weak (leP_s (leP_s (leP_s (leP_s (leP_z))))) (JX6_greatest_L4 hA hp0 σ x1 FU (-1) 0)
abbrev jX6_copy (X : Cx) (ads : List Nat) (sk : List Sk) (ps : PS) (res : Option (Sg)) : Prop := J X mX6_copy pX6_copy tbX6 (rmD 1 0 0) 0 0 E0 (fun a => FM X mX6_copy ads sk (wV a)) ads sk ps res
theorem eX6_copy {X : Cx} {ads : List Nat} {sk : List Sk} (hA : ads.length = sk.length ∧ sk.length ≤ 1000) {c0 : Nat} {N0 : Nat} (hp0 : ocR sk c0 N0) {c1 : Nat} {N1 : Nat} (hp1 : ocR sk c1 N1) (σ : Sg) : CF X mX6_copy ads sk [.inr (some c0), .inr (some c1)] σ wV (fX6_copy c0 N0 c1 N1 σ) := by
  refine CF.of ⟨pX6_copy_ok, tbX6_ok, hA.1, hA.2⟩ (plainFor_of_name plX6) (Nat.le_of_ble_eq_true rfl) ?_
  show jX6_copy X ads sk (0, [some (.inr (some c0)), some (.inr (some c1))], [], σ) (fX6_copy c0 N0 c1 N1 σ)
  unfold fX6_copy
  refine j_run 0 2 rfl ?_
  refine j_gf 2 0 rfl rfl hp1.1 rfl ?_
  refine j_run 3 1 rfl ?_
  refine j_gf 4 1 rfl rfl hp0.1 rfl ?_
  refine j_csT 5 2 2 rfl rfl mwJ9_min_7cf53 (eJ9_min_7cf53 hA (rd σ c1 2) (rd σ c0 1) _) rfl rfl (rok rfl rfl) (Nat.le_of_ble_eq_true rfl) (fun h1 => ?_)
  refine j_pf 6 0 rfl rfl hp0.1 rfl rfl (Or.inl rfl) ?_
  refine j_run 7 1 rfl ?_
  refine j_gr 8 2 rfl rfl hp1.1 rfl ?_
  refine j_run 9 2 rfl ?_
  refine j_gr 11 2 rfl rfl hp0.1 rfl ?_
  refine j_run 12 2 rfl ?_
  refine j_gf 14 0 rfl rfl hp0.1 rfl ?_
  refine j_run 15 2 rfl ?_
  refine j_copyE (d := 1) 17 3 rfl rfl hp1.2 hp0.2 rfl rfl rfl ?_
  exact j_vret 18 rfl rfl rfl
abbrev jX7_put (X : Cx) (ads : List Nat) (sk : List Sk) (ps : PS) (res : Option (Sg)) : Prop := J X mX7_put pX7_put tbX7 (rmD 0 0 0) 0 0 E0 (fun a => FM X mX7_put ads sk (wV a)) ads sk ps res
theorem JX7_put_L3 {X : Cx} {ads : List Nat} {sk : List Sk} (hA : ads.length = sk.length ∧ sk.length ≤ 1000) (hp0 : ocT sk) (x1 : Int) : ∀ (n : Nat) (x2 : Int) (σ : Sg), jX7_put X ads sk (3, [some (.inr (some 59)), some (.inl x1), some (.inl x2)], [], σ) (fX7_put_L3 x1 n x2 σ) := by
  intro n
  induction n with
  | zero => intro x2 σ; exact j_none
  | succ n ih =>
    intro x2 σ
    rw [fX7_put_L3]
    refine j_run 2 1 rfl ?_
    refine jc_if_lt 3 rfl rfl (fun h1 => ?_) (fun h1 => ?_)
    · exact j_vret 25 rfl rfl rfl
    · refine j_run 4 1 rfl ?_
      refine j_gf 5 0 rfl rfl hp0.1 rfl ?_
      refine j_run 6 1 rfl ?_
      refine jc_icmp_ge 7 rfl rfl (fun h2 => ?_) (fun h2 => ?_)
      · refine j_run 8 1 rfl ?_
        refine j_gr 9 1 rfl rfl hp0.1 rfl ?_
        refine j_run 10 1 rfl ?_
        refine j_gf 11 0 rfl rfl hp0.1 rfl ?_
        refine j_run 12 4 rfl ?_
        refine j_bast 16 rfl hp0.2.1 rfl ?_
        refine j_run 17 2 rfl ?_
        refine j_gf 19 0 rfl rfl hp0.1 rfl ?_
        refine j_run 20 2 rfl ?_
        refine j_pf 22 0 rfl rfl hp0.1 rfl rfl (Or.inl rfl) ?_
        refine j_run 23 1 rfl ?_
        refine j_goto 24 rfl rfl ?_
        exact j_weak (leP_s (leP_s (leP_s (leP_z)))) (ih (bw (x2 + -8)) _)
      · exact j_vret 25 rfl rfl rfl
theorem eX7_put {X : Cx} {ads : List Nat} {sk : List Sk} (hA : ads.length = sk.length ∧ sk.length ≤ 1000) (hp0 : ocT sk) (x1 : Int) (σ : Sg) : CF X mX7_put ads sk [.inr (some 59), .inl x1] σ wV (fX7_put x1 σ) := by
  refine CF.of ⟨pX7_put_ok, tbX7_ok, hA.1, hA.2⟩ (plainFor_of_name plX7) (Nat.le_of_ble_eq_true rfl) ?_
  show jX7_put X ads sk (0, [some (.inr (some 59)), some (.inl x1), none], [], σ) (fX7_put x1 σ)
  unfold fX7_put
  refine j_run 0 2 rfl ?_
  exact j_weak (leP_s (leP_s (leP_s (leP_z)))) (JX7_put_L3 hA hp0 x1 FU 24 _)
abbrev jX7_sign (X : Cx) (ads : List Nat) (sk : List Sk) (σ : Sg) (ps : PS) (res : Option (Int)) : Prop := J X mX7_sign pX7_sign tbX7 (rmD 0 0 0) 0 0 E0 (fun a => FM X mX7_sign ads sk ((wP σ) a)) ads sk ps res
theorem eX7_sign {X : Cx} {ads : List Nat} {sk : List Sk} (hA : ads.length = sk.length ∧ sk.length ≤ 1000) (hp0 : ocT sk) (x1 : Int) (σ : Sg) : CF X mX7_sign ads sk [.inr (some 59), .inl x1] σ (wP σ) (fX7_sign x1 σ) := by
  refine CF.of ⟨pX7_sign_ok, tbX7_ok, hA.1, hA.2⟩ (plainFor_of_name plX7) (Nat.le_of_ble_eq_true rfl) ?_
  show jX7_sign X ads sk σ (0, [some (.inr (some 59)), some (.inl x1)], [], σ) (fX7_sign x1 σ)
  unfold fX7_sign
  refine j_run 0 1 rfl ?_
  refine jc_if_lt 1 rfl rfl (fun h1 => ?_) (fun h1 => ?_)
  · refine j_run 16 1 rfl ?_
    exact j_iret 17 rfl rfl rfl
  · refine j_run 2 2 rfl ?_
    refine j_gf 4 0 rfl rfl hp0.1 rfl ?_
    refine jc_icmp_ge 5 rfl rfl (fun h2 => ?_) (fun h2 => ?_)
    · refine j_run 6 2 rfl ?_
      refine jc_icmp_ge 8 rfl rfl (fun h3 => ?_) (fun h3 => ?_)
      · refine j_run 9 1 rfl ?_
        refine j_gr 10 1 rfl rfl hp0.1 rfl ?_
        refine j_run 11 1 rfl ?_
        refine j_bald 12 rfl hp0.2.1 rfl ?_
        refine j_run 13 2 rfl ?_
        refine j_goto 15 rfl rfl ?_
        exact j_iret 17 rfl rfl rfl
      · refine j_run 16 1 rfl ?_
        exact j_iret 17 rfl rfl rfl
    · refine j_run 16 1 rfl ?_
      exact j_iret 17 rfl rfl rfl
