/-! the constructors, each at its place -/
def fiX1_init_4 (σ : Sg) : Option Sg := some (zr (zr (zr (zr (zr (zr σ 5) 6) 7) 8) 9) 10)
set_option maxRecDepth 20000 in
theorem iX1_init_4 {X : Cx} {ads : List Nat} (hA : ads.length = (sq2).length) (σ : Sg) : CFA X mX1_init ads sq2 [.inr (some 4)] σ 6 sq3 6 72 (fiX1_init_4 σ) := by
  refine CFA.of ⟨pX1_init_ok, tbiX1_ok, hA, Nat.le_of_ble_eq_true rfl⟩ (plainFor_of_name plX1) (Nat.le_of_ble_eq_true rfl) ?_
  show J X mX1_init pX1_init tbiX1 (rmD 1 6 72) 0 0 E0 (FA X ads 6 sq3 6 72) ads sq2 (0, [some (.inr (some 4))], [], σ) (fiX1_init_4 σ)
  unfold fiX1_init_4
  refine j_run 0 1 rfl ?_
  refine j_obj 1 rfl (tw_of (i := 40) (by decide +kernel) rfl) ⟨(Nat.le_of_ble_eq_true rfl), (Nat.le_of_ble_eq_true rfl)⟩ rfl ?_
  refine j_run 2 2 rfl ?_
  refine j_newarr 4 0 12 rfl rfl (by decide) rfl ⟨(Nat.le_of_ble_eq_true rfl), (Nat.le_of_ble_eq_true rfl)⟩ (Nat.le_of_ble_eq_true rfl) (fun a1 => ?_)
  refine j_prf 5 0 rfl rfl rfl rfl rfl (Or.inr ⟨rfl, rfl⟩) rfl rfl ?_
  refine j_run 6 2 rfl ?_
  refine j_newarr 8 0 12 rfl rfl (by decide) rfl ⟨(Nat.le_of_ble_eq_true rfl), (Nat.le_of_ble_eq_true rfl)⟩ (Nat.le_of_ble_eq_true rfl) (fun a2 => ?_)
  refine j_prf 9 1 rfl rfl rfl rfl rfl (Or.inr ⟨rfl, rfl⟩) rfl rfl ?_
  refine j_run 10 2 rfl ?_
  refine j_newarr 12 0 12 rfl rfl (by decide) rfl ⟨(Nat.le_of_ble_eq_true rfl), (Nat.le_of_ble_eq_true rfl)⟩ (Nat.le_of_ble_eq_true rfl) (fun a3 => ?_)
  refine j_prf 13 2 rfl rfl rfl rfl rfl (Or.inr ⟨rfl, rfl⟩) rfl rfl ?_
  refine j_run 14 2 rfl ?_
  refine j_newarr 16 0 12 rfl rfl (by decide) rfl ⟨(Nat.le_of_ble_eq_true rfl), (Nat.le_of_ble_eq_true rfl)⟩ (Nat.le_of_ble_eq_true rfl) (fun a4 => ?_)
  refine j_prf 17 3 rfl rfl rfl rfl rfl (Or.inr ⟨rfl, rfl⟩) rfl rfl ?_
  refine j_run 18 2 rfl ?_
  refine j_newarr 20 0 12 rfl rfl (by decide) rfl ⟨(Nat.le_of_ble_eq_true rfl), (Nat.le_of_ble_eq_true rfl)⟩ (Nat.le_of_ble_eq_true rfl) (fun a5 => ?_)
  refine j_prf 21 4 rfl rfl rfl rfl rfl (Or.inr ⟨rfl, rfl⟩) rfl rfl ?_
  refine j_run 22 2 rfl ?_
  refine j_newarr 24 0 12 rfl rfl (by decide) rfl ⟨(Nat.le_of_ble_eq_true rfl), (Nat.le_of_ble_eq_true rfl)⟩ (Nat.le_of_ble_eq_true rfl) (fun a6 => ?_)
  refine j_prf 25 5 rfl rfl rfl rfl rfl (Or.inr ⟨rfl, rfl⟩) rfl rfl ?_
  exact j_vretA (new := [a1] ++ ([a2] ++ ([a3] ++ ([a4] ++ ([a5] ++ ([a6] ++ ([]))))))) 26 rfl rfl (by simp only [List.append_assoc, List.append_nil]) (by simp only [List.length_append, List.length_cons, List.length_nil]) (by decide +kernel)
def fiX2_init_11 (σ : Sg) : Option Sg := some (zr (zr (zr (zr (zr (zr σ 12) 13) 14) 15) 16) 17)
set_option maxRecDepth 20000 in
theorem iX2_init_11 {X : Cx} {ads : List Nat} (hA : ads.length = (sq4).length) (σ : Sg) : CFA X mX2_init ads sq4 [.inr (some 11)] σ 6 sq5 6 507 (fiX2_init_11 σ) := by
  refine CFA.of ⟨pX2_init_ok, tbiX2_ok, hA, Nat.le_of_ble_eq_true rfl⟩ (plainFor_of_name plX2) (Nat.le_of_ble_eq_true rfl) ?_
  show J X mX2_init pX2_init tbiX2 (rmD 1 6 507) 0 0 E0 (FA X ads 6 sq5 6 507) ads sq4 (0, [some (.inr (some 11))], [], σ) (fiX2_init_11 σ)
  unfold fiX2_init_11
  refine j_run 0 1 rfl ?_
  refine j_obj 1 rfl (tw_of (i := 85) (by decide +kernel) rfl) ⟨(Nat.le_of_ble_eq_true rfl), (Nat.le_of_ble_eq_true rfl)⟩ rfl ?_
  refine j_run 2 2 rfl ?_
  refine j_newarr 4 0 400 rfl rfl (by decide) rfl ⟨(Nat.le_of_ble_eq_true rfl), (Nat.le_of_ble_eq_true rfl)⟩ (Nat.le_of_ble_eq_true rfl) (fun a1 => ?_)
  refine j_prf 5 0 rfl rfl rfl rfl rfl (Or.inr ⟨rfl, rfl⟩) rfl rfl ?_
  refine j_run 6 2 rfl ?_
  refine j_newarr 8 0 16 rfl rfl (by decide) rfl ⟨(Nat.le_of_ble_eq_true rfl), (Nat.le_of_ble_eq_true rfl)⟩ (Nat.le_of_ble_eq_true rfl) (fun a2 => ?_)
  refine j_prf 9 1 rfl rfl rfl rfl rfl (Or.inr ⟨rfl, rfl⟩) rfl rfl ?_
  refine j_run 10 2 rfl ?_
  refine j_newarr 12 0 17 rfl rfl (by decide) rfl ⟨(Nat.le_of_ble_eq_true rfl), (Nat.le_of_ble_eq_true rfl)⟩ (Nat.le_of_ble_eq_true rfl) (fun a3 => ?_)
  refine j_prf 13 2 rfl rfl rfl rfl rfl (Or.inr ⟨rfl, rfl⟩) rfl rfl ?_
  refine j_run 14 2 rfl ?_
  refine j_newarr 16 0 16 rfl rfl (by decide) rfl ⟨(Nat.le_of_ble_eq_true rfl), (Nat.le_of_ble_eq_true rfl)⟩ (Nat.le_of_ble_eq_true rfl) (fun a4 => ?_)
  refine j_prf 17 3 rfl rfl rfl rfl rfl (Or.inr ⟨rfl, rfl⟩) rfl rfl ?_
  refine j_run 18 2 rfl ?_
  refine j_newarr 20 0 10 rfl rfl (by decide) rfl ⟨(Nat.le_of_ble_eq_true rfl), (Nat.le_of_ble_eq_true rfl)⟩ (Nat.le_of_ble_eq_true rfl) (fun a5 => ?_)
  refine j_prf 21 4 rfl rfl rfl rfl rfl (Or.inr ⟨rfl, rfl⟩) rfl rfl ?_
  refine j_run 22 2 rfl ?_
  refine j_newarr 24 0 48 rfl rfl (by decide) rfl ⟨(Nat.le_of_ble_eq_true rfl), (Nat.le_of_ble_eq_true rfl)⟩ (Nat.le_of_ble_eq_true rfl) (fun a6 => ?_)
  refine j_prf 25 5 rfl rfl rfl rfl rfl (Or.inr ⟨rfl, rfl⟩) rfl rfl ?_
  exact j_vretA (new := [a1] ++ ([a2] ++ ([a3] ++ ([a4] ++ ([a5] ++ ([a6] ++ ([]))))))) 26 rfl rfl (by simp only [List.append_assoc, List.append_nil]) (by simp only [List.length_append, List.length_cons, List.length_nil]) (by decide +kernel)
def fiX6_init_18 (σ : Sg) : Option Sg := some (wr (zr (wr σ 18 1 (fJ9_max_7cf53 0 16)) 19) 18 2 0)
set_option maxRecDepth 20000 in
theorem iX6_init_18 {X : Cx} {ads : List Nat} (hA : ads.length = (sq6).length) (σ : Sg) : CFA X mX6_init ads sq6 [.inr (some 18), .inl 16] σ 1 sq7 1 64 (fiX6_init_18 σ) := by
  refine CFA.of ⟨pX6_init_ok, tbiX6_ok, hA, Nat.le_of_ble_eq_true rfl⟩ (plainFor_of_name plX6) (Nat.le_of_ble_eq_true rfl) ?_
  show J X mX6_init pX6_init tbiX6 (rmD 1 1 64) 0 0 E0 (FA X ads 1 sq7 1 64) ads sq6 (0, [some (.inr (some 18)), some (.inl 16)], [], σ) (fiX6_init_18 σ)
  unfold fiX6_init_18
  refine j_run 0 1 rfl ?_
  refine j_obj 1 rfl (tw_of (i := 123) (by decide +kernel) rfl) ⟨(Nat.le_of_ble_eq_true rfl), (Nat.le_of_ble_eq_true rfl)⟩ rfl ?_
  refine j_run 2 3 rfl ?_
  refine J.okA (fun hA1 => ?_)
  refine j_csT 5 0 2 rfl rfl mwJ9_max_7cf53 (eJ9_max_7cf53 hA1 0 16 _) rfl rfl ⟨⟨(Nat.le_of_ble_eq_true rfl), (Nat.le_of_ble_eq_true rfl)⟩, (Nat.le_of_ble_eq_true rfl), (Nat.le_of_ble_eq_true rfl)⟩ (Nat.le_of_ble_eq_true rfl) (fun _ => ?_)
  refine j_pff 6 0 rfl rfl rfl rfl rfl rfl rfl rfl rfl ?_
  refine j_run 7 2 rfl ?_
  refine j_gf 9 0 rfl rfl rfl rfl ?_
  refine j_run 10 2 rfl ?_
  refine j_newarr 12 0 64 rfl (by rw [rd_same]; rfl) (by decide) rfl ⟨(Nat.le_of_ble_eq_true rfl), (Nat.le_of_ble_eq_true rfl)⟩ (Nat.le_of_ble_eq_true rfl) (fun a2 => ?_)
  refine j_prf 13 1 rfl rfl rfl rfl rfl (Or.inr ⟨rfl, rfl⟩) rfl rfl ?_
  refine j_run 14 2 rfl ?_
  refine j_pf 16 2 rfl rfl rfl rfl rfl (Or.inl rfl) ?_
  exact j_vretA (new := [a2] ++ ([])) 17 rfl rfl (by simp only [List.append_assoc, List.append_nil]) (by simp only [List.length_append, List.length_cons, List.length_nil]) (by decide +kernel)
def fiX6_init_20 (σ : Sg) : Option Sg := some (wr (zr (wr σ 20 1 (fJ9_max_7cf53 0 12)) 21) 20 2 0)
set_option maxRecDepth 20000 in
theorem iX6_init_20 {X : Cx} {ads : List Nat} (hA : ads.length = (sq8).length) (σ : Sg) : CFA X mX6_init ads sq8 [.inr (some 20), .inl 12] σ 1 sq9 1 48 (fiX6_init_20 σ) := by
  refine CFA.of ⟨pX6_init_ok, tbiX6_ok, hA, Nat.le_of_ble_eq_true rfl⟩ (plainFor_of_name plX6) (Nat.le_of_ble_eq_true rfl) ?_
  show J X mX6_init pX6_init tbiX6 (rmD 1 1 48) 0 0 E0 (FA X ads 1 sq9 1 48) ads sq8 (0, [some (.inr (some 20)), some (.inl 12)], [], σ) (fiX6_init_20 σ)
  unfold fiX6_init_20
  refine j_run 0 1 rfl ?_
  refine j_obj 1 rfl (tw_of (i := 123) (by decide +kernel) rfl) ⟨(Nat.le_of_ble_eq_true rfl), (Nat.le_of_ble_eq_true rfl)⟩ rfl ?_
  refine j_run 2 3 rfl ?_
  refine J.okA (fun hA1 => ?_)
  refine j_csT 5 0 2 rfl rfl mwJ9_max_7cf53 (eJ9_max_7cf53 hA1 0 12 _) rfl rfl ⟨⟨(Nat.le_of_ble_eq_true rfl), (Nat.le_of_ble_eq_true rfl)⟩, (Nat.le_of_ble_eq_true rfl), (Nat.le_of_ble_eq_true rfl)⟩ (Nat.le_of_ble_eq_true rfl) (fun _ => ?_)
  refine j_pff 6 0 rfl rfl rfl rfl rfl rfl rfl rfl rfl ?_
  refine j_run 7 2 rfl ?_
  refine j_gf 9 0 rfl rfl rfl rfl ?_
  refine j_run 10 2 rfl ?_
  refine j_newarr 12 0 48 rfl (by rw [rd_same]; rfl) (by decide) rfl ⟨(Nat.le_of_ble_eq_true rfl), (Nat.le_of_ble_eq_true rfl)⟩ (Nat.le_of_ble_eq_true rfl) (fun a2 => ?_)
  refine j_prf 13 1 rfl rfl rfl rfl rfl (Or.inr ⟨rfl, rfl⟩) rfl rfl ?_
  refine j_run 14 2 rfl ?_
  refine j_pf 16 2 rfl rfl rfl rfl rfl (Or.inl rfl) ?_
  exact j_vretA (new := [a2] ++ ([])) 17 rfl rfl (by simp only [List.append_assoc, List.append_nil]) (by simp only [List.length_append, List.length_cons, List.length_nil]) (by decide +kernel)
def fiX6_init_22 (σ : Sg) : Option Sg := some (wr (zr (wr σ 22 1 (fJ9_max_7cf53 0 12)) 23) 22 2 0)
set_option maxRecDepth 20000 in
theorem iX6_init_22 {X : Cx} {ads : List Nat} (hA : ads.length = (sq10).length) (σ : Sg) : CFA X mX6_init ads sq10 [.inr (some 22), .inl 12] σ 1 sq11 1 48 (fiX6_init_22 σ) := by
  refine CFA.of ⟨pX6_init_ok, tbiX6_ok, hA, Nat.le_of_ble_eq_true rfl⟩ (plainFor_of_name plX6) (Nat.le_of_ble_eq_true rfl) ?_
  show J X mX6_init pX6_init tbiX6 (rmD 1 1 48) 0 0 E0 (FA X ads 1 sq11 1 48) ads sq10 (0, [some (.inr (some 22)), some (.inl 12)], [], σ) (fiX6_init_22 σ)
  unfold fiX6_init_22
  refine j_run 0 1 rfl ?_
  refine j_obj 1 rfl (tw_of (i := 123) (by decide +kernel) rfl) ⟨(Nat.le_of_ble_eq_true rfl), (Nat.le_of_ble_eq_true rfl)⟩ rfl ?_
  refine j_run 2 3 rfl ?_
  refine J.okA (fun hA1 => ?_)
  refine j_csT 5 0 2 rfl rfl mwJ9_max_7cf53 (eJ9_max_7cf53 hA1 0 12 _) rfl rfl ⟨⟨(Nat.le_of_ble_eq_true rfl), (Nat.le_of_ble_eq_true rfl)⟩, (Nat.le_of_ble_eq_true rfl), (Nat.le_of_ble_eq_true rfl)⟩ (Nat.le_of_ble_eq_true rfl) (fun _ => ?_)
  refine j_pff 6 0 rfl rfl rfl rfl rfl rfl rfl rfl rfl ?_
  refine j_run 7 2 rfl ?_
  refine j_gf 9 0 rfl rfl rfl rfl ?_
  refine j_run 10 2 rfl ?_
  refine j_newarr 12 0 48 rfl (by rw [rd_same]; rfl) (by decide) rfl ⟨(Nat.le_of_ble_eq_true rfl), (Nat.le_of_ble_eq_true rfl)⟩ (Nat.le_of_ble_eq_true rfl) (fun a2 => ?_)
  refine j_prf 13 1 rfl rfl rfl rfl rfl (Or.inr ⟨rfl, rfl⟩) rfl rfl ?_
  refine j_run 14 2 rfl ?_
  refine j_pf 16 2 rfl rfl rfl rfl rfl (Or.inl rfl) ?_
  exact j_vretA (new := [a2] ++ ([])) 17 rfl rfl (by simp only [List.append_assoc, List.append_nil]) (by simp only [List.length_append, List.length_cons, List.length_nil]) (by decide +kernel)
def fiX6_init_24 (σ : Sg) : Option Sg := some (wr (zr (wr σ 24 1 (fJ9_max_7cf53 0 12)) 25) 24 2 0)
set_option maxRecDepth 20000 in
theorem iX6_init_24 {X : Cx} {ads : List Nat} (hA : ads.length = (sq12).length) (σ : Sg) : CFA X mX6_init ads sq12 [.inr (some 24), .inl 12] σ 1 sq13 1 48 (fiX6_init_24 σ) := by
  refine CFA.of ⟨pX6_init_ok, tbiX6_ok, hA, Nat.le_of_ble_eq_true rfl⟩ (plainFor_of_name plX6) (Nat.le_of_ble_eq_true rfl) ?_
  show J X mX6_init pX6_init tbiX6 (rmD 1 1 48) 0 0 E0 (FA X ads 1 sq13 1 48) ads sq12 (0, [some (.inr (some 24)), some (.inl 12)], [], σ) (fiX6_init_24 σ)
  unfold fiX6_init_24
  refine j_run 0 1 rfl ?_
  refine j_obj 1 rfl (tw_of (i := 123) (by decide +kernel) rfl) ⟨(Nat.le_of_ble_eq_true rfl), (Nat.le_of_ble_eq_true rfl)⟩ rfl ?_
  refine j_run 2 3 rfl ?_
  refine J.okA (fun hA1 => ?_)
  refine j_csT 5 0 2 rfl rfl mwJ9_max_7cf53 (eJ9_max_7cf53 hA1 0 12 _) rfl rfl ⟨⟨(Nat.le_of_ble_eq_true rfl), (Nat.le_of_ble_eq_true rfl)⟩, (Nat.le_of_ble_eq_true rfl), (Nat.le_of_ble_eq_true rfl)⟩ (Nat.le_of_ble_eq_true rfl) (fun _ => ?_)
  refine j_pff 6 0 rfl rfl rfl rfl rfl rfl rfl rfl rfl ?_
  refine j_run 7 2 rfl ?_
  refine j_gf 9 0 rfl rfl rfl rfl ?_
  refine j_run 10 2 rfl ?_
  refine j_newarr 12 0 48 rfl (by rw [rd_same]; rfl) (by decide) rfl ⟨(Nat.le_of_ble_eq_true rfl), (Nat.le_of_ble_eq_true rfl)⟩ (Nat.le_of_ble_eq_true rfl) (fun a2 => ?_)
  refine j_prf 13 1 rfl rfl rfl rfl rfl (Or.inr ⟨rfl, rfl⟩) rfl rfl ?_
  refine j_run 14 2 rfl ?_
  refine j_pf 16 2 rfl rfl rfl rfl rfl (Or.inl rfl) ?_
  exact j_vretA (new := [a2] ++ ([])) 17 rfl rfl (by simp only [List.append_assoc, List.append_nil]) (by simp only [List.length_append, List.length_cons, List.length_nil]) (by decide +kernel)
def fiX6_init_26 (σ : Sg) : Option Sg := some (wr (zr (wr σ 26 1 (fJ9_max_7cf53 0 150)) 27) 26 2 0)
set_option maxRecDepth 20000 in
theorem iX6_init_26 {X : Cx} {ads : List Nat} (hA : ads.length = (sq14).length) (σ : Sg) : CFA X mX6_init ads sq14 [.inr (some 26), .inl 150] σ 1 sq15 1 600 (fiX6_init_26 σ) := by
  refine CFA.of ⟨pX6_init_ok, tbiX6_ok, hA, Nat.le_of_ble_eq_true rfl⟩ (plainFor_of_name plX6) (Nat.le_of_ble_eq_true rfl) ?_
  show J X mX6_init pX6_init tbiX6 (rmD 1 1 600) 0 0 E0 (FA X ads 1 sq15 1 600) ads sq14 (0, [some (.inr (some 26)), some (.inl 150)], [], σ) (fiX6_init_26 σ)
  unfold fiX6_init_26
  refine j_run 0 1 rfl ?_
  refine j_obj 1 rfl (tw_of (i := 123) (by decide +kernel) rfl) ⟨(Nat.le_of_ble_eq_true rfl), (Nat.le_of_ble_eq_true rfl)⟩ rfl ?_
  refine j_run 2 3 rfl ?_
  refine J.okA (fun hA1 => ?_)
  refine j_csT 5 0 2 rfl rfl mwJ9_max_7cf53 (eJ9_max_7cf53 hA1 0 150 _) rfl rfl ⟨⟨(Nat.le_of_ble_eq_true rfl), (Nat.le_of_ble_eq_true rfl)⟩, (Nat.le_of_ble_eq_true rfl), (Nat.le_of_ble_eq_true rfl)⟩ (Nat.le_of_ble_eq_true rfl) (fun _ => ?_)
  refine j_pff 6 0 rfl rfl rfl rfl rfl rfl rfl rfl rfl ?_
  refine j_run 7 2 rfl ?_
  refine j_gf 9 0 rfl rfl rfl rfl ?_
  refine j_run 10 2 rfl ?_
  refine j_newarr 12 0 600 rfl (by rw [rd_same]; rfl) (by decide) rfl ⟨(Nat.le_of_ble_eq_true rfl), (Nat.le_of_ble_eq_true rfl)⟩ (Nat.le_of_ble_eq_true rfl) (fun a2 => ?_)
  refine j_prf 13 1 rfl rfl rfl rfl rfl (Or.inr ⟨rfl, rfl⟩) rfl rfl ?_
  refine j_run 14 2 rfl ?_
  refine j_pf 16 2 rfl rfl rfl rfl rfl (Or.inl rfl) ?_
  exact j_vretA (new := [a2] ++ ([])) 17 rfl rfl (by simp only [List.append_assoc, List.append_nil]) (by simp only [List.length_append, List.length_cons, List.length_nil]) (by decide +kernel)
def fiX9_init_1 (σ : Sg) : Option Sg := (fiX1_init_4 (zr (zr (zr σ 2) 3) 4)).bind fun s4 => (fiX2_init_11 (zr s4 11)).bind fun s6 => (fiX6_init_18 (zr s6 18)).bind fun s8 => (fiX6_init_20 (zr s8 20)).bind fun s10 => (fiX6_init_22 (zr s10 22)).bind fun s12 => (fiX6_init_24 (zr s12 24)).bind fun s14 => (fiX6_init_26 (zr s14 26)).bind fun s16 => (fX9_begin 1 5 4 (wr s16 1 7 0)).bind fun s17 => some s17
set_option maxRecDepth 20000 in
theorem iX9_init_1 {X : Cx} {ads : List Nat} (hA : ads.length = (sq1).length) (σ : Sg) : CFA X mX9_init ads sq1 [.inr (some 1), .inl 150] σ 26 sq16 26 1529 (fiX9_init_1 σ) := by
  refine CFA.of ⟨pX9_init_ok, tbiX9_ok, hA, Nat.le_of_ble_eq_true rfl⟩ (plainFor_of_name plX9) (Nat.le_of_ble_eq_true rfl) ?_
  show J X mX9_init pX9_init tbiX9 (rmD 2 26 1529) 0 0 E0 (FA X ads 26 sq16 26 1529) ads sq1 (0, [some (.inr (some 1)), some (.inl 150)], [], σ) (fiX9_init_1 σ)
  unfold fiX9_init_1
  refine j_run 0 1 rfl ?_
  refine j_obj 1 rfl (tw_of (i := 34) (by decide +kernel) rfl) ⟨(Nat.le_of_ble_eq_true rfl), (Nat.le_of_ble_eq_true rfl)⟩ rfl ?_
  refine j_run 2 2 rfl ?_
  refine j_newarr 4 0 56 rfl rfl (by decide) rfl ⟨(Nat.le_of_ble_eq_true rfl), (Nat.le_of_ble_eq_true rfl)⟩ (Nat.le_of_ble_eq_true rfl) (fun a1 => ?_)
  refine j_prf 5 0 rfl rfl rfl rfl rfl (Or.inr ⟨rfl, rfl⟩) rfl rfl ?_
  refine j_run 6 2 rfl ?_
  refine j_newarr 8 0 56 rfl rfl (by decide) rfl ⟨(Nat.le_of_ble_eq_true rfl), (Nat.le_of_ble_eq_true rfl)⟩ (Nat.le_of_ble_eq_true rfl) (fun a2 => ?_)
  refine j_prf 9 1 rfl rfl rfl rfl rfl (Or.inr ⟨rfl, rfl⟩) rfl rfl ?_
  refine j_run 10 1 rfl ?_
  refine j_new 11 1 rfl rfl (by decide) (tw_of (i := 35) (by decide +kernel) rfl) (tw_of (i := 36) (by decide +kernel) rfl) (tw_of (i := 3) (by decide +kernel) rfl) rfl ⟨(Nat.le_of_ble_eq_true rfl), (Nat.le_of_ble_eq_true rfl)⟩ (Nat.le_of_ble_eq_true rfl) (fun a3 => ?_)
  refine j_run 12 1 rfl ?_
  refine J.okA (fun hA4 => ?_)
  refine j_ciN 13 0 0 rfl rfl mwiX1_init (iX1_init_4 hA4.1 _) rfl rfl ⟨⟨(Nat.le_of_ble_eq_true rfl), (Nat.le_of_ble_eq_true rfl)⟩, (Nat.le_of_ble_eq_true rfl), (Nat.le_of_ble_eq_true rfl)⟩ (Nat.le_of_ble_eq_true rfl) rfl ⟨rfl, (Nat.le_of_ble_eq_true rfl)⟩ (fun n4 s4 hn4 _ => ?_)
  refine j_prf 14 2 rfl rfl rfl rfl rfl (Or.inr ⟨rfl, rfl⟩) rfl rfl ?_
  refine j_run 15 1 rfl ?_
  refine j_new 16 2 rfl rfl (by decide) (tw_of (i := 80) (by decide +kernel) rfl) (tw_of (i := 81) (by decide +kernel) rfl) (tw_of (i := 4) (by decide +kernel) rfl) rfl ⟨(Nat.le_of_ble_eq_true rfl), (Nat.le_of_ble_eq_true rfl)⟩ (Nat.le_of_ble_eq_true rfl) (fun a5 => ?_)
  refine j_run 17 1 rfl ?_
  refine J.okA (fun hA6 => ?_)
  refine j_ciN 18 1 0 rfl rfl mwiX2_init (iX2_init_11 hA6.1 _) rfl rfl ⟨⟨(Nat.le_of_ble_eq_true rfl), (Nat.le_of_ble_eq_true rfl)⟩, (Nat.le_of_ble_eq_true rfl), (Nat.le_of_ble_eq_true rfl)⟩ (Nat.le_of_ble_eq_true rfl) rfl ⟨rfl, (Nat.le_of_ble_eq_true rfl)⟩ (fun n6 s6 hn6 _ => ?_)
  refine j_prf 19 3 rfl rfl rfl rfl rfl (Or.inr ⟨rfl, rfl⟩) rfl rfl ?_
  refine j_run 20 1 rfl ?_
  refine j_new 21 6 rfl rfl (by decide) (tw_of (i := 118) (by decide +kernel) rfl) (tw_of (i := 119) (by decide +kernel) rfl) (tw_of (i := 5) (by decide +kernel) rfl) rfl ⟨(Nat.le_of_ble_eq_true rfl), (Nat.le_of_ble_eq_true rfl)⟩ (Nat.le_of_ble_eq_true rfl) (fun a7 => ?_)
  refine j_run 22 2 rfl ?_
  refine J.okA (fun hA8 => ?_)
  refine j_ci 24 0 1 rfl rfl mwiX6_init (iX6_init_18 hA8.1 _) rfl rfl ⟨⟨(Nat.le_of_ble_eq_true rfl), (Nat.le_of_ble_eq_true rfl)⟩, (Nat.le_of_ble_eq_true rfl), (Nat.le_of_ble_eq_true rfl)⟩ (Nat.le_of_ble_eq_true rfl) rfl ⟨rfl, (Nat.le_of_ble_eq_true rfl)⟩ (fun n8 s8 hn8 _ => ?_)
  refine j_prf 25 4 rfl rfl rfl rfl rfl (Or.inr ⟨rfl, rfl⟩) rfl rfl ?_
  refine j_run 26 1 rfl ?_
  refine j_new 27 6 rfl rfl (by decide) (tw_of (i := 118) (by decide +kernel) rfl) (tw_of (i := 119) (by decide +kernel) rfl) (tw_of (i := 5) (by decide +kernel) rfl) rfl ⟨(Nat.le_of_ble_eq_true rfl), (Nat.le_of_ble_eq_true rfl)⟩ (Nat.le_of_ble_eq_true rfl) (fun a9 => ?_)
  refine j_run 28 2 rfl ?_
  refine J.okA (fun hA10 => ?_)
  refine j_ci 30 0 1 rfl rfl mwiX6_init (iX6_init_20 hA10.1 _) rfl rfl ⟨⟨(Nat.le_of_ble_eq_true rfl), (Nat.le_of_ble_eq_true rfl)⟩, (Nat.le_of_ble_eq_true rfl), (Nat.le_of_ble_eq_true rfl)⟩ (Nat.le_of_ble_eq_true rfl) rfl ⟨rfl, (Nat.le_of_ble_eq_true rfl)⟩ (fun n10 s10 hn10 _ => ?_)
  refine j_prf 31 5 rfl rfl rfl rfl rfl (Or.inr ⟨rfl, rfl⟩) rfl rfl ?_
  refine j_run 32 1 rfl ?_
  refine j_new 33 6 rfl rfl (by decide) (tw_of (i := 118) (by decide +kernel) rfl) (tw_of (i := 119) (by decide +kernel) rfl) (tw_of (i := 5) (by decide +kernel) rfl) rfl ⟨(Nat.le_of_ble_eq_true rfl), (Nat.le_of_ble_eq_true rfl)⟩ (Nat.le_of_ble_eq_true rfl) (fun a11 => ?_)
  refine j_run 34 2 rfl ?_
  refine J.okA (fun hA12 => ?_)
  refine j_ci 36 0 1 rfl rfl mwiX6_init (iX6_init_22 hA12.1 _) rfl rfl ⟨⟨(Nat.le_of_ble_eq_true rfl), (Nat.le_of_ble_eq_true rfl)⟩, (Nat.le_of_ble_eq_true rfl), (Nat.le_of_ble_eq_true rfl)⟩ (Nat.le_of_ble_eq_true rfl) rfl ⟨rfl, (Nat.le_of_ble_eq_true rfl)⟩ (fun n12 s12 hn12 _ => ?_)
  refine j_prf 37 6 rfl rfl rfl rfl rfl (Or.inr ⟨rfl, rfl⟩) rfl rfl ?_
  refine j_run 38 1 rfl ?_
  refine j_new 39 6 rfl rfl (by decide) (tw_of (i := 118) (by decide +kernel) rfl) (tw_of (i := 119) (by decide +kernel) rfl) (tw_of (i := 5) (by decide +kernel) rfl) rfl ⟨(Nat.le_of_ble_eq_true rfl), (Nat.le_of_ble_eq_true rfl)⟩ (Nat.le_of_ble_eq_true rfl) (fun a13 => ?_)
  refine j_run 40 2 rfl ?_
  refine J.okA (fun hA14 => ?_)
  refine j_ci 42 0 1 rfl rfl mwiX6_init (iX6_init_24 hA14.1 _) rfl rfl ⟨⟨(Nat.le_of_ble_eq_true rfl), (Nat.le_of_ble_eq_true rfl)⟩, (Nat.le_of_ble_eq_true rfl), (Nat.le_of_ble_eq_true rfl)⟩ (Nat.le_of_ble_eq_true rfl) rfl ⟨rfl, (Nat.le_of_ble_eq_true rfl)⟩ (fun n14 s14 hn14 _ => ?_)
  refine j_prf 43 7 rfl rfl rfl rfl rfl (Or.inr ⟨rfl, rfl⟩) rfl rfl ?_
  refine j_run 44 1 rfl ?_
  refine j_new 45 6 rfl rfl (by decide) (tw_of (i := 118) (by decide +kernel) rfl) (tw_of (i := 119) (by decide +kernel) rfl) (tw_of (i := 5) (by decide +kernel) rfl) rfl ⟨(Nat.le_of_ble_eq_true rfl), (Nat.le_of_ble_eq_true rfl)⟩ (Nat.le_of_ble_eq_true rfl) (fun a15 => ?_)
  refine j_run 46 2 rfl ?_
  refine J.okA (fun hA16 => ?_)
  refine j_ci 48 0 1 rfl rfl mwiX6_init (iX6_init_26 hA16.1 _) rfl rfl ⟨⟨(Nat.le_of_ble_eq_true rfl), (Nat.le_of_ble_eq_true rfl)⟩, (Nat.le_of_ble_eq_true rfl), (Nat.le_of_ble_eq_true rfl)⟩ (Nat.le_of_ble_eq_true rfl) rfl ⟨rfl, (Nat.le_of_ble_eq_true rfl)⟩ (fun n16 s16 hn16 _ => ?_)
  refine j_prf 49 8 rfl rfl rfl rfl rfl (Or.inr ⟨rfl, rfl⟩) rfl rfl ?_
  refine j_run 50 2 rfl ?_
  refine j_pf 52 9 rfl rfl rfl rfl rfl (Or.inl rfl) ?_
  refine j_run 53 3 rfl ?_
  refine J.okA (fun hA17 => ?_)
  refine j_cv 56 1 2 rfl rfl mwX9_begin rfl rfl rfl (eX9_begin hA17 (by unfold ocW ocF ocL ocR; exact ⟨rfl, rfl, rfl, ⟨rfl, rfl, rfl, rfl, rfl, rfl, rfl⟩, ⟨rfl, rfl, rfl, rfl, rfl, rfl, rfl⟩, ⟨rfl, rfl⟩, ⟨rfl, rfl⟩, ⟨rfl, rfl⟩, ⟨rfl, rfl⟩, ⟨rfl, rfl⟩⟩) 5 4 _) rfl rfl ⟨⟨(Nat.le_of_ble_eq_true rfl), (Nat.le_of_ble_eq_true rfl)⟩, (Nat.le_of_ble_eq_true rfl), (Nat.le_of_ble_eq_true rfl)⟩ (Nat.le_of_ble_eq_true rfl) (fun s17 _ _ => ?_)
  exact j_vretA (new := [a1] ++ ([a2] ++ ([a3] ++ (n4 ++ ([a5] ++ (n6 ++ ([a7] ++ (n8 ++ ([a9] ++ (n10 ++ ([a11] ++ (n12 ++ ([a13] ++ (n14 ++ ([a15] ++ (n16 ++ ([]))))))))))))))))) 57 rfl rfl (by simp only [List.append_assoc, List.append_nil]) (by simp only [List.length_append, List.length_cons, List.length_nil, hn4, hn6, hn8, hn10, hn12, hn14, hn16]) (by decide +kernel)
def fiX1_init_31 (σ : Sg) : Option Sg := some (zr (zr (zr (zr (zr (zr σ 32) 33) 34) 35) 36) 37)
set_option maxRecDepth 20000 in
theorem iX1_init_31 {X : Cx} {ads : List Nat} (hA : ads.length = (sq18).length) (σ : Sg) : CFA X mX1_init ads sq18 [.inr (some 31)] σ 6 sq19 6 72 (fiX1_init_31 σ) := by
  refine CFA.of ⟨pX1_init_ok, tbiX1_ok, hA, Nat.le_of_ble_eq_true rfl⟩ (plainFor_of_name plX1) (Nat.le_of_ble_eq_true rfl) ?_
  show J X mX1_init pX1_init tbiX1 (rmD 1 6 72) 0 0 E0 (FA X ads 6 sq19 6 72) ads sq18 (0, [some (.inr (some 31))], [], σ) (fiX1_init_31 σ)
  unfold fiX1_init_31
  refine j_run 0 1 rfl ?_
  refine j_obj 1 rfl (tw_of (i := 40) (by decide +kernel) rfl) ⟨(Nat.le_of_ble_eq_true rfl), (Nat.le_of_ble_eq_true rfl)⟩ rfl ?_
  refine j_run 2 2 rfl ?_
  refine j_newarr 4 0 12 rfl rfl (by decide) rfl ⟨(Nat.le_of_ble_eq_true rfl), (Nat.le_of_ble_eq_true rfl)⟩ (Nat.le_of_ble_eq_true rfl) (fun a1 => ?_)
  refine j_prf 5 0 rfl rfl rfl rfl rfl (Or.inr ⟨rfl, rfl⟩) rfl rfl ?_
  refine j_run 6 2 rfl ?_
  refine j_newarr 8 0 12 rfl rfl (by decide) rfl ⟨(Nat.le_of_ble_eq_true rfl), (Nat.le_of_ble_eq_true rfl)⟩ (Nat.le_of_ble_eq_true rfl) (fun a2 => ?_)
  refine j_prf 9 1 rfl rfl rfl rfl rfl (Or.inr ⟨rfl, rfl⟩) rfl rfl ?_
  refine j_run 10 2 rfl ?_
  refine j_newarr 12 0 12 rfl rfl (by decide) rfl ⟨(Nat.le_of_ble_eq_true rfl), (Nat.le_of_ble_eq_true rfl)⟩ (Nat.le_of_ble_eq_true rfl) (fun a3 => ?_)
  refine j_prf 13 2 rfl rfl rfl rfl rfl (Or.inr ⟨rfl, rfl⟩) rfl rfl ?_
  refine j_run 14 2 rfl ?_
  refine j_newarr 16 0 12 rfl rfl (by decide) rfl ⟨(Nat.le_of_ble_eq_true rfl), (Nat.le_of_ble_eq_true rfl)⟩ (Nat.le_of_ble_eq_true rfl) (fun a4 => ?_)
  refine j_prf 17 3 rfl rfl rfl rfl rfl (Or.inr ⟨rfl, rfl⟩) rfl rfl ?_
  refine j_run 18 2 rfl ?_
  refine j_newarr 20 0 12 rfl rfl (by decide) rfl ⟨(Nat.le_of_ble_eq_true rfl), (Nat.le_of_ble_eq_true rfl)⟩ (Nat.le_of_ble_eq_true rfl) (fun a5 => ?_)
  refine j_prf 21 4 rfl rfl rfl rfl rfl (Or.inr ⟨rfl, rfl⟩) rfl rfl ?_
  refine j_run 22 2 rfl ?_
  refine j_newarr 24 0 12 rfl rfl (by decide) rfl ⟨(Nat.le_of_ble_eq_true rfl), (Nat.le_of_ble_eq_true rfl)⟩ (Nat.le_of_ble_eq_true rfl) (fun a6 => ?_)
  refine j_prf 25 5 rfl rfl rfl rfl rfl (Or.inr ⟨rfl, rfl⟩) rfl rfl ?_
  exact j_vretA (new := [a1] ++ ([a2] ++ ([a3] ++ ([a4] ++ ([a5] ++ ([a6] ++ ([]))))))) 26 rfl rfl (by simp only [List.append_assoc, List.append_nil]) (by simp only [List.length_append, List.length_cons, List.length_nil]) (by decide +kernel)
def fiX2_init_38 (σ : Sg) : Option Sg := some (zr (zr (zr (zr (zr (zr σ 39) 40) 41) 42) 43) 44)
set_option maxRecDepth 20000 in
theorem iX2_init_38 {X : Cx} {ads : List Nat} (hA : ads.length = (sq20).length) (σ : Sg) : CFA X mX2_init ads sq20 [.inr (some 38)] σ 6 sq21 6 507 (fiX2_init_38 σ) := by
  refine CFA.of ⟨pX2_init_ok, tbiX2_ok, hA, Nat.le_of_ble_eq_true rfl⟩ (plainFor_of_name plX2) (Nat.le_of_ble_eq_true rfl) ?_
  show J X mX2_init pX2_init tbiX2 (rmD 1 6 507) 0 0 E0 (FA X ads 6 sq21 6 507) ads sq20 (0, [some (.inr (some 38))], [], σ) (fiX2_init_38 σ)
  unfold fiX2_init_38
  refine j_run 0 1 rfl ?_
  refine j_obj 1 rfl (tw_of (i := 85) (by decide +kernel) rfl) ⟨(Nat.le_of_ble_eq_true rfl), (Nat.le_of_ble_eq_true rfl)⟩ rfl ?_
  refine j_run 2 2 rfl ?_
  refine j_newarr 4 0 400 rfl rfl (by decide) rfl ⟨(Nat.le_of_ble_eq_true rfl), (Nat.le_of_ble_eq_true rfl)⟩ (Nat.le_of_ble_eq_true rfl) (fun a1 => ?_)
  refine j_prf 5 0 rfl rfl rfl rfl rfl (Or.inr ⟨rfl, rfl⟩) rfl rfl ?_
  refine j_run 6 2 rfl ?_
  refine j_newarr 8 0 16 rfl rfl (by decide) rfl ⟨(Nat.le_of_ble_eq_true rfl), (Nat.le_of_ble_eq_true rfl)⟩ (Nat.le_of_ble_eq_true rfl) (fun a2 => ?_)
  refine j_prf 9 1 rfl rfl rfl rfl rfl (Or.inr ⟨rfl, rfl⟩) rfl rfl ?_
  refine j_run 10 2 rfl ?_
  refine j_newarr 12 0 17 rfl rfl (by decide) rfl ⟨(Nat.le_of_ble_eq_true rfl), (Nat.le_of_ble_eq_true rfl)⟩ (Nat.le_of_ble_eq_true rfl) (fun a3 => ?_)
  refine j_prf 13 2 rfl rfl rfl rfl rfl (Or.inr ⟨rfl, rfl⟩) rfl rfl ?_
  refine j_run 14 2 rfl ?_
  refine j_newarr 16 0 16 rfl rfl (by decide) rfl ⟨(Nat.le_of_ble_eq_true rfl), (Nat.le_of_ble_eq_true rfl)⟩ (Nat.le_of_ble_eq_true rfl) (fun a4 => ?_)
  refine j_prf 17 3 rfl rfl rfl rfl rfl (Or.inr ⟨rfl, rfl⟩) rfl rfl ?_
  refine j_run 18 2 rfl ?_
  refine j_newarr 20 0 10 rfl rfl (by decide) rfl ⟨(Nat.le_of_ble_eq_true rfl), (Nat.le_of_ble_eq_true rfl)⟩ (Nat.le_of_ble_eq_true rfl) (fun a5 => ?_)
  refine j_prf 21 4 rfl rfl rfl rfl rfl (Or.inr ⟨rfl, rfl⟩) rfl rfl ?_
  refine j_run 22 2 rfl ?_
  refine j_newarr 24 0 48 rfl rfl (by decide) rfl ⟨(Nat.le_of_ble_eq_true rfl), (Nat.le_of_ble_eq_true rfl)⟩ (Nat.le_of_ble_eq_true rfl) (fun a6 => ?_)
  refine j_prf 25 5 rfl rfl rfl rfl rfl (Or.inr ⟨rfl, rfl⟩) rfl rfl ?_
  exact j_vretA (new := [a1] ++ ([a2] ++ ([a3] ++ ([a4] ++ ([a5] ++ ([a6] ++ ([]))))))) 26 rfl rfl (by simp only [List.append_assoc, List.append_nil]) (by simp only [List.length_append, List.length_cons, List.length_nil]) (by decide +kernel)
def fiX6_init_45 (σ : Sg) : Option Sg := some (wr (zr (wr σ 45 1 (fJ9_max_7cf53 0 16)) 46) 45 2 0)
set_option maxRecDepth 20000 in
theorem iX6_init_45 {X : Cx} {ads : List Nat} (hA : ads.length = (sq22).length) (σ : Sg) : CFA X mX6_init ads sq22 [.inr (some 45), .inl 16] σ 1 sq23 1 64 (fiX6_init_45 σ) := by
  refine CFA.of ⟨pX6_init_ok, tbiX6_ok, hA, Nat.le_of_ble_eq_true rfl⟩ (plainFor_of_name plX6) (Nat.le_of_ble_eq_true rfl) ?_
  show J X mX6_init pX6_init tbiX6 (rmD 1 1 64) 0 0 E0 (FA X ads 1 sq23 1 64) ads sq22 (0, [some (.inr (some 45)), some (.inl 16)], [], σ) (fiX6_init_45 σ)
  unfold fiX6_init_45
  refine j_run 0 1 rfl ?_
  refine j_obj 1 rfl (tw_of (i := 123) (by decide +kernel) rfl) ⟨(Nat.le_of_ble_eq_true rfl), (Nat.le_of_ble_eq_true rfl)⟩ rfl ?_
  refine j_run 2 3 rfl ?_
  refine J.okA (fun hA1 => ?_)
  refine j_csT 5 0 2 rfl rfl mwJ9_max_7cf53 (eJ9_max_7cf53 hA1 0 16 _) rfl rfl ⟨⟨(Nat.le_of_ble_eq_true rfl), (Nat.le_of_ble_eq_true rfl)⟩, (Nat.le_of_ble_eq_true rfl), (Nat.le_of_ble_eq_true rfl)⟩ (Nat.le_of_ble_eq_true rfl) (fun _ => ?_)
  refine j_pff 6 0 rfl rfl rfl rfl rfl rfl rfl rfl rfl ?_
  refine j_run 7 2 rfl ?_
  refine j_gf 9 0 rfl rfl rfl rfl ?_
  refine j_run 10 2 rfl ?_
  refine j_newarr 12 0 64 rfl (by rw [rd_same]; rfl) (by decide) rfl ⟨(Nat.le_of_ble_eq_true rfl), (Nat.le_of_ble_eq_true rfl)⟩ (Nat.le_of_ble_eq_true rfl) (fun a2 => ?_)
  refine j_prf 13 1 rfl rfl rfl rfl rfl (Or.inr ⟨rfl, rfl⟩) rfl rfl ?_
  refine j_run 14 2 rfl ?_
  refine j_pf 16 2 rfl rfl rfl rfl rfl (Or.inl rfl) ?_
  exact j_vretA (new := [a2] ++ ([])) 17 rfl rfl (by simp only [List.append_assoc, List.append_nil]) (by simp only [List.length_append, List.length_cons, List.length_nil]) (by decide +kernel)
def fiX6_init_47 (σ : Sg) : Option Sg := some (wr (zr (wr σ 47 1 (fJ9_max_7cf53 0 12)) 48) 47 2 0)
set_option maxRecDepth 20000 in
theorem iX6_init_47 {X : Cx} {ads : List Nat} (hA : ads.length = (sq24).length) (σ : Sg) : CFA X mX6_init ads sq24 [.inr (some 47), .inl 12] σ 1 sq25 1 48 (fiX6_init_47 σ) := by
  refine CFA.of ⟨pX6_init_ok, tbiX6_ok, hA, Nat.le_of_ble_eq_true rfl⟩ (plainFor_of_name plX6) (Nat.le_of_ble_eq_true rfl) ?_
  show J X mX6_init pX6_init tbiX6 (rmD 1 1 48) 0 0 E0 (FA X ads 1 sq25 1 48) ads sq24 (0, [some (.inr (some 47)), some (.inl 12)], [], σ) (fiX6_init_47 σ)
  unfold fiX6_init_47
  refine j_run 0 1 rfl ?_
  refine j_obj 1 rfl (tw_of (i := 123) (by decide +kernel) rfl) ⟨(Nat.le_of_ble_eq_true rfl), (Nat.le_of_ble_eq_true rfl)⟩ rfl ?_
  refine j_run 2 3 rfl ?_
  refine J.okA (fun hA1 => ?_)
  refine j_csT 5 0 2 rfl rfl mwJ9_max_7cf53 (eJ9_max_7cf53 hA1 0 12 _) rfl rfl ⟨⟨(Nat.le_of_ble_eq_true rfl), (Nat.le_of_ble_eq_true rfl)⟩, (Nat.le_of_ble_eq_true rfl), (Nat.le_of_ble_eq_true rfl)⟩ (Nat.le_of_ble_eq_true rfl) (fun _ => ?_)
  refine j_pff 6 0 rfl rfl rfl rfl rfl rfl rfl rfl rfl ?_
  refine j_run 7 2 rfl ?_
  refine j_gf 9 0 rfl rfl rfl rfl ?_
  refine j_run 10 2 rfl ?_
  refine j_newarr 12 0 48 rfl (by rw [rd_same]; rfl) (by decide) rfl ⟨(Nat.le_of_ble_eq_true rfl), (Nat.le_of_ble_eq_true rfl)⟩ (Nat.le_of_ble_eq_true rfl) (fun a2 => ?_)
  refine j_prf 13 1 rfl rfl rfl rfl rfl (Or.inr ⟨rfl, rfl⟩) rfl rfl ?_
  refine j_run 14 2 rfl ?_
  refine j_pf 16 2 rfl rfl rfl rfl rfl (Or.inl rfl) ?_
  exact j_vretA (new := [a2] ++ ([])) 17 rfl rfl (by simp only [List.append_assoc, List.append_nil]) (by simp only [List.length_append, List.length_cons, List.length_nil]) (by decide +kernel)
def fiX6_init_49 (σ : Sg) : Option Sg := some (wr (zr (wr σ 49 1 (fJ9_max_7cf53 0 12)) 50) 49 2 0)
set_option maxRecDepth 20000 in
theorem iX6_init_49 {X : Cx} {ads : List Nat} (hA : ads.length = (sq26).length) (σ : Sg) : CFA X mX6_init ads sq26 [.inr (some 49), .inl 12] σ 1 sq27 1 48 (fiX6_init_49 σ) := by
  refine CFA.of ⟨pX6_init_ok, tbiX6_ok, hA, Nat.le_of_ble_eq_true rfl⟩ (plainFor_of_name plX6) (Nat.le_of_ble_eq_true rfl) ?_
  show J X mX6_init pX6_init tbiX6 (rmD 1 1 48) 0 0 E0 (FA X ads 1 sq27 1 48) ads sq26 (0, [some (.inr (some 49)), some (.inl 12)], [], σ) (fiX6_init_49 σ)
  unfold fiX6_init_49
  refine j_run 0 1 rfl ?_
  refine j_obj 1 rfl (tw_of (i := 123) (by decide +kernel) rfl) ⟨(Nat.le_of_ble_eq_true rfl), (Nat.le_of_ble_eq_true rfl)⟩ rfl ?_
  refine j_run 2 3 rfl ?_
  refine J.okA (fun hA1 => ?_)
  refine j_csT 5 0 2 rfl rfl mwJ9_max_7cf53 (eJ9_max_7cf53 hA1 0 12 _) rfl rfl ⟨⟨(Nat.le_of_ble_eq_true rfl), (Nat.le_of_ble_eq_true rfl)⟩, (Nat.le_of_ble_eq_true rfl), (Nat.le_of_ble_eq_true rfl)⟩ (Nat.le_of_ble_eq_true rfl) (fun _ => ?_)
  refine j_pff 6 0 rfl rfl rfl rfl rfl rfl rfl rfl rfl ?_
  refine j_run 7 2 rfl ?_
  refine j_gf 9 0 rfl rfl rfl rfl ?_
  refine j_run 10 2 rfl ?_
  refine j_newarr 12 0 48 rfl (by rw [rd_same]; rfl) (by decide) rfl ⟨(Nat.le_of_ble_eq_true rfl), (Nat.le_of_ble_eq_true rfl)⟩ (Nat.le_of_ble_eq_true rfl) (fun a2 => ?_)
  refine j_prf 13 1 rfl rfl rfl rfl rfl (Or.inr ⟨rfl, rfl⟩) rfl rfl ?_
  refine j_run 14 2 rfl ?_
  refine j_pf 16 2 rfl rfl rfl rfl rfl (Or.inl rfl) ?_
  exact j_vretA (new := [a2] ++ ([])) 17 rfl rfl (by simp only [List.append_assoc, List.append_nil]) (by simp only [List.length_append, List.length_cons, List.length_nil]) (by decide +kernel)
def fiX6_init_51 (σ : Sg) : Option Sg := some (wr (zr (wr σ 51 1 (fJ9_max_7cf53 0 12)) 52) 51 2 0)
set_option maxRecDepth 20000 in
theorem iX6_init_51 {X : Cx} {ads : List Nat} (hA : ads.length = (sq28).length) (σ : Sg) : CFA X mX6_init ads sq28 [.inr (some 51), .inl 12] σ 1 sq29 1 48 (fiX6_init_51 σ) := by
  refine CFA.of ⟨pX6_init_ok, tbiX6_ok, hA, Nat.le_of_ble_eq_true rfl⟩ (plainFor_of_name plX6) (Nat.le_of_ble_eq_true rfl) ?_
  show J X mX6_init pX6_init tbiX6 (rmD 1 1 48) 0 0 E0 (FA X ads 1 sq29 1 48) ads sq28 (0, [some (.inr (some 51)), some (.inl 12)], [], σ) (fiX6_init_51 σ)
  unfold fiX6_init_51
  refine j_run 0 1 rfl ?_
  refine j_obj 1 rfl (tw_of (i := 123) (by decide +kernel) rfl) ⟨(Nat.le_of_ble_eq_true rfl), (Nat.le_of_ble_eq_true rfl)⟩ rfl ?_
  refine j_run 2 3 rfl ?_
  refine J.okA (fun hA1 => ?_)
  refine j_csT 5 0 2 rfl rfl mwJ9_max_7cf53 (eJ9_max_7cf53 hA1 0 12 _) rfl rfl ⟨⟨(Nat.le_of_ble_eq_true rfl), (Nat.le_of_ble_eq_true rfl)⟩, (Nat.le_of_ble_eq_true rfl), (Nat.le_of_ble_eq_true rfl)⟩ (Nat.le_of_ble_eq_true rfl) (fun _ => ?_)
  refine j_pff 6 0 rfl rfl rfl rfl rfl rfl rfl rfl rfl ?_
  refine j_run 7 2 rfl ?_
  refine j_gf 9 0 rfl rfl rfl rfl ?_
  refine j_run 10 2 rfl ?_
  refine j_newarr 12 0 48 rfl (by rw [rd_same]; rfl) (by decide) rfl ⟨(Nat.le_of_ble_eq_true rfl), (Nat.le_of_ble_eq_true rfl)⟩ (Nat.le_of_ble_eq_true rfl) (fun a2 => ?_)
  refine j_prf 13 1 rfl rfl rfl rfl rfl (Or.inr ⟨rfl, rfl⟩) rfl rfl ?_
  refine j_run 14 2 rfl ?_
  refine j_pf 16 2 rfl rfl rfl rfl rfl (Or.inl rfl) ?_
  exact j_vretA (new := [a2] ++ ([])) 17 rfl rfl (by simp only [List.append_assoc, List.append_nil]) (by simp only [List.length_append, List.length_cons, List.length_nil]) (by decide +kernel)
def fiX6_init_53 (σ : Sg) : Option Sg := some (wr (zr (wr σ 53 1 (fJ9_max_7cf53 0 0)) 54) 53 2 0)
set_option maxRecDepth 20000 in
theorem iX6_init_53 {X : Cx} {ads : List Nat} (hA : ads.length = (sq30).length) (σ : Sg) : CFA X mX6_init ads sq30 [.inr (some 53), .inl 0] σ 1 sq31 1 0 (fiX6_init_53 σ) := by
  refine CFA.of ⟨pX6_init_ok, tbiX6_ok, hA, Nat.le_of_ble_eq_true rfl⟩ (plainFor_of_name plX6) (Nat.le_of_ble_eq_true rfl) ?_
  show J X mX6_init pX6_init tbiX6 (rmD 1 1 0) 0 0 E0 (FA X ads 1 sq31 1 0) ads sq30 (0, [some (.inr (some 53)), some (.inl 0)], [], σ) (fiX6_init_53 σ)
  unfold fiX6_init_53
  refine j_run 0 1 rfl ?_
  refine j_obj 1 rfl (tw_of (i := 123) (by decide +kernel) rfl) ⟨(Nat.le_of_ble_eq_true rfl), (Nat.le_of_ble_eq_true rfl)⟩ rfl ?_
  refine j_run 2 3 rfl ?_
  refine J.okA (fun hA1 => ?_)
  refine j_csT 5 0 2 rfl rfl mwJ9_max_7cf53 (eJ9_max_7cf53 hA1 0 0 _) rfl rfl ⟨⟨(Nat.le_of_ble_eq_true rfl), (Nat.le_of_ble_eq_true rfl)⟩, (Nat.le_of_ble_eq_true rfl), (Nat.le_of_ble_eq_true rfl)⟩ (Nat.le_of_ble_eq_true rfl) (fun _ => ?_)
  refine j_pff 6 0 rfl rfl rfl rfl rfl rfl rfl rfl rfl ?_
  refine j_run 7 2 rfl ?_
  refine j_gf 9 0 rfl rfl rfl rfl ?_
  refine j_run 10 2 rfl ?_
  refine j_newarr 12 0 0 rfl (by rw [rd_same]; rfl) (by decide) rfl ⟨(Nat.le_of_ble_eq_true rfl), (Nat.le_of_ble_eq_true rfl)⟩ (Nat.le_of_ble_eq_true rfl) (fun a2 => ?_)
  refine j_prf 13 1 rfl rfl rfl rfl rfl (Or.inr ⟨rfl, rfl⟩) rfl rfl ?_
  refine j_run 14 2 rfl ?_
  refine j_pf 16 2 rfl rfl rfl rfl rfl (Or.inl rfl) ?_
  exact j_vretA (new := [a2] ++ ([])) 17 rfl rfl (by simp only [List.append_assoc, List.append_nil]) (by simp only [List.length_append, List.length_cons, List.length_nil]) (by decide +kernel)
def fiX9_init_28 (σ : Sg) : Option Sg := (fiX1_init_31 (zr (zr (zr σ 29) 30) 31)).bind fun s4 => (fiX2_init_38 (zr s4 38)).bind fun s6 => (fiX6_init_45 (zr s6 45)).bind fun s8 => (fiX6_init_47 (zr s8 47)).bind fun s10 => (fiX6_init_49 (zr s10 49)).bind fun s12 => (fiX6_init_51 (zr s12 51)).bind fun s14 => (fiX6_init_53 (zr s14 53)).bind fun s16 => (fX9_begin 28 5 4 (wr s16 28 7 0)).bind fun s17 => some s17
set_option maxRecDepth 20000 in
theorem iX9_init_28 {X : Cx} {ads : List Nat} (hA : ads.length = (sq17).length) (σ : Sg) : CFA X mX9_init ads sq17 [.inr (some 28), .inl 0] σ 26 sq32 26 929 (fiX9_init_28 σ) := by
  refine CFA.of ⟨pX9_init_ok, tbiX9_ok, hA, Nat.le_of_ble_eq_true rfl⟩ (plainFor_of_name plX9) (Nat.le_of_ble_eq_true rfl) ?_
  show J X mX9_init pX9_init tbiX9 (rmD 2 26 929) 0 0 E0 (FA X ads 26 sq32 26 929) ads sq17 (0, [some (.inr (some 28)), some (.inl 0)], [], σ) (fiX9_init_28 σ)
  unfold fiX9_init_28
  refine j_run 0 1 rfl ?_
  refine j_obj 1 rfl (tw_of (i := 34) (by decide +kernel) rfl) ⟨(Nat.le_of_ble_eq_true rfl), (Nat.le_of_ble_eq_true rfl)⟩ rfl ?_
  refine j_run 2 2 rfl ?_
  refine j_newarr 4 0 56 rfl rfl (by decide) rfl ⟨(Nat.le_of_ble_eq_true rfl), (Nat.le_of_ble_eq_true rfl)⟩ (Nat.le_of_ble_eq_true rfl) (fun a1 => ?_)
  refine j_prf 5 0 rfl rfl rfl rfl rfl (Or.inr ⟨rfl, rfl⟩) rfl rfl ?_
  refine j_run 6 2 rfl ?_
  refine j_newarr 8 0 56 rfl rfl (by decide) rfl ⟨(Nat.le_of_ble_eq_true rfl), (Nat.le_of_ble_eq_true rfl)⟩ (Nat.le_of_ble_eq_true rfl) (fun a2 => ?_)
  refine j_prf 9 1 rfl rfl rfl rfl rfl (Or.inr ⟨rfl, rfl⟩) rfl rfl ?_
  refine j_run 10 1 rfl ?_
  refine j_new 11 1 rfl rfl (by decide) (tw_of (i := 35) (by decide +kernel) rfl) (tw_of (i := 36) (by decide +kernel) rfl) (tw_of (i := 3) (by decide +kernel) rfl) rfl ⟨(Nat.le_of_ble_eq_true rfl), (Nat.le_of_ble_eq_true rfl)⟩ (Nat.le_of_ble_eq_true rfl) (fun a3 => ?_)
  refine j_run 12 1 rfl ?_
  refine J.okA (fun hA4 => ?_)
  refine j_ciN 13 0 0 rfl rfl mwiX1_init (iX1_init_31 hA4.1 _) rfl rfl ⟨⟨(Nat.le_of_ble_eq_true rfl), (Nat.le_of_ble_eq_true rfl)⟩, (Nat.le_of_ble_eq_true rfl), (Nat.le_of_ble_eq_true rfl)⟩ (Nat.le_of_ble_eq_true rfl) rfl ⟨rfl, (Nat.le_of_ble_eq_true rfl)⟩ (fun n4 s4 hn4 _ => ?_)
  refine j_prf 14 2 rfl rfl rfl rfl rfl (Or.inr ⟨rfl, rfl⟩) rfl rfl ?_
  refine j_run 15 1 rfl ?_
  refine j_new 16 2 rfl rfl (by decide) (tw_of (i := 80) (by decide +kernel) rfl) (tw_of (i := 81) (by decide +kernel) rfl) (tw_of (i := 4) (by decide +kernel) rfl) rfl ⟨(Nat.le_of_ble_eq_true rfl), (Nat.le_of_ble_eq_true rfl)⟩ (Nat.le_of_ble_eq_true rfl) (fun a5 => ?_)
  refine j_run 17 1 rfl ?_
  refine J.okA (fun hA6 => ?_)
  refine j_ciN 18 1 0 rfl rfl mwiX2_init (iX2_init_38 hA6.1 _) rfl rfl ⟨⟨(Nat.le_of_ble_eq_true rfl), (Nat.le_of_ble_eq_true rfl)⟩, (Nat.le_of_ble_eq_true rfl), (Nat.le_of_ble_eq_true rfl)⟩ (Nat.le_of_ble_eq_true rfl) rfl ⟨rfl, (Nat.le_of_ble_eq_true rfl)⟩ (fun n6 s6 hn6 _ => ?_)
  refine j_prf 19 3 rfl rfl rfl rfl rfl (Or.inr ⟨rfl, rfl⟩) rfl rfl ?_
  refine j_run 20 1 rfl ?_
  refine j_new 21 6 rfl rfl (by decide) (tw_of (i := 118) (by decide +kernel) rfl) (tw_of (i := 119) (by decide +kernel) rfl) (tw_of (i := 5) (by decide +kernel) rfl) rfl ⟨(Nat.le_of_ble_eq_true rfl), (Nat.le_of_ble_eq_true rfl)⟩ (Nat.le_of_ble_eq_true rfl) (fun a7 => ?_)
  refine j_run 22 2 rfl ?_
  refine J.okA (fun hA8 => ?_)
  refine j_ci 24 0 1 rfl rfl mwiX6_init (iX6_init_45 hA8.1 _) rfl rfl ⟨⟨(Nat.le_of_ble_eq_true rfl), (Nat.le_of_ble_eq_true rfl)⟩, (Nat.le_of_ble_eq_true rfl), (Nat.le_of_ble_eq_true rfl)⟩ (Nat.le_of_ble_eq_true rfl) rfl ⟨rfl, (Nat.le_of_ble_eq_true rfl)⟩ (fun n8 s8 hn8 _ => ?_)
  refine j_prf 25 4 rfl rfl rfl rfl rfl (Or.inr ⟨rfl, rfl⟩) rfl rfl ?_
  refine j_run 26 1 rfl ?_
  refine j_new 27 6 rfl rfl (by decide) (tw_of (i := 118) (by decide +kernel) rfl) (tw_of (i := 119) (by decide +kernel) rfl) (tw_of (i := 5) (by decide +kernel) rfl) rfl ⟨(Nat.le_of_ble_eq_true rfl), (Nat.le_of_ble_eq_true rfl)⟩ (Nat.le_of_ble_eq_true rfl) (fun a9 => ?_)
  refine j_run 28 2 rfl ?_
  refine J.okA (fun hA10 => ?_)
  refine j_ci 30 0 1 rfl rfl mwiX6_init (iX6_init_47 hA10.1 _) rfl rfl ⟨⟨(Nat.le_of_ble_eq_true rfl), (Nat.le_of_ble_eq_true rfl)⟩, (Nat.le_of_ble_eq_true rfl), (Nat.le_of_ble_eq_true rfl)⟩ (Nat.le_of_ble_eq_true rfl) rfl ⟨rfl, (Nat.le_of_ble_eq_true rfl)⟩ (fun n10 s10 hn10 _ => ?_)
  refine j_prf 31 5 rfl rfl rfl rfl rfl (Or.inr ⟨rfl, rfl⟩) rfl rfl ?_
  refine j_run 32 1 rfl ?_
  refine j_new 33 6 rfl rfl (by decide) (tw_of (i := 118) (by decide +kernel) rfl) (tw_of (i := 119) (by decide +kernel) rfl) (tw_of (i := 5) (by decide +kernel) rfl) rfl ⟨(Nat.le_of_ble_eq_true rfl), (Nat.le_of_ble_eq_true rfl)⟩ (Nat.le_of_ble_eq_true rfl) (fun a11 => ?_)
  refine j_run 34 2 rfl ?_
  refine J.okA (fun hA12 => ?_)
  refine j_ci 36 0 1 rfl rfl mwiX6_init (iX6_init_49 hA12.1 _) rfl rfl ⟨⟨(Nat.le_of_ble_eq_true rfl), (Nat.le_of_ble_eq_true rfl)⟩, (Nat.le_of_ble_eq_true rfl), (Nat.le_of_ble_eq_true rfl)⟩ (Nat.le_of_ble_eq_true rfl) rfl ⟨rfl, (Nat.le_of_ble_eq_true rfl)⟩ (fun n12 s12 hn12 _ => ?_)
  refine j_prf 37 6 rfl rfl rfl rfl rfl (Or.inr ⟨rfl, rfl⟩) rfl rfl ?_
  refine j_run 38 1 rfl ?_
  refine j_new 39 6 rfl rfl (by decide) (tw_of (i := 118) (by decide +kernel) rfl) (tw_of (i := 119) (by decide +kernel) rfl) (tw_of (i := 5) (by decide +kernel) rfl) rfl ⟨(Nat.le_of_ble_eq_true rfl), (Nat.le_of_ble_eq_true rfl)⟩ (Nat.le_of_ble_eq_true rfl) (fun a13 => ?_)
  refine j_run 40 2 rfl ?_
  refine J.okA (fun hA14 => ?_)
  refine j_ci 42 0 1 rfl rfl mwiX6_init (iX6_init_51 hA14.1 _) rfl rfl ⟨⟨(Nat.le_of_ble_eq_true rfl), (Nat.le_of_ble_eq_true rfl)⟩, (Nat.le_of_ble_eq_true rfl), (Nat.le_of_ble_eq_true rfl)⟩ (Nat.le_of_ble_eq_true rfl) rfl ⟨rfl, (Nat.le_of_ble_eq_true rfl)⟩ (fun n14 s14 hn14 _ => ?_)
  refine j_prf 43 7 rfl rfl rfl rfl rfl (Or.inr ⟨rfl, rfl⟩) rfl rfl ?_
  refine j_run 44 1 rfl ?_
  refine j_new 45 6 rfl rfl (by decide) (tw_of (i := 118) (by decide +kernel) rfl) (tw_of (i := 119) (by decide +kernel) rfl) (tw_of (i := 5) (by decide +kernel) rfl) rfl ⟨(Nat.le_of_ble_eq_true rfl), (Nat.le_of_ble_eq_true rfl)⟩ (Nat.le_of_ble_eq_true rfl) (fun a15 => ?_)
  refine j_run 46 2 rfl ?_
  refine J.okA (fun hA16 => ?_)
  refine j_ci 48 0 1 rfl rfl mwiX6_init (iX6_init_53 hA16.1 _) rfl rfl ⟨⟨(Nat.le_of_ble_eq_true rfl), (Nat.le_of_ble_eq_true rfl)⟩, (Nat.le_of_ble_eq_true rfl), (Nat.le_of_ble_eq_true rfl)⟩ (Nat.le_of_ble_eq_true rfl) rfl ⟨rfl, (Nat.le_of_ble_eq_true rfl)⟩ (fun n16 s16 hn16 _ => ?_)
  refine j_prf 49 8 rfl rfl rfl rfl rfl (Or.inr ⟨rfl, rfl⟩) rfl rfl ?_
  refine j_run 50 2 rfl ?_
  refine j_pf 52 9 rfl rfl rfl rfl rfl (Or.inl rfl) ?_
  refine j_run 53 3 rfl ?_
  refine J.okA (fun hA17 => ?_)
  refine j_cv 56 1 2 rfl rfl mwX9_begin rfl rfl rfl (eX9_begin hA17 (by unfold ocW ocF ocL ocR; exact ⟨rfl, rfl, rfl, ⟨rfl, rfl, rfl, rfl, rfl, rfl, rfl⟩, ⟨rfl, rfl, rfl, rfl, rfl, rfl, rfl⟩, ⟨rfl, rfl⟩, ⟨rfl, rfl⟩, ⟨rfl, rfl⟩, ⟨rfl, rfl⟩, ⟨rfl, rfl⟩⟩) 5 4 _) rfl rfl ⟨⟨(Nat.le_of_ble_eq_true rfl), (Nat.le_of_ble_eq_true rfl)⟩, (Nat.le_of_ble_eq_true rfl), (Nat.le_of_ble_eq_true rfl)⟩ (Nat.le_of_ble_eq_true rfl) (fun s17 _ _ => ?_)
  exact j_vretA (new := [a1] ++ ([a2] ++ ([a3] ++ (n4 ++ ([a5] ++ (n6 ++ ([a7] ++ (n8 ++ ([a9] ++ (n10 ++ ([a11] ++ (n12 ++ ([a13] ++ (n14 ++ ([a15] ++ (n16 ++ ([]))))))))))))))))) 57 rfl rfl (by simp only [List.append_assoc, List.append_nil]) (by simp only [List.length_append, List.length_cons, List.length_nil, hn4, hn6, hn8, hn10, hn12, hn14, hn16]) (by decide +kernel)
def fiX3_init_55 (σ : Sg) : Option Sg := some (zr (zr (zr σ 56) 57) 58)
set_option maxRecDepth 20000 in
theorem iX3_init_55 {X : Cx} {ads : List Nat} (hA : ads.length = (sq33).length) (σ : Sg) : CFA X mX3_init ads sq33 [.inr (some 55)] σ 3 sq34 3 432 (fiX3_init_55 σ) := by
  refine CFA.of ⟨pX3_init_ok, tbiX3_ok, hA, Nat.le_of_ble_eq_true rfl⟩ (plainFor_of_name plX3) (Nat.le_of_ble_eq_true rfl) ?_
  show J X mX3_init pX3_init tbiX3 (rmD 1 3 432) 0 0 E0 (FA X ads 3 sq34 3 432) ads sq33 (0, [some (.inr (some 55))], [], σ) (fiX3_init_55 σ)
  unfold fiX3_init_55
  refine j_run 0 1 rfl ?_
  refine j_obj 1 rfl (tw_of (i := 239) (by decide +kernel) rfl) ⟨(Nat.le_of_ble_eq_true rfl), (Nat.le_of_ble_eq_true rfl)⟩ rfl ?_
  refine j_run 2 2 rfl ?_
  refine j_newarr 4 0 336 rfl rfl (by decide) rfl ⟨(Nat.le_of_ble_eq_true rfl), (Nat.le_of_ble_eq_true rfl)⟩ (Nat.le_of_ble_eq_true rfl) (fun a1 => ?_)
  refine j_prf 5 0 rfl rfl rfl rfl rfl (Or.inr ⟨rfl, rfl⟩) rfl rfl ?_
  refine j_run 6 2 rfl ?_
  refine j_newarr 8 0 72 rfl rfl (by decide) rfl ⟨(Nat.le_of_ble_eq_true rfl), (Nat.le_of_ble_eq_true rfl)⟩ (Nat.le_of_ble_eq_true rfl) (fun a2 => ?_)
  refine j_prf 9 1 rfl rfl rfl rfl rfl (Or.inr ⟨rfl, rfl⟩) rfl rfl ?_
  refine j_run 10 2 rfl ?_
  refine j_newarr 12 0 24 rfl rfl (by decide) rfl ⟨(Nat.le_of_ble_eq_true rfl), (Nat.le_of_ble_eq_true rfl)⟩ (Nat.le_of_ble_eq_true rfl) (fun a3 => ?_)
  refine j_prf 13 2 rfl rfl rfl rfl rfl (Or.inr ⟨rfl, rfl⟩) rfl rfl ?_
  exact j_vretA (new := [a1] ++ ([a2] ++ ([a3] ++ ([])))) 14 rfl rfl (by simp only [List.append_assoc, List.append_nil]) (by simp only [List.length_append, List.length_cons, List.length_nil]) (by decide +kernel)
def fiX7_init_59 (σ : Sg) : Option Sg := some (zr (zr (zr (zr σ 60) 61) 62) 63)
set_option maxRecDepth 20000 in
theorem iX7_init_59 {X : Cx} {ads : List Nat} (hA : ads.length = (sq35).length) (σ : Sg) : CFA X mX7_init ads sq35 [.inr (some 59)] σ 4 sq36 4 1603 (fiX7_init_59 σ) := by
  refine CFA.of ⟨pX7_init_ok, tbiX7_ok, hA, Nat.le_of_ble_eq_true rfl⟩ (plainFor_of_name plX7) (Nat.le_of_ble_eq_true rfl) ?_
  show J X mX7_init pX7_init tbiX7 (rmD 1 4 1603) 0 0 E0 (FA X ads 4 sq36 4 1603) ads sq35 (0, [some (.inr (some 59))], [], σ) (fiX7_init_59 σ)
  unfold fiX7_init_59
  refine j_run 0 1 rfl ?_
  refine j_obj 1 rfl (tw_of (i := 262) (by decide +kernel) rfl) ⟨(Nat.le_of_ble_eq_true rfl), (Nat.le_of_ble_eq_true rfl)⟩ rfl ?_
  refine j_run 2 2 rfl ?_
  refine j_newarr 4 1 400 rfl rfl (by decide) rfl ⟨(Nat.le_of_ble_eq_true rfl), (Nat.le_of_ble_eq_true rfl)⟩ (Nat.le_of_ble_eq_true rfl) (fun a1 => ?_)
  refine j_prf 5 0 rfl rfl rfl rfl rfl (Or.inr ⟨rfl, rfl⟩) rfl rfl ?_
  refine j_run 6 2 rfl ?_
  refine j_newarr 8 0 401 rfl rfl (by decide) rfl ⟨(Nat.le_of_ble_eq_true rfl), (Nat.le_of_ble_eq_true rfl)⟩ (Nat.le_of_ble_eq_true rfl) (fun a2 => ?_)
  refine j_prf 9 1 rfl rfl rfl rfl rfl (Or.inr ⟨rfl, rfl⟩) rfl rfl ?_
  refine j_run 10 2 rfl ?_
  refine j_newarr 12 0 401 rfl rfl (by decide) rfl ⟨(Nat.le_of_ble_eq_true rfl), (Nat.le_of_ble_eq_true rfl)⟩ (Nat.le_of_ble_eq_true rfl) (fun a3 => ?_)
  refine j_prf 13 2 rfl rfl rfl rfl rfl (Or.inr ⟨rfl, rfl⟩) rfl rfl ?_
  refine j_run 14 2 rfl ?_
  refine j_newarr 16 0 401 rfl rfl (by decide) rfl ⟨(Nat.le_of_ble_eq_true rfl), (Nat.le_of_ble_eq_true rfl)⟩ (Nat.le_of_ble_eq_true rfl) (fun a4 => ?_)
  refine j_prf 17 3 rfl rfl rfl rfl rfl (Or.inr ⟨rfl, rfl⟩) rfl rfl ?_
  exact j_vretA (new := [a1] ++ ([a2] ++ ([a3] ++ ([a4] ++ ([]))))) 18 rfl rfl (by simp only [List.append_assoc, List.append_nil]) (by simp only [List.length_append, List.length_cons, List.length_nil]) (by decide +kernel)
def fiX4_init_64 (σ : Sg) : Option Sg := some (wr (wr σ 64 0 0) 64 1 (-1))
set_option maxRecDepth 20000 in
theorem iX4_init_64 {X : Cx} {ads : List Nat} (hA : ads.length = (sq37).length) (σ : Sg) : CFA X mX4_init ads sq37 [.inr (some 64), .inr (some 59), .inr (some 1), .inr (some 28)] σ 0 sq38 0 0 (fiX4_init_64 σ) := by
  refine CFA.of ⟨pX4_init_ok, tbiX4_ok, hA, Nat.le_of_ble_eq_true rfl⟩ (plainFor_of_name plX4) (Nat.le_of_ble_eq_true rfl) ?_
  show J X mX4_init pX4_init tbiX4 (rmD 1 0 0) 0 0 E0 (FA X ads 0 sq38 0 0) ads sq37 (0, [some (.inr (some 64)), some (.inr (some 59)), some (.inr (some 1)), some (.inr (some 28))], [], σ) (fiX4_init_64 σ)
  unfold fiX4_init_64
  refine j_run 0 1 rfl ?_
  refine j_obj 1 rfl (tw_of (i := 289) (by decide +kernel) rfl) ⟨(Nat.le_of_ble_eq_true rfl), (Nat.le_of_ble_eq_true rfl)⟩ rfl ?_
  refine j_run 2 2 rfl ?_
  refine j_pf 4 0 rfl rfl rfl rfl rfl (Or.inl rfl) ?_
  refine j_run 5 2 rfl ?_
  refine j_pf 7 1 rfl rfl rfl rfl rfl (Or.inl rfl) ?_
  refine j_run 8 2 rfl ?_
  refine j_prf 10 2 rfl rfl rfl rfl rfl (Or.inr ⟨rfl, rfl⟩) rfl rfl ?_
  refine j_run 11 2 rfl ?_
  refine j_prf 13 3 rfl rfl rfl rfl rfl (Or.inr ⟨rfl, rfl⟩) rfl rfl ?_
  refine j_run 14 2 rfl ?_
  refine j_prf 16 4 rfl rfl rfl rfl rfl (Or.inr ⟨rfl, rfl⟩) rfl rfl ?_
  exact j_vretA (new := []) 17 rfl rfl (by simp only [List.append_assoc, List.append_nil]) (by simp only [List.length_append, List.length_cons, List.length_nil]) (by decide +kernel)
def fiX0_init_65 (σ : Sg) : Option Sg := some (zr (zr (zr (zr (zr (zr (zr (zr σ 66) 67) 68) 69) 70) 71) 72) 73)
set_option maxRecDepth 20000 in
theorem iX0_init_65 {X : Cx} {ads : List Nat} (hA : ads.length = (sq39).length) (σ : Sg) : CFA X mX0_init ads sq39 [.inr (some 65)] σ 8 sq40 8 4312 (fiX0_init_65 σ) := by
  refine CFA.of ⟨pX0_init_ok, tbiX0_ok, hA, Nat.le_of_ble_eq_true rfl⟩ (plainFor_of_name plX0) (Nat.le_of_ble_eq_true rfl) ?_
  show J X mX0_init pX0_init tbiX0 (rmD 1 8 4312) 0 0 E0 (FA X ads 8 sq40 8 4312) ads sq39 (0, [some (.inr (some 65))], [], σ) (fiX0_init_65 σ)
  unfold fiX0_init_65
  refine j_run 0 1 rfl ?_
  refine j_obj 1 rfl (tw_of (i := 322) (by decide +kernel) rfl) ⟨(Nat.le_of_ble_eq_true rfl), (Nat.le_of_ble_eq_true rfl)⟩ rfl ?_
  refine j_run 2 2 rfl ?_
  refine j_newarr 4 0 12 rfl rfl (by decide) rfl ⟨(Nat.le_of_ble_eq_true rfl), (Nat.le_of_ble_eq_true rfl)⟩ (Nat.le_of_ble_eq_true rfl) (fun a1 => ?_)
  refine j_prf 5 0 rfl rfl rfl rfl rfl (Or.inr ⟨rfl, rfl⟩) rfl rfl ?_
  refine j_run 6 2 rfl ?_
  refine j_newarr 8 0 12 rfl rfl (by decide) rfl ⟨(Nat.le_of_ble_eq_true rfl), (Nat.le_of_ble_eq_true rfl)⟩ (Nat.le_of_ble_eq_true rfl) (fun a2 => ?_)
  refine j_prf 9 1 rfl rfl rfl rfl rfl (Or.inr ⟨rfl, rfl⟩) rfl rfl ?_
  refine j_run 10 2 rfl ?_
  refine j_newarr 12 0 144 rfl rfl (by decide) rfl ⟨(Nat.le_of_ble_eq_true rfl), (Nat.le_of_ble_eq_true rfl)⟩ (Nat.le_of_ble_eq_true rfl) (fun a3 => ?_)
  refine j_prf 13 2 rfl rfl rfl rfl rfl (Or.inr ⟨rfl, rfl⟩) rfl rfl ?_
  refine j_run 14 2 rfl ?_
  refine j_newarr 16 0 12 rfl rfl (by decide) rfl ⟨(Nat.le_of_ble_eq_true rfl), (Nat.le_of_ble_eq_true rfl)⟩ (Nat.le_of_ble_eq_true rfl) (fun a4 => ?_)
  refine j_prf 17 3 rfl rfl rfl rfl rfl (Or.inr ⟨rfl, rfl⟩) rfl rfl ?_
  refine j_run 18 2 rfl ?_
  refine j_newarr 20 0 12 rfl rfl (by decide) rfl ⟨(Nat.le_of_ble_eq_true rfl), (Nat.le_of_ble_eq_true rfl)⟩ (Nat.le_of_ble_eq_true rfl) (fun a5 => ?_)
  refine j_prf 21 4 rfl rfl rfl rfl rfl (Or.inr ⟨rfl, rfl⟩) rfl rfl ?_
  refine j_run 22 2 rfl ?_
  refine j_newarr 24 0 4096 rfl rfl (by decide) rfl ⟨(Nat.le_of_ble_eq_true rfl), (Nat.le_of_ble_eq_true rfl)⟩ (Nat.le_of_ble_eq_true rfl) (fun a6 => ?_)
  refine j_prf 25 5 rfl rfl rfl rfl rfl (Or.inr ⟨rfl, rfl⟩) rfl rfl ?_
  refine j_run 26 2 rfl ?_
  refine j_newarr 28 0 14 rfl rfl (by decide) rfl ⟨(Nat.le_of_ble_eq_true rfl), (Nat.le_of_ble_eq_true rfl)⟩ (Nat.le_of_ble_eq_true rfl) (fun a7 => ?_)
  refine j_prf 29 6 rfl rfl rfl rfl rfl (Or.inr ⟨rfl, rfl⟩) rfl rfl ?_
  refine j_run 30 2 rfl ?_
  refine j_newarr 32 0 10 rfl rfl (by decide) rfl ⟨(Nat.le_of_ble_eq_true rfl), (Nat.le_of_ble_eq_true rfl)⟩ (Nat.le_of_ble_eq_true rfl) (fun a8 => ?_)
  refine j_prf 33 7 rfl rfl rfl rfl rfl (Or.inr ⟨rfl, rfl⟩) rfl rfl ?_
  exact j_vretA (new := [a1] ++ ([a2] ++ ([a3] ++ ([a4] ++ ([a5] ++ ([a6] ++ ([a7] ++ ([a8] ++ ([]))))))))) 34 rfl rfl (by simp only [List.append_assoc, List.append_nil]) (by simp only [List.length_append, List.length_cons, List.length_nil]) (by decide +kernel)
def fiX8_init_74 (σ : Sg) : Option Sg := some (zr (zr (zr (zr (zr σ 75) 76) 77) 78) 79)
set_option maxRecDepth 20000 in
theorem iX8_init_74 {X : Cx} {ads : List Nat} (hA : ads.length = (sq41).length) (σ : Sg) : CFA X mX8_init ads sq41 [.inr (some 74)] σ 5 sq42 5 560 (fiX8_init_74 σ) := by
  refine CFA.of ⟨pX8_init_ok, tbiX8_ok, hA, Nat.le_of_ble_eq_true rfl⟩ (plainFor_of_name plX8) (Nat.le_of_ble_eq_true rfl) ?_
  show J X mX8_init pX8_init tbiX8 (rmD 1 5 560) 0 0 E0 (FA X ads 5 sq42 5 560) ads sq41 (0, [some (.inr (some 74))], [], σ) (fiX8_init_74 σ)
  unfold fiX8_init_74
  refine j_run 0 1 rfl ?_
  refine j_obj 1 rfl (tw_of (i := 360) (by decide +kernel) rfl) ⟨(Nat.le_of_ble_eq_true rfl), (Nat.le_of_ble_eq_true rfl)⟩ rfl ?_
  refine j_run 2 2 rfl ?_
  refine j_newarr 4 0 112 rfl rfl (by decide) rfl ⟨(Nat.le_of_ble_eq_true rfl), (Nat.le_of_ble_eq_true rfl)⟩ (Nat.le_of_ble_eq_true rfl) (fun a1 => ?_)
  refine j_prf 5 0 rfl rfl rfl rfl rfl (Or.inr ⟨rfl, rfl⟩) rfl rfl ?_
  refine j_run 6 2 rfl ?_
  refine j_newarr 8 0 56 rfl rfl (by decide) rfl ⟨(Nat.le_of_ble_eq_true rfl), (Nat.le_of_ble_eq_true rfl)⟩ (Nat.le_of_ble_eq_true rfl) (fun a2 => ?_)
  refine j_prf 9 1 rfl rfl rfl rfl rfl (Or.inr ⟨rfl, rfl⟩) rfl rfl ?_
  refine j_run 10 2 rfl ?_
  refine j_newarr 12 0 112 rfl rfl (by decide) rfl ⟨(Nat.le_of_ble_eq_true rfl), (Nat.le_of_ble_eq_true rfl)⟩ (Nat.le_of_ble_eq_true rfl) (fun a3 => ?_)
  refine j_prf 13 2 rfl rfl rfl rfl rfl (Or.inr ⟨rfl, rfl⟩) rfl rfl ?_
  refine j_run 14 2 rfl ?_
  refine j_newarr 16 2 56 rfl rfl (by decide) rfl ⟨(Nat.le_of_ble_eq_true rfl), (Nat.le_of_ble_eq_true rfl)⟩ (Nat.le_of_ble_eq_true rfl) (fun a4 => ?_)
  refine j_prf 17 3 rfl rfl rfl rfl rfl (Or.inr ⟨rfl, rfl⟩) rfl rfl ?_
  refine j_run 18 2 rfl ?_
  refine j_newarr 20 2 224 rfl rfl (by decide) rfl ⟨(Nat.le_of_ble_eq_true rfl), (Nat.le_of_ble_eq_true rfl)⟩ (Nat.le_of_ble_eq_true rfl) (fun a5 => ?_)
  refine j_prf 21 4 rfl rfl rfl rfl rfl (Or.inr ⟨rfl, rfl⟩) rfl rfl ?_
  exact j_vretA (new := [a1] ++ ([a2] ++ ([a3] ++ ([a4] ++ ([a5] ++ ([])))))) 22 rfl rfl (by simp only [List.append_assoc, List.append_nil]) (by simp only [List.length_append, List.length_cons, List.length_nil]) (by decide +kernel)
def fiX5_init_80 (σ : Sg) : Option Sg := some (zr (zr (zr σ 81) 82) 83)
set_option maxRecDepth 20000 in
theorem iX5_init_80 {X : Cx} {ads : List Nat} (hA : ads.length = (sq43).length) (σ : Sg) : CFA X mX5_init ads sq43 [.inr (some 80)] σ 3 sq44 3 48 (fiX5_init_80 σ) := by
  refine CFA.of ⟨pX5_init_ok, tbiX5_ok, hA, Nat.le_of_ble_eq_true rfl⟩ (plainFor_of_name plX5) (Nat.le_of_ble_eq_true rfl) ?_
  show J X mX5_init pX5_init tbiX5 (rmD 1 3 48) 0 0 E0 (FA X ads 3 sq44 3 48) ads sq43 (0, [some (.inr (some 80))], [], σ) (fiX5_init_80 σ)
  unfold fiX5_init_80
  refine j_run 0 1 rfl ?_
  refine j_obj 1 rfl (tw_of (i := 386) (by decide +kernel) rfl) ⟨(Nat.le_of_ble_eq_true rfl), (Nat.le_of_ble_eq_true rfl)⟩ rfl ?_
  refine j_run 2 2 rfl ?_
  refine j_newarr 4 0 16 rfl rfl (by decide) rfl ⟨(Nat.le_of_ble_eq_true rfl), (Nat.le_of_ble_eq_true rfl)⟩ (Nat.le_of_ble_eq_true rfl) (fun a1 => ?_)
  refine j_prf 5 0 rfl rfl rfl rfl rfl (Or.inr ⟨rfl, rfl⟩) rfl rfl ?_
  refine j_run 6 2 rfl ?_
  refine j_newarr 8 0 16 rfl rfl (by decide) rfl ⟨(Nat.le_of_ble_eq_true rfl), (Nat.le_of_ble_eq_true rfl)⟩ (Nat.le_of_ble_eq_true rfl) (fun a2 => ?_)
  refine j_prf 9 1 rfl rfl rfl rfl rfl (Or.inr ⟨rfl, rfl⟩) rfl rfl ?_
  refine j_run 10 2 rfl ?_
  refine j_newarr 12 0 16 rfl rfl (by decide) rfl ⟨(Nat.le_of_ble_eq_true rfl), (Nat.le_of_ble_eq_true rfl)⟩ (Nat.le_of_ble_eq_true rfl) (fun a3 => ?_)
  refine j_prf 13 2 rfl rfl rfl rfl rfl (Or.inr ⟨rfl, rfl⟩) rfl rfl ?_
  exact j_vretA (new := [a1] ++ ([a2] ++ ([a3] ++ ([])))) 14 rfl rfl (by simp only [List.append_assoc, List.append_nil]) (by simp only [List.length_append, List.length_cons, List.length_nil]) (by decide +kernel)
def fiX10_init_0 (σ : Sg) : Option Sg := (fiX9_init_1 (zr σ 1)).bind fun s2 => (fiX9_init_28 (zr s2 28)).bind fun s4 => (fiX3_init_55 (zr s4 55)).bind fun s6 => (fiX7_init_59 (zr s6 59)).bind fun s8 => (fiX4_init_64 (zr s8 64)).bind fun s10 => (fiX0_init_65 (zr s10 65)).bind fun s12 => (fiX8_init_74 (zr s12 74)).bind fun s14 => (fiX5_init_80 (zr s14 80)).bind fun s16 => some s16
set_option maxRecDepth 20000 in
theorem iX10_init_0 {X : Cx} {ads : List Nat} (hA : ads.length = (sq0).length) (σ : Sg) : CFA X mX10_init ads sq0 [.inr (some 0)] σ 83 sq45 83 9486 (fiX10_init_0 σ) := by
  refine CFA.of ⟨pX10_init_ok, tbiX10_ok, hA, Nat.le_of_ble_eq_true rfl⟩ (plainFor_of_name plX10) (Nat.le_of_ble_eq_true rfl) ?_
  show J X mX10_init pX10_init tbiX10 (rmD 3 83 9486) 0 0 E0 (FA X ads 83 sq45 83 9486) ads sq0 (0, [some (.inr (some 0))], [], σ) (fiX10_init_0 σ)
  unfold fiX10_init_0
  refine j_run 0 1 rfl ?_
  refine j_obj 1 rfl (tw_of (i := 26) (by decide +kernel) rfl) ⟨(Nat.le_of_ble_eq_true rfl), (Nat.le_of_ble_eq_true rfl)⟩ rfl ?_
  refine j_run 2 1 rfl ?_
  refine j_new 3 9 rfl rfl (by decide) (tw_of (i := 29) (by decide +kernel) rfl) (tw_of (i := 30) (by decide +kernel) rfl) (tw_of (i := 2) (by decide +kernel) rfl) rfl ⟨(Nat.le_of_ble_eq_true rfl), (Nat.le_of_ble_eq_true rfl)⟩ (Nat.le_of_ble_eq_true rfl) (fun a1 => ?_)
  refine j_run 4 2 rfl ?_
  refine J.okA (fun hA2 => ?_)
  refine j_ci 6 0 1 rfl rfl mwiX9_init (iX9_init_1 hA2.1 _) rfl rfl ⟨⟨(Nat.le_of_ble_eq_true rfl), (Nat.le_of_ble_eq_true rfl)⟩, (Nat.le_of_ble_eq_true rfl), (Nat.le_of_ble_eq_true rfl)⟩ (Nat.le_of_ble_eq_true rfl) rfl ⟨rfl, (Nat.le_of_ble_eq_true rfl)⟩ (fun n2 s2 hn2 _ => ?_)
  refine j_prf 7 0 rfl rfl rfl rfl rfl (Or.inr ⟨rfl, rfl⟩) rfl rfl ?_
  refine j_run 8 1 rfl ?_
  refine j_new 9 9 rfl rfl (by decide) (tw_of (i := 29) (by decide +kernel) rfl) (tw_of (i := 30) (by decide +kernel) rfl) (tw_of (i := 2) (by decide +kernel) rfl) rfl ⟨(Nat.le_of_ble_eq_true rfl), (Nat.le_of_ble_eq_true rfl)⟩ (Nat.le_of_ble_eq_true rfl) (fun a3 => ?_)
  refine j_run 10 2 rfl ?_
  refine J.okA (fun hA4 => ?_)
  refine j_ci 12 0 1 rfl rfl mwiX9_init (iX9_init_28 hA4.1 _) rfl rfl ⟨⟨(Nat.le_of_ble_eq_true rfl), (Nat.le_of_ble_eq_true rfl)⟩, (Nat.le_of_ble_eq_true rfl), (Nat.le_of_ble_eq_true rfl)⟩ (Nat.le_of_ble_eq_true rfl) rfl ⟨rfl, (Nat.le_of_ble_eq_true rfl)⟩ (fun n4 s4 hn4 _ => ?_)
  refine j_prf 13 1 rfl rfl rfl rfl rfl (Or.inr ⟨rfl, rfl⟩) rfl rfl ?_
  refine j_run 14 2 rfl ?_
  refine j_prf 16 2 rfl rfl rfl rfl rfl (Or.inr ⟨rfl, rfl⟩) rfl rfl ?_
  refine j_run 17 1 rfl ?_
  refine j_new 18 3 rfl rfl (by decide) (tw_of (i := 234) (by decide +kernel) rfl) (tw_of (i := 235) (by decide +kernel) rfl) (tw_of (i := 7) (by decide +kernel) rfl) rfl ⟨(Nat.le_of_ble_eq_true rfl), (Nat.le_of_ble_eq_true rfl)⟩ (Nat.le_of_ble_eq_true rfl) (fun a5 => ?_)
  refine j_run 19 1 rfl ?_
  refine J.okA (fun hA6 => ?_)
  refine j_ciN 20 0 0 rfl rfl mwiX3_init (iX3_init_55 hA6.1 _) rfl rfl ⟨⟨(Nat.le_of_ble_eq_true rfl), (Nat.le_of_ble_eq_true rfl)⟩, (Nat.le_of_ble_eq_true rfl), (Nat.le_of_ble_eq_true rfl)⟩ (Nat.le_of_ble_eq_true rfl) rfl ⟨rfl, (Nat.le_of_ble_eq_true rfl)⟩ (fun n6 s6 hn6 _ => ?_)
  refine j_prf 21 3 rfl rfl rfl rfl rfl (Or.inr ⟨rfl, rfl⟩) rfl rfl ?_
  refine j_run 22 1 rfl ?_
  refine j_new 23 7 rfl rfl (by decide) (tw_of (i := 257) (by decide +kernel) rfl) (tw_of (i := 258) (by decide +kernel) rfl) (tw_of (i := 8) (by decide +kernel) rfl) rfl ⟨(Nat.le_of_ble_eq_true rfl), (Nat.le_of_ble_eq_true rfl)⟩ (Nat.le_of_ble_eq_true rfl) (fun a7 => ?_)
  refine j_run 24 1 rfl ?_
  refine J.okA (fun hA8 => ?_)
  refine j_ciN 25 1 0 rfl rfl mwiX7_init (iX7_init_59 hA8.1 _) rfl rfl ⟨⟨(Nat.le_of_ble_eq_true rfl), (Nat.le_of_ble_eq_true rfl)⟩, (Nat.le_of_ble_eq_true rfl), (Nat.le_of_ble_eq_true rfl)⟩ (Nat.le_of_ble_eq_true rfl) rfl ⟨rfl, (Nat.le_of_ble_eq_true rfl)⟩ (fun n8 s8 hn8 _ => ?_)
  refine j_prf 26 4 rfl rfl rfl rfl rfl (Or.inr ⟨rfl, rfl⟩) rfl rfl ?_
  refine j_run 27 1 rfl ?_
  refine j_new 28 4 rfl rfl (by decide) (tw_of (i := 284) (by decide +kernel) rfl) (tw_of (i := 285) (by decide +kernel) rfl) (tw_of (i := 9) (by decide +kernel) rfl) rfl ⟨(Nat.le_of_ble_eq_true rfl), (Nat.le_of_ble_eq_true rfl)⟩ (Nat.le_of_ble_eq_true rfl) (fun a9 => ?_)
  refine j_run 29 2 rfl ?_
  refine j_gr 31 4 rfl rfl rfl rfl ?_
  refine j_run 32 1 rfl ?_
  refine j_gr 33 0 rfl rfl rfl rfl ?_
  refine j_run 34 1 rfl ?_
  refine j_gr 35 1 rfl rfl rfl rfl ?_
  refine J.okA (fun hA10 => ?_)
  refine j_ci 36 1 3 rfl rfl mwiX4_init (iX4_init_64 hA10.1 _) rfl rfl ⟨⟨(Nat.le_of_ble_eq_true rfl), (Nat.le_of_ble_eq_true rfl)⟩, (Nat.le_of_ble_eq_true rfl), (Nat.le_of_ble_eq_true rfl)⟩ (Nat.le_of_ble_eq_true rfl) rfl ⟨rfl, (Nat.le_of_ble_eq_true rfl)⟩ (fun n10 s10 hn10 _ => ?_)
  refine j_prf 37 5 rfl rfl rfl rfl rfl (Or.inr ⟨rfl, rfl⟩) rfl rfl ?_
  refine j_run 38 1 rfl ?_
  refine j_new 39 0 rfl rfl (by decide) (tw_of (i := 317) (by decide +kernel) rfl) (tw_of (i := 318) (by decide +kernel) rfl) (tw_of (i := 10) (by decide +kernel) rfl) rfl ⟨(Nat.le_of_ble_eq_true rfl), (Nat.le_of_ble_eq_true rfl)⟩ (Nat.le_of_ble_eq_true rfl) (fun a11 => ?_)
  refine j_run 40 1 rfl ?_
  refine J.okA (fun hA12 => ?_)
  refine j_ciN 41 2 0 rfl rfl mwiX0_init (iX0_init_65 hA12.1 _) rfl rfl ⟨⟨(Nat.le_of_ble_eq_true rfl), (Nat.le_of_ble_eq_true rfl)⟩, (Nat.le_of_ble_eq_true rfl), (Nat.le_of_ble_eq_true rfl)⟩ (Nat.le_of_ble_eq_true rfl) rfl ⟨rfl, (Nat.le_of_ble_eq_true rfl)⟩ (fun n12 s12 hn12 _ => ?_)
  refine j_prf 42 6 rfl rfl rfl rfl rfl (Or.inr ⟨rfl, rfl⟩) rfl rfl ?_
  refine j_run 43 1 rfl ?_
  refine j_new 44 8 rfl rfl (by decide) (tw_of (i := 355) (by decide +kernel) rfl) (tw_of (i := 356) (by decide +kernel) rfl) (tw_of (i := 11) (by decide +kernel) rfl) rfl ⟨(Nat.le_of_ble_eq_true rfl), (Nat.le_of_ble_eq_true rfl)⟩ (Nat.le_of_ble_eq_true rfl) (fun a13 => ?_)
  refine j_run 45 1 rfl ?_
  refine J.okA (fun hA14 => ?_)
  refine j_ciN 46 3 0 rfl rfl mwiX8_init (iX8_init_74 hA14.1 _) rfl rfl ⟨⟨(Nat.le_of_ble_eq_true rfl), (Nat.le_of_ble_eq_true rfl)⟩, (Nat.le_of_ble_eq_true rfl), (Nat.le_of_ble_eq_true rfl)⟩ (Nat.le_of_ble_eq_true rfl) rfl ⟨rfl, (Nat.le_of_ble_eq_true rfl)⟩ (fun n14 s14 hn14 _ => ?_)
  refine j_prf 47 7 rfl rfl rfl rfl rfl (Or.inr ⟨rfl, rfl⟩) rfl rfl ?_
  refine j_run 48 1 rfl ?_
  refine j_new 49 5 rfl rfl (by decide) (tw_of (i := 381) (by decide +kernel) rfl) (tw_of (i := 382) (by decide +kernel) rfl) (tw_of (i := 12) (by decide +kernel) rfl) rfl ⟨(Nat.le_of_ble_eq_true rfl), (Nat.le_of_ble_eq_true rfl)⟩ (Nat.le_of_ble_eq_true rfl) (fun a15 => ?_)
  refine j_run 50 1 rfl ?_
  refine J.okA (fun hA16 => ?_)
  refine j_ciN 51 4 0 rfl rfl mwiX5_init (iX5_init_80 hA16.1 _) rfl rfl ⟨⟨(Nat.le_of_ble_eq_true rfl), (Nat.le_of_ble_eq_true rfl)⟩, (Nat.le_of_ble_eq_true rfl), (Nat.le_of_ble_eq_true rfl)⟩ (Nat.le_of_ble_eq_true rfl) rfl ⟨rfl, (Nat.le_of_ble_eq_true rfl)⟩ (fun n16 s16 hn16 _ => ?_)
  refine j_prf 52 8 rfl rfl rfl rfl rfl (Or.inr ⟨rfl, rfl⟩) rfl rfl ?_
  exact j_vretA (new := [a1] ++ (n2 ++ ([a3] ++ (n4 ++ ([a5] ++ (n6 ++ ([a7] ++ (n8 ++ ([a9] ++ (n10 ++ ([a11] ++ (n12 ++ ([a13] ++ (n14 ++ ([a15] ++ (n16 ++ ([]))))))))))))))))) 53 rfl rfl (by simp only [List.append_assoc, List.append_nil]) (by simp only [List.length_append, List.length_cons, List.length_nil, hn2, hn4, hn6, hn8, hn10, hn12, hn14, hn16]) (by decide +kernel)
def fiX11_init_84 (σ : Sg) : Option Sg := (fX11_begins 5 4 (zr (zr (zr (zr (zr (zr (zr (zr (zr (zr (zr (wr (zr (zr (zr (zr (zr (zr (zr (zr (zr (zr σ 85) 86) 87) 88) 89) 90) 91) 92) 93) 94) 84 25 (-1)) 95) 96) 97) 98) 99) 100) 101) 102) 103) 104) 105)).bind fun s22 => some s22
set_option maxRecDepth 20000 in
theorem iX11_init_84 {X : Cx} {ads : List Nat} (hA : ads.length = (sq46).length) (σ : Sg) : CFA X mX11_init ads sq46 [.inr (some 84)] σ 21 sq47 21 60013 (fiX11_init_84 σ) := by
  refine CFA.of ⟨pX11_init_ok, tbiX11_ok, hA, Nat.le_of_ble_eq_true rfl⟩ (plainFor_of_name plX11) (Nat.le_of_ble_eq_true rfl) ?_
  show J X mX11_init pX11_init tbiX11 (rmD 4 21 60013) 0 0 E0 (FA X ads 21 sq47 21 60013) ads sq46 (0, [some (.inr (some 84))], [], σ) (fiX11_init_84 σ)
  unfold fiX11_init_84
  refine j_run 0 1 rfl ?_
  refine j_obj 1 rfl (tw_of (i := 1185) (by decide +kernel) rfl) ⟨(Nat.le_of_ble_eq_true rfl), (Nat.le_of_ble_eq_true rfl)⟩ rfl ?_
  refine j_run 2 2 rfl ?_
  refine j_newarr 4 0 1796 rfl rfl (by decide) rfl ⟨(Nat.le_of_ble_eq_true rfl), (Nat.le_of_ble_eq_true rfl)⟩ (Nat.le_of_ble_eq_true rfl) (fun a1 => ?_)
  refine j_prf 5 0 rfl rfl rfl rfl rfl (Or.inr ⟨rfl, rfl⟩) rfl rfl ?_
  refine j_run 6 2 rfl ?_
  refine j_newarr 8 0 1796 rfl rfl (by decide) rfl ⟨(Nat.le_of_ble_eq_true rfl), (Nat.le_of_ble_eq_true rfl)⟩ (Nat.le_of_ble_eq_true rfl) (fun a2 => ?_)
  refine j_prf 9 1 rfl rfl rfl rfl rfl (Or.inr ⟨rfl, rfl⟩) rfl rfl ?_
  refine j_run 10 2 rfl ?_
  refine j_newarr 12 0 480 rfl rfl (by decide) rfl ⟨(Nat.le_of_ble_eq_true rfl), (Nat.le_of_ble_eq_true rfl)⟩ (Nat.le_of_ble_eq_true rfl) (fun a3 => ?_)
  refine j_prf 13 2 rfl rfl rfl rfl rfl (Or.inr ⟨rfl, rfl⟩) rfl rfl ?_
  refine j_run 14 2 rfl ?_
  refine j_newarr 16 0 80 rfl rfl (by decide) rfl ⟨(Nat.le_of_ble_eq_true rfl), (Nat.le_of_ble_eq_true rfl)⟩ (Nat.le_of_ble_eq_true rfl) (fun a4 => ?_)
  refine j_prf 17 3 rfl rfl rfl rfl rfl (Or.inr ⟨rfl, rfl⟩) rfl rfl ?_
  refine j_run 18 2 rfl ?_
  refine j_newarr 20 0 64 rfl rfl (by decide) rfl ⟨(Nat.le_of_ble_eq_true rfl), (Nat.le_of_ble_eq_true rfl)⟩ (Nat.le_of_ble_eq_true rfl) (fun a5 => ?_)
  refine j_prf 21 4 rfl rfl rfl rfl rfl (Or.inr ⟨rfl, rfl⟩) rfl rfl ?_
  refine j_run 22 2 rfl ?_
  refine j_newarr 24 0 820 rfl rfl (by decide) rfl ⟨(Nat.le_of_ble_eq_true rfl), (Nat.le_of_ble_eq_true rfl)⟩ (Nat.le_of_ble_eq_true rfl) (fun a6 => ?_)
  refine j_prf 25 5 rfl rfl rfl rfl rfl (Or.inr ⟨rfl, rfl⟩) rfl rfl ?_
  refine j_run 26 2 rfl ?_
  refine j_newarr 28 0 64 rfl rfl (by decide) rfl ⟨(Nat.le_of_ble_eq_true rfl), (Nat.le_of_ble_eq_true rfl)⟩ (Nat.le_of_ble_eq_true rfl) (fun a7 => ?_)
  refine j_prf 29 6 rfl rfl rfl rfl rfl (Or.inr ⟨rfl, rfl⟩) rfl rfl ?_
  refine j_run 30 2 rfl ?_
  refine j_newarr 32 0 400 rfl rfl (by decide) rfl ⟨(Nat.le_of_ble_eq_true rfl), (Nat.le_of_ble_eq_true rfl)⟩ (Nat.le_of_ble_eq_true rfl) (fun a8 => ?_)
  refine j_prf 33 7 rfl rfl rfl rfl rfl (Or.inr ⟨rfl, rfl⟩) rfl rfl ?_
  refine j_run 34 2 rfl ?_
  refine j_newarr 36 0 420 rfl rfl (by decide) rfl ⟨(Nat.le_of_ble_eq_true rfl), (Nat.le_of_ble_eq_true rfl)⟩ (Nat.le_of_ble_eq_true rfl) (fun a9 => ?_)
  refine j_prf 37 8 rfl rfl rfl rfl rfl (Or.inr ⟨rfl, rfl⟩) rfl rfl ?_
  refine j_run 38 2 rfl ?_
  refine j_newarr 40 0 11 rfl rfl (by decide) rfl ⟨(Nat.le_of_ble_eq_true rfl), (Nat.le_of_ble_eq_true rfl)⟩ (Nat.le_of_ble_eq_true rfl) (fun a10 => ?_)
  refine j_prf 41 9 rfl rfl rfl rfl rfl (Or.inr ⟨rfl, rfl⟩) rfl rfl ?_
  refine j_run 42 2 rfl ?_
  refine j_pf 44 10 rfl rfl rfl rfl rfl (Or.inl rfl) ?_
  refine j_run 45 2 rfl ?_
  refine j_newarr 47 0 64 rfl rfl (by decide) rfl ⟨(Nat.le_of_ble_eq_true rfl), (Nat.le_of_ble_eq_true rfl)⟩ (Nat.le_of_ble_eq_true rfl) (fun a11 => ?_)
  refine j_prf 48 11 rfl rfl rfl rfl rfl (Or.inr ⟨rfl, rfl⟩) rfl rfl ?_
  refine j_run 49 2 rfl ?_
  refine j_newarr 51 0 12 rfl rfl (by decide) rfl ⟨(Nat.le_of_ble_eq_true rfl), (Nat.le_of_ble_eq_true rfl)⟩ (Nat.le_of_ble_eq_true rfl) (fun a12 => ?_)
  refine j_prf 52 12 rfl rfl rfl rfl rfl (Or.inr ⟨rfl, rfl⟩) rfl rfl ?_
  refine j_run 53 2 rfl ?_
  refine j_newarr 55 0 12 rfl rfl (by decide) rfl ⟨(Nat.le_of_ble_eq_true rfl), (Nat.le_of_ble_eq_true rfl)⟩ (Nat.le_of_ble_eq_true rfl) (fun a13 => ?_)
  refine j_prf 56 13 rfl rfl rfl rfl rfl (Or.inr ⟨rfl, rfl⟩) rfl rfl ?_
  refine j_run 57 2 rfl ?_
  refine j_newarr 59 0 53248 rfl rfl (by decide) rfl ⟨(Nat.le_of_ble_eq_true rfl), (Nat.le_of_ble_eq_true rfl)⟩ (Nat.le_of_ble_eq_true rfl) (fun a14 => ?_)
  refine j_prf 60 14 rfl rfl rfl rfl rfl (Or.inr ⟨rfl, rfl⟩) rfl rfl ?_
  refine j_run 61 2 rfl ?_
  refine j_newarr 63 0 144 rfl rfl (by decide) rfl ⟨(Nat.le_of_ble_eq_true rfl), (Nat.le_of_ble_eq_true rfl)⟩ (Nat.le_of_ble_eq_true rfl) (fun a15 => ?_)
  refine j_prf 64 15 rfl rfl rfl rfl rfl (Or.inr ⟨rfl, rfl⟩) rfl rfl ?_
  refine j_run 65 2 rfl ?_
  refine j_newarr 67 0 10 rfl rfl (by decide) rfl ⟨(Nat.le_of_ble_eq_true rfl), (Nat.le_of_ble_eq_true rfl)⟩ (Nat.le_of_ble_eq_true rfl) (fun a16 => ?_)
  refine j_prf 68 16 rfl rfl rfl rfl rfl (Or.inr ⟨rfl, rfl⟩) rfl rfl ?_
  refine j_run 69 2 rfl ?_
  refine j_newarr 71 0 128 rfl rfl (by decide) rfl ⟨(Nat.le_of_ble_eq_true rfl), (Nat.le_of_ble_eq_true rfl)⟩ (Nat.le_of_ble_eq_true rfl) (fun a17 => ?_)
  refine j_prf 72 17 rfl rfl rfl rfl rfl (Or.inr ⟨rfl, rfl⟩) rfl rfl ?_
  refine j_run 73 2 rfl ?_
  refine j_newarr 75 0 128 rfl rfl (by decide) rfl ⟨(Nat.le_of_ble_eq_true rfl), (Nat.le_of_ble_eq_true rfl)⟩ (Nat.le_of_ble_eq_true rfl) (fun a18 => ?_)
  refine j_prf 76 18 rfl rfl rfl rfl rfl (Or.inr ⟨rfl, rfl⟩) rfl rfl ?_
  refine j_run 77 2 rfl ?_
  refine j_newarr 79 0 64 rfl rfl (by decide) rfl ⟨(Nat.le_of_ble_eq_true rfl), (Nat.le_of_ble_eq_true rfl)⟩ (Nat.le_of_ble_eq_true rfl) (fun a19 => ?_)
  refine j_prf 80 19 rfl rfl rfl rfl rfl (Or.inr ⟨rfl, rfl⟩) rfl rfl ?_
  refine j_run 81 2 rfl ?_
  refine j_newarr 83 0 256 rfl rfl (by decide) rfl ⟨(Nat.le_of_ble_eq_true rfl), (Nat.le_of_ble_eq_true rfl)⟩ (Nat.le_of_ble_eq_true rfl) (fun a20 => ?_)
  refine j_prf 84 20 rfl rfl rfl rfl rfl (Or.inr ⟨rfl, rfl⟩) rfl rfl ?_
  refine j_run 85 2 rfl ?_
  refine j_newarr 87 0 16 rfl rfl (by decide) rfl ⟨(Nat.le_of_ble_eq_true rfl), (Nat.le_of_ble_eq_true rfl)⟩ (Nat.le_of_ble_eq_true rfl) (fun a21 => ?_)
  refine j_prf 88 21 rfl rfl rfl rfl rfl (Or.inr ⟨rfl, rfl⟩) rfl rfl ?_
  refine j_run 89 3 rfl ?_
  refine J.okA (fun hA22 => ?_)
  refine j_cv 92 0 2 rfl rfl mwX11_begins rfl rfl rfl (eX11_begins hA22 (by unfold ocM; exact ⟨rfl, rfl, rfl, rfl, rfl, rfl, rfl, rfl, rfl, rfl, rfl, rfl, rfl, rfl, rfl, rfl, rfl, rfl, rfl, rfl, rfl, rfl⟩) 5 4 _) rfl rfl ⟨⟨(Nat.le_of_ble_eq_true rfl), (Nat.le_of_ble_eq_true rfl)⟩, (Nat.le_of_ble_eq_true rfl), (Nat.le_of_ble_eq_true rfl)⟩ (Nat.le_of_ble_eq_true rfl) (fun s22 _ _ => ?_)
  exact j_vretA (new := [a1] ++ ([a2] ++ ([a3] ++ ([a4] ++ ([a5] ++ ([a6] ++ ([a7] ++ ([a8] ++ ([a9] ++ ([a10] ++ ([a11] ++ ([a12] ++ ([a13] ++ ([a14] ++ ([a15] ++ ([a16] ++ ([a17] ++ ([a18] ++ ([a19] ++ ([a20] ++ ([a21] ++ ([])))))))))))))))))))))) 93 rfl rfl (by simp only [List.append_assoc, List.append_nil]) (by simp only [List.length_append, List.length_cons, List.length_nil]) (by decide +kernel)
def fiX1_init_109 (σ : Sg) : Option Sg := some (zr (zr (zr (zr (zr (zr σ 110) 111) 112) 113) 114) 115)
set_option maxRecDepth 20000 in
theorem iX1_init_109 {X : Cx} {ads : List Nat} (hA : ads.length = (sq49).length) (σ : Sg) : CFA X mX1_init ads sq49 [.inr (some 109)] σ 6 sq50 6 72 (fiX1_init_109 σ) := by
  refine CFA.of ⟨pX1_init_ok, tbiX1_ok, hA, Nat.le_of_ble_eq_true rfl⟩ (plainFor_of_name plX1) (Nat.le_of_ble_eq_true rfl) ?_
  show J X mX1_init pX1_init tbiX1 (rmD 1 6 72) 0 0 E0 (FA X ads 6 sq50 6 72) ads sq49 (0, [some (.inr (some 109))], [], σ) (fiX1_init_109 σ)
  unfold fiX1_init_109
  refine j_run 0 1 rfl ?_
  refine j_obj 1 rfl (tw_of (i := 40) (by decide +kernel) rfl) ⟨(Nat.le_of_ble_eq_true rfl), (Nat.le_of_ble_eq_true rfl)⟩ rfl ?_
  refine j_run 2 2 rfl ?_
  refine j_newarr 4 0 12 rfl rfl (by decide) rfl ⟨(Nat.le_of_ble_eq_true rfl), (Nat.le_of_ble_eq_true rfl)⟩ (Nat.le_of_ble_eq_true rfl) (fun a1 => ?_)
  refine j_prf 5 0 rfl rfl rfl rfl rfl (Or.inr ⟨rfl, rfl⟩) rfl rfl ?_
  refine j_run 6 2 rfl ?_
  refine j_newarr 8 0 12 rfl rfl (by decide) rfl ⟨(Nat.le_of_ble_eq_true rfl), (Nat.le_of_ble_eq_true rfl)⟩ (Nat.le_of_ble_eq_true rfl) (fun a2 => ?_)
  refine j_prf 9 1 rfl rfl rfl rfl rfl (Or.inr ⟨rfl, rfl⟩) rfl rfl ?_
  refine j_run 10 2 rfl ?_
  refine j_newarr 12 0 12 rfl rfl (by decide) rfl ⟨(Nat.le_of_ble_eq_true rfl), (Nat.le_of_ble_eq_true rfl)⟩ (Nat.le_of_ble_eq_true rfl) (fun a3 => ?_)
  refine j_prf 13 2 rfl rfl rfl rfl rfl (Or.inr ⟨rfl, rfl⟩) rfl rfl ?_
  refine j_run 14 2 rfl ?_
  refine j_newarr 16 0 12 rfl rfl (by decide) rfl ⟨(Nat.le_of_ble_eq_true rfl), (Nat.le_of_ble_eq_true rfl)⟩ (Nat.le_of_ble_eq_true rfl) (fun a4 => ?_)
  refine j_prf 17 3 rfl rfl rfl rfl rfl (Or.inr ⟨rfl, rfl⟩) rfl rfl ?_
  refine j_run 18 2 rfl ?_
  refine j_newarr 20 0 12 rfl rfl (by decide) rfl ⟨(Nat.le_of_ble_eq_true rfl), (Nat.le_of_ble_eq_true rfl)⟩ (Nat.le_of_ble_eq_true rfl) (fun a5 => ?_)
  refine j_prf 21 4 rfl rfl rfl rfl rfl (Or.inr ⟨rfl, rfl⟩) rfl rfl ?_
  refine j_run 22 2 rfl ?_
  refine j_newarr 24 0 12 rfl rfl (by decide) rfl ⟨(Nat.le_of_ble_eq_true rfl), (Nat.le_of_ble_eq_true rfl)⟩ (Nat.le_of_ble_eq_true rfl) (fun a6 => ?_)
  refine j_prf 25 5 rfl rfl rfl rfl rfl (Or.inr ⟨rfl, rfl⟩) rfl rfl ?_
  exact j_vretA (new := [a1] ++ ([a2] ++ ([a3] ++ ([a4] ++ ([a5] ++ ([a6] ++ ([]))))))) 26 rfl rfl (by simp only [List.append_assoc, List.append_nil]) (by simp only [List.length_append, List.length_cons, List.length_nil]) (by decide +kernel)
def fiX2_init_116 (σ : Sg) : Option Sg := some (zr (zr (zr (zr (zr (zr σ 117) 118) 119) 120) 121) 122)
set_option maxRecDepth 20000 in
theorem iX2_init_116 {X : Cx} {ads : List Nat} (hA : ads.length = (sq51).length) (σ : Sg) : CFA X mX2_init ads sq51 [.inr (some 116)] σ 6 sq52 6 507 (fiX2_init_116 σ) := by
  refine CFA.of ⟨pX2_init_ok, tbiX2_ok, hA, Nat.le_of_ble_eq_true rfl⟩ (plainFor_of_name plX2) (Nat.le_of_ble_eq_true rfl) ?_
  show J X mX2_init pX2_init tbiX2 (rmD 1 6 507) 0 0 E0 (FA X ads 6 sq52 6 507) ads sq51 (0, [some (.inr (some 116))], [], σ) (fiX2_init_116 σ)
  unfold fiX2_init_116
  refine j_run 0 1 rfl ?_
  refine j_obj 1 rfl (tw_of (i := 85) (by decide +kernel) rfl) ⟨(Nat.le_of_ble_eq_true rfl), (Nat.le_of_ble_eq_true rfl)⟩ rfl ?_
  refine j_run 2 2 rfl ?_
  refine j_newarr 4 0 400 rfl rfl (by decide) rfl ⟨(Nat.le_of_ble_eq_true rfl), (Nat.le_of_ble_eq_true rfl)⟩ (Nat.le_of_ble_eq_true rfl) (fun a1 => ?_)
  refine j_prf 5 0 rfl rfl rfl rfl rfl (Or.inr ⟨rfl, rfl⟩) rfl rfl ?_
  refine j_run 6 2 rfl ?_
  refine j_newarr 8 0 16 rfl rfl (by decide) rfl ⟨(Nat.le_of_ble_eq_true rfl), (Nat.le_of_ble_eq_true rfl)⟩ (Nat.le_of_ble_eq_true rfl) (fun a2 => ?_)
  refine j_prf 9 1 rfl rfl rfl rfl rfl (Or.inr ⟨rfl, rfl⟩) rfl rfl ?_
  refine j_run 10 2 rfl ?_
  refine j_newarr 12 0 17 rfl rfl (by decide) rfl ⟨(Nat.le_of_ble_eq_true rfl), (Nat.le_of_ble_eq_true rfl)⟩ (Nat.le_of_ble_eq_true rfl) (fun a3 => ?_)
  refine j_prf 13 2 rfl rfl rfl rfl rfl (Or.inr ⟨rfl, rfl⟩) rfl rfl ?_
  refine j_run 14 2 rfl ?_
  refine j_newarr 16 0 16 rfl rfl (by decide) rfl ⟨(Nat.le_of_ble_eq_true rfl), (Nat.le_of_ble_eq_true rfl)⟩ (Nat.le_of_ble_eq_true rfl) (fun a4 => ?_)
  refine j_prf 17 3 rfl rfl rfl rfl rfl (Or.inr ⟨rfl, rfl⟩) rfl rfl ?_
  refine j_run 18 2 rfl ?_
  refine j_newarr 20 0 10 rfl rfl (by decide) rfl ⟨(Nat.le_of_ble_eq_true rfl), (Nat.le_of_ble_eq_true rfl)⟩ (Nat.le_of_ble_eq_true rfl) (fun a5 => ?_)
  refine j_prf 21 4 rfl rfl rfl rfl rfl (Or.inr ⟨rfl, rfl⟩) rfl rfl ?_
  refine j_run 22 2 rfl ?_
  refine j_newarr 24 0 48 rfl rfl (by decide) rfl ⟨(Nat.le_of_ble_eq_true rfl), (Nat.le_of_ble_eq_true rfl)⟩ (Nat.le_of_ble_eq_true rfl) (fun a6 => ?_)
  refine j_prf 25 5 rfl rfl rfl rfl rfl (Or.inr ⟨rfl, rfl⟩) rfl rfl ?_
  exact j_vretA (new := [a1] ++ ([a2] ++ ([a3] ++ ([a4] ++ ([a5] ++ ([a6] ++ ([]))))))) 26 rfl rfl (by simp only [List.append_assoc, List.append_nil]) (by simp only [List.length_append, List.length_cons, List.length_nil]) (by decide +kernel)
def fiX6_init_123 (σ : Sg) : Option Sg := some (wr (zr (wr σ 123 1 (fJ9_max_7cf53 0 16)) 124) 123 2 0)
set_option maxRecDepth 20000 in
theorem iX6_init_123 {X : Cx} {ads : List Nat} (hA : ads.length = (sq53).length) (σ : Sg) : CFA X mX6_init ads sq53 [.inr (some 123), .inl 16] σ 1 sq54 1 64 (fiX6_init_123 σ) := by
  refine CFA.of ⟨pX6_init_ok, tbiX6_ok, hA, Nat.le_of_ble_eq_true rfl⟩ (plainFor_of_name plX6) (Nat.le_of_ble_eq_true rfl) ?_
  show J X mX6_init pX6_init tbiX6 (rmD 1 1 64) 0 0 E0 (FA X ads 1 sq54 1 64) ads sq53 (0, [some (.inr (some 123)), some (.inl 16)], [], σ) (fiX6_init_123 σ)
  unfold fiX6_init_123
  refine j_run 0 1 rfl ?_
  refine j_obj 1 rfl (tw_of (i := 123) (by decide +kernel) rfl) ⟨(Nat.le_of_ble_eq_true rfl), (Nat.le_of_ble_eq_true rfl)⟩ rfl ?_
  refine j_run 2 3 rfl ?_
  refine J.okA (fun hA1 => ?_)
  refine j_csT 5 0 2 rfl rfl mwJ9_max_7cf53 (eJ9_max_7cf53 hA1 0 16 _) rfl rfl ⟨⟨(Nat.le_of_ble_eq_true rfl), (Nat.le_of_ble_eq_true rfl)⟩, (Nat.le_of_ble_eq_true rfl), (Nat.le_of_ble_eq_true rfl)⟩ (Nat.le_of_ble_eq_true rfl) (fun _ => ?_)
  refine j_pff 6 0 rfl rfl rfl rfl rfl rfl rfl rfl rfl ?_
  refine j_run 7 2 rfl ?_
  refine j_gf 9 0 rfl rfl rfl rfl ?_
  refine j_run 10 2 rfl ?_
  refine j_newarr 12 0 64 rfl (by rw [rd_same]; rfl) (by decide) rfl ⟨(Nat.le_of_ble_eq_true rfl), (Nat.le_of_ble_eq_true rfl)⟩ (Nat.le_of_ble_eq_true rfl) (fun a2 => ?_)
  refine j_prf 13 1 rfl rfl rfl rfl rfl (Or.inr ⟨rfl, rfl⟩) rfl rfl ?_
  refine j_run 14 2 rfl ?_
  refine j_pf 16 2 rfl rfl rfl rfl rfl (Or.inl rfl) ?_
  exact j_vretA (new := [a2] ++ ([])) 17 rfl rfl (by simp only [List.append_assoc, List.append_nil]) (by simp only [List.length_append, List.length_cons, List.length_nil]) (by decide +kernel)
def fiX6_init_125 (σ : Sg) : Option Sg := some (wr (zr (wr σ 125 1 (fJ9_max_7cf53 0 12)) 126) 125 2 0)
set_option maxRecDepth 20000 in
theorem iX6_init_125 {X : Cx} {ads : List Nat} (hA : ads.length = (sq55).length) (σ : Sg) : CFA X mX6_init ads sq55 [.inr (some 125), .inl 12] σ 1 sq56 1 48 (fiX6_init_125 σ) := by
  refine CFA.of ⟨pX6_init_ok, tbiX6_ok, hA, Nat.le_of_ble_eq_true rfl⟩ (plainFor_of_name plX6) (Nat.le_of_ble_eq_true rfl) ?_
  show J X mX6_init pX6_init tbiX6 (rmD 1 1 48) 0 0 E0 (FA X ads 1 sq56 1 48) ads sq55 (0, [some (.inr (some 125)), some (.inl 12)], [], σ) (fiX6_init_125 σ)
  unfold fiX6_init_125
  refine j_run 0 1 rfl ?_
  refine j_obj 1 rfl (tw_of (i := 123) (by decide +kernel) rfl) ⟨(Nat.le_of_ble_eq_true rfl), (Nat.le_of_ble_eq_true rfl)⟩ rfl ?_
  refine j_run 2 3 rfl ?_
  refine J.okA (fun hA1 => ?_)
  refine j_csT 5 0 2 rfl rfl mwJ9_max_7cf53 (eJ9_max_7cf53 hA1 0 12 _) rfl rfl ⟨⟨(Nat.le_of_ble_eq_true rfl), (Nat.le_of_ble_eq_true rfl)⟩, (Nat.le_of_ble_eq_true rfl), (Nat.le_of_ble_eq_true rfl)⟩ (Nat.le_of_ble_eq_true rfl) (fun _ => ?_)
  refine j_pff 6 0 rfl rfl rfl rfl rfl rfl rfl rfl rfl ?_
  refine j_run 7 2 rfl ?_
  refine j_gf 9 0 rfl rfl rfl rfl ?_
  refine j_run 10 2 rfl ?_
  refine j_newarr 12 0 48 rfl (by rw [rd_same]; rfl) (by decide) rfl ⟨(Nat.le_of_ble_eq_true rfl), (Nat.le_of_ble_eq_true rfl)⟩ (Nat.le_of_ble_eq_true rfl) (fun a2 => ?_)
  refine j_prf 13 1 rfl rfl rfl rfl rfl (Or.inr ⟨rfl, rfl⟩) rfl rfl ?_
  refine j_run 14 2 rfl ?_
  refine j_pf 16 2 rfl rfl rfl rfl rfl (Or.inl rfl) ?_
  exact j_vretA (new := [a2] ++ ([])) 17 rfl rfl (by simp only [List.append_assoc, List.append_nil]) (by simp only [List.length_append, List.length_cons, List.length_nil]) (by decide +kernel)
def fiX6_init_127 (σ : Sg) : Option Sg := some (wr (zr (wr σ 127 1 (fJ9_max_7cf53 0 12)) 128) 127 2 0)
set_option maxRecDepth 20000 in
theorem iX6_init_127 {X : Cx} {ads : List Nat} (hA : ads.length = (sq57).length) (σ : Sg) : CFA X mX6_init ads sq57 [.inr (some 127), .inl 12] σ 1 sq58 1 48 (fiX6_init_127 σ) := by
  refine CFA.of ⟨pX6_init_ok, tbiX6_ok, hA, Nat.le_of_ble_eq_true rfl⟩ (plainFor_of_name plX6) (Nat.le_of_ble_eq_true rfl) ?_
  show J X mX6_init pX6_init tbiX6 (rmD 1 1 48) 0 0 E0 (FA X ads 1 sq58 1 48) ads sq57 (0, [some (.inr (some 127)), some (.inl 12)], [], σ) (fiX6_init_127 σ)
  unfold fiX6_init_127
  refine j_run 0 1 rfl ?_
  refine j_obj 1 rfl (tw_of (i := 123) (by decide +kernel) rfl) ⟨(Nat.le_of_ble_eq_true rfl), (Nat.le_of_ble_eq_true rfl)⟩ rfl ?_
  refine j_run 2 3 rfl ?_
  refine J.okA (fun hA1 => ?_)
  refine j_csT 5 0 2 rfl rfl mwJ9_max_7cf53 (eJ9_max_7cf53 hA1 0 12 _) rfl rfl ⟨⟨(Nat.le_of_ble_eq_true rfl), (Nat.le_of_ble_eq_true rfl)⟩, (Nat.le_of_ble_eq_true rfl), (Nat.le_of_ble_eq_true rfl)⟩ (Nat.le_of_ble_eq_true rfl) (fun _ => ?_)
  refine j_pff 6 0 rfl rfl rfl rfl rfl rfl rfl rfl rfl ?_
  refine j_run 7 2 rfl ?_
  refine j_gf 9 0 rfl rfl rfl rfl ?_
  refine j_run 10 2 rfl ?_
  refine j_newarr 12 0 48 rfl (by rw [rd_same]; rfl) (by decide) rfl ⟨(Nat.le_of_ble_eq_true rfl), (Nat.le_of_ble_eq_true rfl)⟩ (Nat.le_of_ble_eq_true rfl) (fun a2 => ?_)
  refine j_prf 13 1 rfl rfl rfl rfl rfl (Or.inr ⟨rfl, rfl⟩) rfl rfl ?_
  refine j_run 14 2 rfl ?_
  refine j_pf 16 2 rfl rfl rfl rfl rfl (Or.inl rfl) ?_
  exact j_vretA (new := [a2] ++ ([])) 17 rfl rfl (by simp only [List.append_assoc, List.append_nil]) (by simp only [List.length_append, List.length_cons, List.length_nil]) (by decide +kernel)
def fiX6_init_129 (σ : Sg) : Option Sg := some (wr (zr (wr σ 129 1 (fJ9_max_7cf53 0 12)) 130) 129 2 0)
set_option maxRecDepth 20000 in
theorem iX6_init_129 {X : Cx} {ads : List Nat} (hA : ads.length = (sq59).length) (σ : Sg) : CFA X mX6_init ads sq59 [.inr (some 129), .inl 12] σ 1 sq60 1 48 (fiX6_init_129 σ) := by
  refine CFA.of ⟨pX6_init_ok, tbiX6_ok, hA, Nat.le_of_ble_eq_true rfl⟩ (plainFor_of_name plX6) (Nat.le_of_ble_eq_true rfl) ?_
  show J X mX6_init pX6_init tbiX6 (rmD 1 1 48) 0 0 E0 (FA X ads 1 sq60 1 48) ads sq59 (0, [some (.inr (some 129)), some (.inl 12)], [], σ) (fiX6_init_129 σ)
  unfold fiX6_init_129
  refine j_run 0 1 rfl ?_
  refine j_obj 1 rfl (tw_of (i := 123) (by decide +kernel) rfl) ⟨(Nat.le_of_ble_eq_true rfl), (Nat.le_of_ble_eq_true rfl)⟩ rfl ?_
  refine j_run 2 3 rfl ?_
  refine J.okA (fun hA1 => ?_)
  refine j_csT 5 0 2 rfl rfl mwJ9_max_7cf53 (eJ9_max_7cf53 hA1 0 12 _) rfl rfl ⟨⟨(Nat.le_of_ble_eq_true rfl), (Nat.le_of_ble_eq_true rfl)⟩, (Nat.le_of_ble_eq_true rfl), (Nat.le_of_ble_eq_true rfl)⟩ (Nat.le_of_ble_eq_true rfl) (fun _ => ?_)
  refine j_pff 6 0 rfl rfl rfl rfl rfl rfl rfl rfl rfl ?_
  refine j_run 7 2 rfl ?_
  refine j_gf 9 0 rfl rfl rfl rfl ?_
  refine j_run 10 2 rfl ?_
  refine j_newarr 12 0 48 rfl (by rw [rd_same]; rfl) (by decide) rfl ⟨(Nat.le_of_ble_eq_true rfl), (Nat.le_of_ble_eq_true rfl)⟩ (Nat.le_of_ble_eq_true rfl) (fun a2 => ?_)
  refine j_prf 13 1 rfl rfl rfl rfl rfl (Or.inr ⟨rfl, rfl⟩) rfl rfl ?_
  refine j_run 14 2 rfl ?_
  refine j_pf 16 2 rfl rfl rfl rfl rfl (Or.inl rfl) ?_
  exact j_vretA (new := [a2] ++ ([])) 17 rfl rfl (by simp only [List.append_assoc, List.append_nil]) (by simp only [List.length_append, List.length_cons, List.length_nil]) (by decide +kernel)
def fiX6_init_131 (σ : Sg) : Option Sg := some (wr (zr (wr σ 131 1 (fJ9_max_7cf53 0 150)) 132) 131 2 0)
set_option maxRecDepth 20000 in
theorem iX6_init_131 {X : Cx} {ads : List Nat} (hA : ads.length = (sq61).length) (σ : Sg) : CFA X mX6_init ads sq61 [.inr (some 131), .inl 150] σ 1 sq62 1 600 (fiX6_init_131 σ) := by
  refine CFA.of ⟨pX6_init_ok, tbiX6_ok, hA, Nat.le_of_ble_eq_true rfl⟩ (plainFor_of_name plX6) (Nat.le_of_ble_eq_true rfl) ?_
  show J X mX6_init pX6_init tbiX6 (rmD 1 1 600) 0 0 E0 (FA X ads 1 sq62 1 600) ads sq61 (0, [some (.inr (some 131)), some (.inl 150)], [], σ) (fiX6_init_131 σ)
  unfold fiX6_init_131
  refine j_run 0 1 rfl ?_
  refine j_obj 1 rfl (tw_of (i := 123) (by decide +kernel) rfl) ⟨(Nat.le_of_ble_eq_true rfl), (Nat.le_of_ble_eq_true rfl)⟩ rfl ?_
  refine j_run 2 3 rfl ?_
  refine J.okA (fun hA1 => ?_)
  refine j_csT 5 0 2 rfl rfl mwJ9_max_7cf53 (eJ9_max_7cf53 hA1 0 150 _) rfl rfl ⟨⟨(Nat.le_of_ble_eq_true rfl), (Nat.le_of_ble_eq_true rfl)⟩, (Nat.le_of_ble_eq_true rfl), (Nat.le_of_ble_eq_true rfl)⟩ (Nat.le_of_ble_eq_true rfl) (fun _ => ?_)
  refine j_pff 6 0 rfl rfl rfl rfl rfl rfl rfl rfl rfl ?_
  refine j_run 7 2 rfl ?_
  refine j_gf 9 0 rfl rfl rfl rfl ?_
  refine j_run 10 2 rfl ?_
  refine j_newarr 12 0 600 rfl (by rw [rd_same]; rfl) (by decide) rfl ⟨(Nat.le_of_ble_eq_true rfl), (Nat.le_of_ble_eq_true rfl)⟩ (Nat.le_of_ble_eq_true rfl) (fun a2 => ?_)
  refine j_prf 13 1 rfl rfl rfl rfl rfl (Or.inr ⟨rfl, rfl⟩) rfl rfl ?_
  refine j_run 14 2 rfl ?_
  refine j_pf 16 2 rfl rfl rfl rfl rfl (Or.inl rfl) ?_
  exact j_vretA (new := [a2] ++ ([])) 17 rfl rfl (by simp only [List.append_assoc, List.append_nil]) (by simp only [List.length_append, List.length_cons, List.length_nil]) (by decide +kernel)
def fiX9_init_106 (σ : Sg) : Option Sg := (fiX1_init_109 (zr (zr (zr σ 107) 108) 109)).bind fun s4 => (fiX2_init_116 (zr s4 116)).bind fun s6 => (fiX6_init_123 (zr s6 123)).bind fun s8 => (fiX6_init_125 (zr s8 125)).bind fun s10 => (fiX6_init_127 (zr s10 127)).bind fun s12 => (fiX6_init_129 (zr s12 129)).bind fun s14 => (fiX6_init_131 (zr s14 131)).bind fun s16 => (fX9_begin 106 5 4 (wr s16 106 7 0)).bind fun s17 => some s17
set_option maxRecDepth 20000 in
theorem iX9_init_106 {X : Cx} {ads : List Nat} (hA : ads.length = (sq48).length) (σ : Sg) : CFA X mX9_init ads sq48 [.inr (some 106), .inl 150] σ 26 sq63 26 1529 (fiX9_init_106 σ) := by
  refine CFA.of ⟨pX9_init_ok, tbiX9_ok, hA, Nat.le_of_ble_eq_true rfl⟩ (plainFor_of_name plX9) (Nat.le_of_ble_eq_true rfl) ?_
  show J X mX9_init pX9_init tbiX9 (rmD 2 26 1529) 0 0 E0 (FA X ads 26 sq63 26 1529) ads sq48 (0, [some (.inr (some 106)), some (.inl 150)], [], σ) (fiX9_init_106 σ)
  unfold fiX9_init_106
  refine j_run 0 1 rfl ?_
  refine j_obj 1 rfl (tw_of (i := 34) (by decide +kernel) rfl) ⟨(Nat.le_of_ble_eq_true rfl), (Nat.le_of_ble_eq_true rfl)⟩ rfl ?_
  refine j_run 2 2 rfl ?_
  refine j_newarr 4 0 56 rfl rfl (by decide) rfl ⟨(Nat.le_of_ble_eq_true rfl), (Nat.le_of_ble_eq_true rfl)⟩ (Nat.le_of_ble_eq_true rfl) (fun a1 => ?_)
  refine j_prf 5 0 rfl rfl rfl rfl rfl (Or.inr ⟨rfl, rfl⟩) rfl rfl ?_
  refine j_run 6 2 rfl ?_
  refine j_newarr 8 0 56 rfl rfl (by decide) rfl ⟨(Nat.le_of_ble_eq_true rfl), (Nat.le_of_ble_eq_true rfl)⟩ (Nat.le_of_ble_eq_true rfl) (fun a2 => ?_)
  refine j_prf 9 1 rfl rfl rfl rfl rfl (Or.inr ⟨rfl, rfl⟩) rfl rfl ?_
  refine j_run 10 1 rfl ?_
  refine j_new 11 1 rfl rfl (by decide) (tw_of (i := 35) (by decide +kernel) rfl) (tw_of (i := 36) (by decide +kernel) rfl) (tw_of (i := 3) (by decide +kernel) rfl) rfl ⟨(Nat.le_of_ble_eq_true rfl), (Nat.le_of_ble_eq_true rfl)⟩ (Nat.le_of_ble_eq_true rfl) (fun a3 => ?_)
  refine j_run 12 1 rfl ?_
  refine J.okA (fun hA4 => ?_)
  refine j_ciN 13 0 0 rfl rfl mwiX1_init (iX1_init_109 hA4.1 _) rfl rfl ⟨⟨(Nat.le_of_ble_eq_true rfl), (Nat.le_of_ble_eq_true rfl)⟩, (Nat.le_of_ble_eq_true rfl), (Nat.le_of_ble_eq_true rfl)⟩ (Nat.le_of_ble_eq_true rfl) rfl ⟨rfl, (Nat.le_of_ble_eq_true rfl)⟩ (fun n4 s4 hn4 _ => ?_)
  refine j_prf 14 2 rfl rfl rfl rfl rfl (Or.inr ⟨rfl, rfl⟩) rfl rfl ?_
  refine j_run 15 1 rfl ?_
  refine j_new 16 2 rfl rfl (by decide) (tw_of (i := 80) (by decide +kernel) rfl) (tw_of (i := 81) (by decide +kernel) rfl) (tw_of (i := 4) (by decide +kernel) rfl) rfl ⟨(Nat.le_of_ble_eq_true rfl), (Nat.le_of_ble_eq_true rfl)⟩ (Nat.le_of_ble_eq_true rfl) (fun a5 => ?_)
  refine j_run 17 1 rfl ?_
  refine J.okA (fun hA6 => ?_)
  refine j_ciN 18 1 0 rfl rfl mwiX2_init (iX2_init_116 hA6.1 _) rfl rfl ⟨⟨(Nat.le_of_ble_eq_true rfl), (Nat.le_of_ble_eq_true rfl)⟩, (Nat.le_of_ble_eq_true rfl), (Nat.le_of_ble_eq_true rfl)⟩ (Nat.le_of_ble_eq_true rfl) rfl ⟨rfl, (Nat.le_of_ble_eq_true rfl)⟩ (fun n6 s6 hn6 _ => ?_)
  refine j_prf 19 3 rfl rfl rfl rfl rfl (Or.inr ⟨rfl, rfl⟩) rfl rfl ?_
  refine j_run 20 1 rfl ?_
  refine j_new 21 6 rfl rfl (by decide) (tw_of (i := 118) (by decide +kernel) rfl) (tw_of (i := 119) (by decide +kernel) rfl) (tw_of (i := 5) (by decide +kernel) rfl) rfl ⟨(Nat.le_of_ble_eq_true rfl), (Nat.le_of_ble_eq_true rfl)⟩ (Nat.le_of_ble_eq_true rfl) (fun a7 => ?_)
  refine j_run 22 2 rfl ?_
  refine J.okA (fun hA8 => ?_)
  refine j_ci 24 0 1 rfl rfl mwiX6_init (iX6_init_123 hA8.1 _) rfl rfl ⟨⟨(Nat.le_of_ble_eq_true rfl), (Nat.le_of_ble_eq_true rfl)⟩, (Nat.le_of_ble_eq_true rfl), (Nat.le_of_ble_eq_true rfl)⟩ (Nat.le_of_ble_eq_true rfl) rfl ⟨rfl, (Nat.le_of_ble_eq_true rfl)⟩ (fun n8 s8 hn8 _ => ?_)
  refine j_prf 25 4 rfl rfl rfl rfl rfl (Or.inr ⟨rfl, rfl⟩) rfl rfl ?_
  refine j_run 26 1 rfl ?_
  refine j_new 27 6 rfl rfl (by decide) (tw_of (i := 118) (by decide +kernel) rfl) (tw_of (i := 119) (by decide +kernel) rfl) (tw_of (i := 5) (by decide +kernel) rfl) rfl ⟨(Nat.le_of_ble_eq_true rfl), (Nat.le_of_ble_eq_true rfl)⟩ (Nat.le_of_ble_eq_true rfl) (fun a9 => ?_)
  refine j_run 28 2 rfl ?_
  refine J.okA (fun hA10 => ?_)
  refine j_ci 30 0 1 rfl rfl mwiX6_init (iX6_init_125 hA10.1 _) rfl rfl ⟨⟨(Nat.le_of_ble_eq_true rfl), (Nat.le_of_ble_eq_true rfl)⟩, (Nat.le_of_ble_eq_true rfl), (Nat.le_of_ble_eq_true rfl)⟩ (Nat.le_of_ble_eq_true rfl) rfl ⟨rfl, (Nat.le_of_ble_eq_true rfl)⟩ (fun n10 s10 hn10 _ => ?_)
  refine j_prf 31 5 rfl rfl rfl rfl rfl (Or.inr ⟨rfl, rfl⟩) rfl rfl ?_
  refine j_run 32 1 rfl ?_
  refine j_new 33 6 rfl rfl (by decide) (tw_of (i := 118) (by decide +kernel) rfl) (tw_of (i := 119) (by decide +kernel) rfl) (tw_of (i := 5) (by decide +kernel) rfl) rfl ⟨(Nat.le_of_ble_eq_true rfl), (Nat.le_of_ble_eq_true rfl)⟩ (Nat.le_of_ble_eq_true rfl) (fun a11 => ?_)
  refine j_run 34 2 rfl ?_
  refine J.okA (fun hA12 => ?_)
  refine j_ci 36 0 1 rfl rfl mwiX6_init (iX6_init_127 hA12.1 _) rfl rfl ⟨⟨(Nat.le_of_ble_eq_true rfl), (Nat.le_of_ble_eq_true rfl)⟩, (Nat.le_of_ble_eq_true rfl), (Nat.le_of_ble_eq_true rfl)⟩ (Nat.le_of_ble_eq_true rfl) rfl ⟨rfl, (Nat.le_of_ble_eq_true rfl)⟩ (fun n12 s12 hn12 _ => ?_)
  refine j_prf 37 6 rfl rfl rfl rfl rfl (Or.inr ⟨rfl, rfl⟩) rfl rfl ?_
  refine j_run 38 1 rfl ?_
  refine j_new 39 6 rfl rfl (by decide) (tw_of (i := 118) (by decide +kernel) rfl) (tw_of (i := 119) (by decide +kernel) rfl) (tw_of (i := 5) (by decide +kernel) rfl) rfl ⟨(Nat.le_of_ble_eq_true rfl), (Nat.le_of_ble_eq_true rfl)⟩ (Nat.le_of_ble_eq_true rfl) (fun a13 => ?_)
  refine j_run 40 2 rfl ?_
  refine J.okA (fun hA14 => ?_)
  refine j_ci 42 0 1 rfl rfl mwiX6_init (iX6_init_129 hA14.1 _) rfl rfl ⟨⟨(Nat.le_of_ble_eq_true rfl), (Nat.le_of_ble_eq_true rfl)⟩, (Nat.le_of_ble_eq_true rfl), (Nat.le_of_ble_eq_true rfl)⟩ (Nat.le_of_ble_eq_true rfl) rfl ⟨rfl, (Nat.le_of_ble_eq_true rfl)⟩ (fun n14 s14 hn14 _ => ?_)
  refine j_prf 43 7 rfl rfl rfl rfl rfl (Or.inr ⟨rfl, rfl⟩) rfl rfl ?_
  refine j_run 44 1 rfl ?_
  refine j_new 45 6 rfl rfl (by decide) (tw_of (i := 118) (by decide +kernel) rfl) (tw_of (i := 119) (by decide +kernel) rfl) (tw_of (i := 5) (by decide +kernel) rfl) rfl ⟨(Nat.le_of_ble_eq_true rfl), (Nat.le_of_ble_eq_true rfl)⟩ (Nat.le_of_ble_eq_true rfl) (fun a15 => ?_)
  refine j_run 46 2 rfl ?_
  refine J.okA (fun hA16 => ?_)
  refine j_ci 48 0 1 rfl rfl mwiX6_init (iX6_init_131 hA16.1 _) rfl rfl ⟨⟨(Nat.le_of_ble_eq_true rfl), (Nat.le_of_ble_eq_true rfl)⟩, (Nat.le_of_ble_eq_true rfl), (Nat.le_of_ble_eq_true rfl)⟩ (Nat.le_of_ble_eq_true rfl) rfl ⟨rfl, (Nat.le_of_ble_eq_true rfl)⟩ (fun n16 s16 hn16 _ => ?_)
  refine j_prf 49 8 rfl rfl rfl rfl rfl (Or.inr ⟨rfl, rfl⟩) rfl rfl ?_
  refine j_run 50 2 rfl ?_
  refine j_pf 52 9 rfl rfl rfl rfl rfl (Or.inl rfl) ?_
  refine j_run 53 3 rfl ?_
  refine J.okA (fun hA17 => ?_)
  refine j_cv 56 1 2 rfl rfl mwX9_begin rfl rfl rfl (eX9_begin hA17 (by unfold ocW ocF ocL ocR; exact ⟨rfl, rfl, rfl, ⟨rfl, rfl, rfl, rfl, rfl, rfl, rfl⟩, ⟨rfl, rfl, rfl, rfl, rfl, rfl, rfl⟩, ⟨rfl, rfl⟩, ⟨rfl, rfl⟩, ⟨rfl, rfl⟩, ⟨rfl, rfl⟩, ⟨rfl, rfl⟩⟩) 5 4 _) rfl rfl ⟨⟨(Nat.le_of_ble_eq_true rfl), (Nat.le_of_ble_eq_true rfl)⟩, (Nat.le_of_ble_eq_true rfl), (Nat.le_of_ble_eq_true rfl)⟩ (Nat.le_of_ble_eq_true rfl) (fun s17 _ _ => ?_)
  exact j_vretA (new := [a1] ++ ([a2] ++ ([a3] ++ (n4 ++ ([a5] ++ (n6 ++ ([a7] ++ (n8 ++ ([a9] ++ (n10 ++ ([a11] ++ (n12 ++ ([a13] ++ (n14 ++ ([a15] ++ (n16 ++ ([]))))))))))))))))) 57 rfl rfl (by simp only [List.append_assoc, List.append_nil]) (by simp only [List.length_append, List.length_cons, List.length_nil, hn4, hn6, hn8, hn10, hn12, hn14, hn16]) (by decide +kernel)
