/-! the law's loop -/
def fL_law_J403 (sx : Int → Int) (LL : Int) (k18 : Int → Sg → Option (Unit)) (x3 : Int) (z0 : Int) (z1 : Int) (z2 : Int) (y0 : Int) (σ : Sg) : Option (Unit) := (fX11_kin z1 z0 y0 σ).bind fun q20 => if z2 = q20.1 then k18 (bw (x3 + 6)) q20.2 else none
def fL_law_J376 (sx : Int → Int) (LL : Int) (k18 : Int → Sg → Option (Unit)) (x3 : Int) (z0 : Int) (z1 : Int) (y0 : Int) (σ : Sg) : Option (Unit) := (fX10_kin z1 z0 y0 σ).bind fun q19 => grd ((0 : Int) ≤ (bw (x3 + 1)) ∧ (bw (x3 + 1)) < LL) (grd ((0 : Int) ≤ (bw (x3 + 2)) ∧ (bw (x3 + 2)) < LL) (grd ((0 : Int) ≤ (bw (x3 + 3)) ∧ (bw (x3 + 3)) < LL) (if (sx (bw (x3 + 3))) = 0 then fL_law_J403 sx LL (k18) x3 (sx (bw (x3 + 2))) (sx (bw (x3 + 1))) q19.1 0 q19.2 else fL_law_J403 sx LL (k18) x3 (sx (bw (x3 + 2))) (sx (bw (x3 + 1))) q19.1 1 q19.2)))
def fL_law_J749 (sx : Int → Int) (LL : Int) (k18 : Int → Sg → Option (Unit)) (x3 : Int) (z0 : Int) (z1 : Int) (z2 : Int) (y0 : Int) (σ : Sg) : Option (Unit) := (fX11_match z1 z0 y0 σ).bind fun q62 => if z2 = q62.1 then k18 (bw (x3 + 6)) q62.2 else none
def fL_law_J722 (sx : Int → Int) (LL : Int) (k18 : Int → Sg → Option (Unit)) (x3 : Int) (z0 : Int) (z1 : Int) (y0 : Int) (σ : Sg) : Option (Unit) := (fX10_match z1 z0 y0 σ).bind fun q61 => grd ((0 : Int) ≤ (bw (x3 + 1)) ∧ (bw (x3 + 1)) < LL) (grd ((0 : Int) ≤ (bw (x3 + 2)) ∧ (bw (x3 + 2)) < LL) (grd ((0 : Int) ≤ (bw (x3 + 3)) ∧ (bw (x3 + 3)) < LL) (if (sx (bw (x3 + 3))) = 0 then fL_law_J749 sx LL (k18) x3 (sx (bw (x3 + 2))) (sx (bw (x3 + 1))) q61.1 0 q61.2 else fL_law_J749 sx LL (k18) x3 (sx (bw (x3 + 2))) (sx (bw (x3 + 1))) q61.1 1 q61.2)))
def fL_law_J1085 (sx : Int → Int) (LL : Int) (k18 : Int → Sg → Option (Unit)) (x3 : Int) (z0 : Int) (z1 : Int) (z2 : Int) (y0 : Int) (σ : Sg) : Option (Unit) := (fX11_stir z1 z0 y0 σ).bind fun q104 => if z2 = q104.1 then k18 (bw (x3 + 6)) q104.2 else none
def fL_law_J1058 (sx : Int → Int) (LL : Int) (k18 : Int → Sg → Option (Unit)) (x3 : Int) (z0 : Int) (z1 : Int) (y0 : Int) (σ : Sg) : Option (Unit) := (fX10_stir z1 z0 y0 σ).bind fun q103 => grd ((0 : Int) ≤ (bw (x3 + 1)) ∧ (bw (x3 + 1)) < LL) (grd ((0 : Int) ≤ (bw (x3 + 2)) ∧ (bw (x3 + 2)) < LL) (grd ((0 : Int) ≤ (bw (x3 + 3)) ∧ (bw (x3 + 3)) < LL) (if (sx (bw (x3 + 3))) = 0 then fL_law_J1085 sx LL (k18) x3 (sx (bw (x3 + 2))) (sx (bw (x3 + 1))) q103.1 0 q103.2 else fL_law_J1085 sx LL (k18) x3 (sx (bw (x3 + 2))) (sx (bw (x3 + 1))) q103.1 1 q103.2)))
def fL_law (sx : Int → Int) (LL : Int) (kI : (Int → Sg → Option Unit) → Int → Sg → Option Unit) : Nat → Int → Sg → Option Unit
  | 0, _, _ => none
  | n + 1, x3, σ => if (bw (LL - 6)) < x3 then some () else grd ((0 : Int) ≤ x3 ∧ x3 < LL) (if (band (sx x3) 63) = 0 then grd ((0 : Int) ≤ (bw (x3 + 1)) ∧ (bw (x3 + 1)) < LL) ((fX10_state (sx (bw (x3 + 1))) σ).bind fun q3 => grd ((0 : Int) ≤ (bw (x3 + 1)) ∧ (bw (x3 + 1)) < LL) ((fX11_state (sx (bw (x3 + 1))) q3.2).bind fun q4 => if q3.1 = q4.1 then fL_law sx LL kI n (bw (x3 + 6)) q4.2 else none)) else if (band (sx x3) 63) = 1 then grd ((0 : Int) ≤ (bw (x3 + 1)) ∧ (bw (x3 + 1)) < LL) (grd ((0 : Int) ≤ (bw (x3 + 2)) ∧ (bw (x3 + 2)) < LL) ((fX10_valley (sx (bw (x3 + 1))) (sx (bw (x3 + 2))) σ).bind fun q7 => grd ((0 : Int) ≤ (bw (x3 + 1)) ∧ (bw (x3 + 1)) < LL) (grd ((0 : Int) ≤ (bw (x3 + 2)) ∧ (bw (x3 + 2)) < LL) ((fX11_valley (sx (bw (x3 + 1))) (sx (bw (x3 + 2))) q7.2).bind fun q8 => if q7.1 = q8.1 then fL_law sx LL kI n (bw (x3 + 6)) q8.2 else none)))) else if (band (sx x3) 63) = 2 then grd ((0 : Int) ≤ (bw (x3 + 1)) ∧ (bw (x3 + 1)) < LL) (grd ((0 : Int) ≤ (bw (x3 + 2)) ∧ (bw (x3 + 2)) < LL) (grd ((0 : Int) ≤ (bw (x3 + 3)) ∧ (bw (x3 + 3)) < LL) (grd ((0 : Int) ≤ (bw (x3 + 4)) ∧ (bw (x3 + 4)) < LL) ((fX10_person (sx (bw (x3 + 1))) (sx (bw (x3 + 2))) (sx (bw (x3 + 3))) (sx (bw (x3 + 4))) σ).bind fun q11 => grd ((0 : Int) ≤ (bw (x3 + 1)) ∧ (bw (x3 + 1)) < LL) (grd ((0 : Int) ≤ (bw (x3 + 2)) ∧ (bw (x3 + 2)) < LL) (grd ((0 : Int) ≤ (bw (x3 + 3)) ∧ (bw (x3 + 3)) < LL) (grd ((0 : Int) ≤ (bw (x3 + 4)) ∧ (bw (x3 + 4)) < LL) ((fX11_person (sx (bw (x3 + 1))) (sx (bw (x3 + 2))) (sx (bw (x3 + 3))) (sx (bw (x3 + 4))) q11.2).bind fun q12 => if q11.1 = q12.1 then fL_law sx LL kI n (bw (x3 + 6)) q12.2 else none)))))))) else if (band (sx x3) 63) = 3 then grd ((0 : Int) ≤ (bw (x3 + 1)) ∧ (bw (x3 + 1)) < LL) (grd ((0 : Int) ≤ (bw (x3 + 2)) ∧ (bw (x3 + 2)) < LL) (grd ((0 : Int) ≤ (bw (x3 + 3)) ∧ (bw (x3 + 3)) < LL) ((fX10_set (sx (bw (x3 + 1))) (sx (bw (x3 + 2))) (sx (bw (x3 + 3))) σ).bind fun q15 => grd ((0 : Int) ≤ (bw (x3 + 1)) ∧ (bw (x3 + 1)) < LL) (grd ((0 : Int) ≤ (bw (x3 + 2)) ∧ (bw (x3 + 2)) < LL) (grd ((0 : Int) ≤ (bw (x3 + 3)) ∧ (bw (x3 + 3)) < LL) ((fX11_set (sx (bw (x3 + 1))) (sx (bw (x3 + 2))) (sx (bw (x3 + 3))) q15.2).bind fun q16 => if q15.1 = q16.1 then fL_law sx LL kI n (bw (x3 + 6)) q16.2 else none)))))) else if (band (sx x3) 63) = 4 then grd ((0 : Int) ≤ (bw (x3 + 1)) ∧ (bw (x3 + 1)) < LL) (grd ((0 : Int) ≤ (bw (x3 + 2)) ∧ (bw (x3 + 2)) < LL) (grd ((0 : Int) ≤ (bw (x3 + 3)) ∧ (bw (x3 + 3)) < LL) (if (sx (bw (x3 + 3))) = 0 then fL_law_J376 sx LL (fL_law sx LL kI n) x3 (sx (bw (x3 + 2))) (sx (bw (x3 + 1))) 0 σ else fL_law_J376 sx LL (fL_law sx LL kI n) x3 (sx (bw (x3 + 2))) (sx (bw (x3 + 1))) 1 σ))) else if (band (sx x3) 63) = 5 then grd ((0 : Int) ≤ (bw (x3 + 1)) ∧ (bw (x3 + 1)) < LL) (grd ((0 : Int) ≤ (bw (x3 + 2)) ∧ (bw (x3 + 2)) < LL) (grd ((0 : Int) ≤ (bw (x3 + 3)) ∧ (bw (x3 + 3)) < LL) ((fX10_vow (sx (bw (x3 + 1))) (sx (bw (x3 + 2))) (sx (bw (x3 + 3))) σ).bind fun q25 => grd ((0 : Int) ≤ (bw (x3 + 1)) ∧ (bw (x3 + 1)) < LL) (grd ((0 : Int) ≤ (bw (x3 + 2)) ∧ (bw (x3 + 2)) < LL) (grd ((0 : Int) ≤ (bw (x3 + 3)) ∧ (bw (x3 + 3)) < LL) ((fX11_vow (sx (bw (x3 + 1))) (sx (bw (x3 + 2))) (sx (bw (x3 + 3))) q25.2).bind fun q26 => if q25.1 = q26.1 then fL_law sx LL kI n (bw (x3 + 6)) q26.2 else none)))))) else if (band (sx x3) 63) = 6 then grd ((0 : Int) ≤ (bw (x3 + 1)) ∧ (bw (x3 + 1)) < LL) (grd ((0 : Int) ≤ (bw (x3 + 2)) ∧ (bw (x3 + 2)) < LL) ((fX10_part (sx (bw (x3 + 1))) (sx (bw (x3 + 2))) σ).bind fun q29 => grd ((0 : Int) ≤ (bw (x3 + 1)) ∧ (bw (x3 + 1)) < LL) (grd ((0 : Int) ≤ (bw (x3 + 2)) ∧ (bw (x3 + 2)) < LL) ((fX11_part (sx (bw (x3 + 1))) (sx (bw (x3 + 2))) q29.2).bind fun q30 => if q29.1 = q30.1 then fL_law sx LL kI n (bw (x3 + 6)) q30.2 else none)))) else if (band (sx x3) 63) = 7 then grd ((0 : Int) ≤ (bw (x3 + 1)) ∧ (bw (x3 + 1)) < LL) ((fX10_sweep (sx (bw (x3 + 1))) σ).bind fun q33 => grd ((0 : Int) ≤ (bw (x3 + 1)) ∧ (bw (x3 + 1)) < LL) ((fX11_sweep (sx (bw (x3 + 1))) q33.2).bind fun q34 => if q33.1 = q34.1 then fL_law sx LL kI n (bw (x3 + 6)) q34.2 else none)) else if (band (sx x3) 63) = 8 then grd ((0 : Int) ≤ (bw (x3 + 1)) ∧ (bw (x3 + 1)) < LL) ((fX10_days (sx (bw (x3 + 1))) σ).bind fun q37 => grd ((0 : Int) ≤ (bw (x3 + 1)) ∧ (bw (x3 + 1)) < LL) ((fX11_days (sx (bw (x3 + 1))) q37.2).bind fun q38 => if q37.1 = q38.1 then fL_law sx LL kI n (bw (x3 + 6)) q38.2 else none)) else if (band (sx x3) 63) = 9 then grd ((0 : Int) ≤ (bw (x3 + 1)) ∧ (bw (x3 + 1)) < LL) (grd ((0 : Int) ≤ (bw (x3 + 2)) ∧ (bw (x3 + 2)) < LL) (grd ((0 : Int) ≤ (bw (x3 + 3)) ∧ (bw (x3 + 3)) < LL) (grd ((0 : Int) ≤ (bw (x3 + 4)) ∧ (bw (x3 + 4)) < LL) (grd ((0 : Int) ≤ (bw (x3 + 5)) ∧ (bw (x3 + 5)) < LL) ((fX10_feed (sx (bw (x3 + 1))) (sx (bw (x3 + 2))) (sx (bw (x3 + 3))) (sx (bw (x3 + 4))) (sx (bw (x3 + 5))) σ).bind fun q41 => grd ((0 : Int) ≤ (bw (x3 + 1)) ∧ (bw (x3 + 1)) < LL) (grd ((0 : Int) ≤ (bw (x3 + 2)) ∧ (bw (x3 + 2)) < LL) (grd ((0 : Int) ≤ (bw (x3 + 3)) ∧ (bw (x3 + 3)) < LL) (grd ((0 : Int) ≤ (bw (x3 + 4)) ∧ (bw (x3 + 4)) < LL) (grd ((0 : Int) ≤ (bw (x3 + 5)) ∧ (bw (x3 + 5)) < LL) ((fX11_feed (sx (bw (x3 + 1))) (sx (bw (x3 + 2))) (sx (bw (x3 + 3))) (sx (bw (x3 + 4))) (sx (bw (x3 + 5))) q41.2).bind fun q42 => if q41.1 = q42.1 then fL_law sx LL kI n (bw (x3 + 6)) q42.2 else none)))))))))) else if (band (sx x3) 63) = 10 then grd ((0 : Int) ≤ (bw (x3 + 1)) ∧ (bw (x3 + 1)) < LL) ((fX10_end (sx (bw (x3 + 1))) σ).bind fun q45 => grd ((0 : Int) ≤ (bw (x3 + 1)) ∧ (bw (x3 + 1)) < LL) ((fX11_end (sx (bw (x3 + 1))) q45.2).bind fun q46 => if q45.1 = q46.1 then fL_law sx LL kI n (bw (x3 + 6)) q46.2 else none)) else if (band (sx x3) 63) = 11 then grd ((0 : Int) ≤ (bw (x3 + 1)) ∧ (bw (x3 + 1)) < LL) ((fX10_text (sx (bw (x3 + 1))) σ).bind fun q49 => grd ((0 : Int) ≤ (bw (x3 + 1)) ∧ (bw (x3 + 1)) < LL) ((fX11_text (sx (bw (x3 + 1))) q49.2).bind fun q50 => if q49.1 = q50.1 then fL_law sx LL kI n (bw (x3 + 6)) q50.2 else none)) else if (band (sx x3) 63) = 12 then grd ((0 : Int) ≤ (bw (x3 + 1)) ∧ (bw (x3 + 1)) < LL) (grd ((0 : Int) ≤ (bw (x3 + 1)) ∧ (bw (x3 + 1)) < LL) (if (fX10_fault (sx (bw (x3 + 1))) σ) = (fX11_fault (sx (bw (x3 + 1))) σ) then fL_law sx LL kI n (bw (x3 + 6)) σ else none)) else if (band (sx x3) 63) = 13 then grd ((0 : Int) ≤ (bw (x3 + 1)) ∧ (bw (x3 + 1)) < LL) (grd ((0 : Int) ≤ (bw (x3 + 2)) ∧ (bw (x3 + 2)) < LL) ((fX10_of (sx (bw (x3 + 1))) (sx (bw (x3 + 2))) σ).bind fun r57 => grd ((0 : Int) ≤ (bw (x3 + 1)) ∧ (bw (x3 + 1)) < LL) (grd ((0 : Int) ≤ (bw (x3 + 2)) ∧ (bw (x3 + 2)) < LL) ((fX11_of (sx (bw (x3 + 1))) (sx (bw (x3 + 2))) σ).bind fun r58 => if r57 = r58 then fL_law sx LL kI n (bw (x3 + 6)) σ else none)))) else if (band (sx x3) 63) = 14 then grd ((0 : Int) ≤ (bw (x3 + 1)) ∧ (bw (x3 + 1)) < LL) (grd ((0 : Int) ≤ (bw (x3 + 2)) ∧ (bw (x3 + 2)) < LL) (grd ((0 : Int) ≤ (bw (x3 + 3)) ∧ (bw (x3 + 3)) < LL) (if (sx (bw (x3 + 3))) = 0 then fL_law_J722 sx LL (fL_law sx LL kI n) x3 (sx (bw (x3 + 2))) (sx (bw (x3 + 1))) 0 σ else fL_law_J722 sx LL (fL_law sx LL kI n) x3 (sx (bw (x3 + 2))) (sx (bw (x3 + 1))) 1 σ))) else if (band (sx x3) 63) = 15 then grd ((0 : Int) ≤ (bw (x3 + 1)) ∧ (bw (x3 + 1)) < LL) (grd ((0 : Int) ≤ (bw (x3 + 2)) ∧ (bw (x3 + 2)) < LL) ((fX10_at (sx (bw (x3 + 1))) (sx (bw (x3 + 2))) σ).bind fun q67 => grd ((0 : Int) ≤ (bw (x3 + 1)) ∧ (bw (x3 + 1)) < LL) (grd ((0 : Int) ≤ (bw (x3 + 2)) ∧ (bw (x3 + 2)) < LL) ((fX11_at (sx (bw (x3 + 1))) (sx (bw (x3 + 2))) q67.2).bind fun q68 => if q67.1 = q68.1 then fL_law sx LL kI n (bw (x3 + 6)) q68.2 else none)))) else if (band (sx x3) 63) = 16 then grd ((0 : Int) ≤ (bw (x3 + 1)) ∧ (bw (x3 + 1)) < LL) (grd ((0 : Int) ≤ (bw (x3 + 2)) ∧ (bw (x3 + 2)) < LL) (grd ((0 : Int) ≤ (bw (x3 + 3)) ∧ (bw (x3 + 3)) < LL) (grd ((0 : Int) ≤ (bw (x3 + 4)) ∧ (bw (x3 + 4)) < LL) ((fX10_lift (sx (bw (x3 + 1))) (sx (bw (x3 + 2))) (sx (bw (x3 + 3))) (sx (bw (x3 + 4))) σ).bind fun q71 => grd ((0 : Int) ≤ (bw (x3 + 1)) ∧ (bw (x3 + 1)) < LL) (grd ((0 : Int) ≤ (bw (x3 + 2)) ∧ (bw (x3 + 2)) < LL) (grd ((0 : Int) ≤ (bw (x3 + 3)) ∧ (bw (x3 + 3)) < LL) (grd ((0 : Int) ≤ (bw (x3 + 4)) ∧ (bw (x3 + 4)) < LL) ((fX11_lift (sx (bw (x3 + 1))) (sx (bw (x3 + 2))) (sx (bw (x3 + 3))) (sx (bw (x3 + 4))) q71.2).bind fun q72 => if q71.1 = q72.1 then fL_law sx LL kI n (bw (x3 + 6)) q72.2 else none)))))))) else if (band (sx x3) 63) = 17 then grd ((0 : Int) ≤ (bw (x3 + 1)) ∧ (bw (x3 + 1)) < LL) ((fX10_weather (sx (bw (x3 + 1))) σ).bind fun r75 => grd ((0 : Int) ≤ (bw (x3 + 1)) ∧ (bw (x3 + 1)) < LL) ((fX11_weather (sx (bw (x3 + 1))) σ).bind fun r76 => if r75 = r76 then fL_law sx LL kI n (bw (x3 + 6)) σ else none)) else if (band (sx x3) 63) = 18 then grd ((0 : Int) ≤ (bw (x3 + 1)) ∧ (bw (x3 + 1)) < LL) (grd ((0 : Int) ≤ (bw (x3 + 2)) ∧ (bw (x3 + 2)) < LL) ((fX10_book (sx (bw (x3 + 1))) (sx (bw (x3 + 2))) σ).bind fun r79 => grd ((0 : Int) ≤ (bw (x3 + 1)) ∧ (bw (x3 + 1)) < LL) (grd ((0 : Int) ≤ (bw (x3 + 2)) ∧ (bw (x3 + 2)) < LL) ((fX11_book (sx (bw (x3 + 1))) (sx (bw (x3 + 2))) σ).bind fun r80 => if r79 = r80 then fL_law sx LL kI n (bw (x3 + 6)) σ else none)))) else if (band (sx x3) 63) = 19 then grd ((0 : Int) ≤ (bw (x3 + 1)) ∧ (bw (x3 + 1)) < LL) (grd ((0 : Int) ≤ (bw (x3 + 2)) ∧ (bw (x3 + 2)) < LL) ((fX10_lies (sx (bw (x3 + 1))) (sx (bw (x3 + 2))) σ).bind fun q83 => grd ((0 : Int) ≤ (bw (x3 + 1)) ∧ (bw (x3 + 1)) < LL) (grd ((0 : Int) ≤ (bw (x3 + 2)) ∧ (bw (x3 + 2)) < LL) ((fX11_lies (sx (bw (x3 + 1))) (sx (bw (x3 + 2))) q83.2).bind fun q84 => if q83.1 = q84.1 then fL_law sx LL kI n (bw (x3 + 6)) q84.2 else none)))) else if (band (sx x3) 63) = 20 then grd ((0 : Int) ≤ (bw (x3 + 1)) ∧ (bw (x3 + 1)) < LL) ((fX10_meets (sx (bw (x3 + 1))) σ).bind fun q87 => grd ((0 : Int) ≤ (bw (x3 + 1)) ∧ (bw (x3 + 1)) < LL) ((fX11_meets (sx (bw (x3 + 1))) q87.2).bind fun q88 => if q87.1 = q88.1 then fL_law sx LL kI n (bw (x3 + 6)) q88.2 else none)) else if (band (sx x3) 63) = 21 then grd ((0 : Int) ≤ (bw (x3 + 1)) ∧ (bw (x3 + 1)) < LL) ((fX10_stable (sx (bw (x3 + 1))) σ).bind fun q91 => grd ((0 : Int) ≤ (bw (x3 + 1)) ∧ (bw (x3 + 1)) < LL) ((fX11_stable (sx (bw (x3 + 1))) q91.2).bind fun q92 => if q91.1 = q92.1 then fL_law sx LL kI n (bw (x3 + 6)) q92.2 else none)) else if (band (sx x3) 63) = 22 then grd ((0 : Int) ≤ (bw (x3 + 1)) ∧ (bw (x3 + 1)) < LL) ((fX10_best (sx (bw (x3 + 1))) σ).bind fun q95 => grd ((0 : Int) ≤ (bw (x3 + 1)) ∧ (bw (x3 + 1)) < LL) ((fX11_best (sx (bw (x3 + 1))) q95.2).bind fun q96 => if q95.1 = q96.1 then fL_law sx LL kI n (bw (x3 + 6)) q96.2 else none)) else if (band (sx x3) 63) = 23 then grd ((0 : Int) ≤ (bw (x3 + 1)) ∧ (bw (x3 + 1)) < LL) (grd ((0 : Int) ≤ (bw (x3 + 2)) ∧ (bw (x3 + 2)) < LL) ((fX10_bares (sx (bw (x3 + 1))) (sx (bw (x3 + 2))) σ).bind fun q99 => grd ((0 : Int) ≤ (bw (x3 + 1)) ∧ (bw (x3 + 1)) < LL) (grd ((0 : Int) ≤ (bw (x3 + 2)) ∧ (bw (x3 + 2)) < LL) ((fX11_bares (sx (bw (x3 + 1))) (sx (bw (x3 + 2))) q99.2).bind fun q100 => if q99.1 = q100.1 then fL_law sx LL kI n (bw (x3 + 6)) q100.2 else none)))) else if (band (sx x3) 63) = 24 then grd ((0 : Int) ≤ (bw (x3 + 1)) ∧ (bw (x3 + 1)) < LL) (grd ((0 : Int) ≤ (bw (x3 + 2)) ∧ (bw (x3 + 2)) < LL) (grd ((0 : Int) ≤ (bw (x3 + 3)) ∧ (bw (x3 + 3)) < LL) (if (sx (bw (x3 + 3))) = 0 then fL_law_J1058 sx LL (fL_law sx LL kI n) x3 (sx (bw (x3 + 2))) (sx (bw (x3 + 1))) 0 σ else fL_law_J1058 sx LL (fL_law sx LL kI n) x3 (sx (bw (x3 + 2))) (sx (bw (x3 + 1))) 1 σ))) else if (band (sx x3) 63) = 25 then grd ((0 : Int) ≤ (bw (x3 + 1)) ∧ (bw (x3 + 1)) < LL) ((fX10_who (sx (bw (x3 + 1))) σ).bind fun q109 => grd ((0 : Int) ≤ (bw (x3 + 1)) ∧ (bw (x3 + 1)) < LL) ((fX11_who (sx (bw (x3 + 1))) q109.2).bind fun q110 => if q109.1 = q110.1 then fL_law sx LL kI n (bw (x3 + 6)) q110.2 else none)) else if (band (sx x3) 63) = 26 then grd ((0 : Int) ≤ (bw (x3 + 1)) ∧ (bw (x3 + 1)) < LL) ((fX10_ask (sx (bw (x3 + 1))) σ).bind fun q113 => grd ((0 : Int) ≤ (bw (x3 + 1)) ∧ (bw (x3 + 1)) < LL) ((fX11_ask (sx (bw (x3 + 1))) q113.2).bind fun q114 => if q113.1 = q114.1 then fL_law sx LL kI n (bw (x3 + 6)) q114.2 else none)) else if (band (sx x3) 63) = 27 then grd ((0 : Int) ≤ (bw (x3 + 1)) ∧ (bw (x3 + 1)) < LL) (grd ((0 : Int) ≤ (bw (x3 + 2)) ∧ (bw (x3 + 2)) < LL) (grd ((0 : Int) ≤ (bw (x3 + 1)) ∧ (bw (x3 + 1)) < LL) (grd ((0 : Int) ≤ (bw (x3 + 2)) ∧ (bw (x3 + 2)) < LL) (if (fX10_fans (sx (bw (x3 + 1))) (sx (bw (x3 + 2)))) = (fX11_fans (sx (bw (x3 + 1))) (sx (bw (x3 + 2)))) then fL_law sx LL kI n (bw (x3 + 6)) σ else none)))) else if (band (sx x3) 63) = 28 then grd ((0 : Int) ≤ (bw (x3 + 1)) ∧ (bw (x3 + 1)) < LL) (grd ((0 : Int) ≤ (bw (x3 + 2)) ∧ (bw (x3 + 2)) < LL) ((fX10_safe (sx (bw (x3 + 1))) (sx (bw (x3 + 2))) σ).bind fun q121 => grd ((0 : Int) ≤ (bw (x3 + 1)) ∧ (bw (x3 + 1)) < LL) (grd ((0 : Int) ≤ (bw (x3 + 2)) ∧ (bw (x3 + 2)) < LL) ((fX11_safe (sx (bw (x3 + 1))) (sx (bw (x3 + 2))) q121.2).bind fun q122 => if q121.1 = q122.1 then fL_law sx LL kI n (bw (x3 + 6)) q122.2 else none)))) else if (band (sx x3) 63) = 29 then grd ((0 : Int) ≤ (bw (x3 + 1)) ∧ (bw (x3 + 1)) < LL) (grd ((0 : Int) ≤ (bw (x3 + 2)) ∧ (bw (x3 + 2)) < LL) ((fX10_cut (sx (bw (x3 + 1))) (sx (bw (x3 + 2))) σ).bind fun q125 => grd ((0 : Int) ≤ (bw (x3 + 1)) ∧ (bw (x3 + 1)) < LL) (grd ((0 : Int) ≤ (bw (x3 + 2)) ∧ (bw (x3 + 2)) < LL) ((fX11_cut (sx (bw (x3 + 1))) (sx (bw (x3 + 2))) q125.2).bind fun q126 => if q125.1 = q126.1 then fL_law sx LL kI n (bw (x3 + 6)) q126.2 else none)))) else if (band (sx x3) 63) = 30 then grd ((0 : Int) ≤ (bw (x3 + 1)) ∧ (bw (x3 + 1)) < LL) ((fX10_rounds (sx (bw (x3 + 1))) σ).bind fun q129 => grd ((0 : Int) ≤ (bw (x3 + 1)) ∧ (bw (x3 + 1)) < LL) ((fX11_rounds (sx (bw (x3 + 1))) q129.2).bind fun q130 => if q129.1 = q130.1 then fL_law sx LL kI n (bw (x3 + 6)) q130.2 else none)) else if (band (sx x3) 63) = 31 then grd ((0 : Int) ≤ (bw (x3 + 1)) ∧ (bw (x3 + 1)) < LL) (grd ((0 : Int) ≤ (bw (x3 + 2)) ∧ (bw (x3 + 2)) < LL) ((fX10_comes (sx (bw (x3 + 1))) (sx (bw (x3 + 2))) σ).bind fun q133 => grd ((0 : Int) ≤ (bw (x3 + 1)) ∧ (bw (x3 + 1)) < LL) (grd ((0 : Int) ≤ (bw (x3 + 2)) ∧ (bw (x3 + 2)) < LL) ((fX11_comes (sx (bw (x3 + 1))) (sx (bw (x3 + 2))) q133.2).bind fun q134 => if q133.1 = q134.1 then fL_law sx LL kI n (bw (x3 + 6)) q134.2 else none)))) else if (band (sx x3) 63) = 32 then (fX10_asks σ).bind fun r137 => (fX11_asks σ).bind fun r138 => if r137 = r138 then fL_law sx LL kI n (bw (x3 + 6)) σ else none else if (band (sx x3) 63) = 33 then grd ((0 : Int) ≤ (bw (x3 + 1)) ∧ (bw (x3 + 1)) < LL) ((fX10_tribe (sx (bw (x3 + 1))) σ).bind fun r141 => grd ((0 : Int) ≤ (bw (x3 + 1)) ∧ (bw (x3 + 1)) < LL) ((fX11_tribe (sx (bw (x3 + 1))) σ).bind fun r142 => if r141 = r142 then fL_law sx LL kI n (bw (x3 + 6)) σ else none)) else if (band (sx x3) 63) = 34 then grd ((0 : Int) ≤ (bw (x3 + 1)) ∧ (bw (x3 + 1)) < LL) ((fX10_hopes (sx (bw (x3 + 1))) σ).bind fun r145 => grd ((0 : Int) ≤ (bw (x3 + 1)) ∧ (bw (x3 + 1)) < LL) ((fX11_hopes (sx (bw (x3 + 1))) σ).bind fun r146 => if r145 = r146 then fL_law sx LL kI n (bw (x3 + 6)) σ else none)) else if (band (sx x3) 63) = 35 then (fX10_undo σ).bind fun q149 => (fX11_undo q149.2).bind fun q150 => if q149.1 = q150.1 then fL_law sx LL kI n (bw (x3 + 6)) q150.2 else none else if (band (sx x3) 63) = 36 then kI (fL_law sx LL kI n) x3 σ else if (band (sx x3) 63) = 37 then grd ((0 : Int) ≤ (bw (x3 + 1)) ∧ (bw (x3 + 1)) < LL) ((fX10_look (sx (bw (x3 + 1))) σ).bind fun r154 => grd ((0 : Int) ≤ (bw (x3 + 1)) ∧ (bw (x3 + 1)) < LL) ((fX11_look (sx (bw (x3 + 1))) σ).bind fun r155 => if r154 = r155 then fL_law sx LL kI n (bw (x3 + 6)) σ else none)) else fL_law sx LL kI n (bw (x3 + 6)) σ)
set_option maxHeartbeats 8000000 in
set_option maxRecDepth 40000 in
theorem JL_law_J403 {X : Cx} {ads : List Nat} {sk : List Sk} {kc nc : Nat} {EX : EXT} (hA : ads.length = sk.length ∧ sk.length ≤ 1000) (hk : kc ≤ 600000 ∧ nc ≤ 7302250) {kp : Option Nat} (hp1 : ocS sk kp) (hp2 : ocM sk) {sx : Int → Int} {LL : Int} (hX : scrOK X EX sx LL) (x3 : Int) (z0 : Int) (z1 : Int) (z2 : Int) (k18 : Int → Sg → Option (Unit)) (hk18 : ∀ (x3 : Int) (σ : Sg), jL X kc nc EX ads sk (18, [some (.inr (some 12000)), some (.inr (some 0)), some (.inr (some 84)), some (.inl x3)], [], σ) (k18 x3 σ)) (y0 : Int) (σ : Sg) : jL X kc nc EX ads sk (403, [some (.inr (some 12000)), some (.inr (some 0)), some (.inr (some 84)), some (.inl x3)], [.inl y0, .inl z0, .inl z1, .inr (some 84), .inl z2], σ) (fL_law_J403 sx LL k18 x3 z0 z1 z2 y0 σ) := by
  unfold fL_law_J403
  refine j_cv 191 9 3 rfl rfl mwX11_kin hp2.1 rfl rfl (eX11_kin hA hp2 z1 z0 y0 _) rfl rfl (rokL hk rfl rfl) (Nat.le_of_ble_eq_true rfl) (fun q20 _ h20 => ?_)
  refine jc_icmp_eq 192 rfl rfl (fun h21 => ?_) (fun h21 => ?_)
  · refine j_run 990 1 rfl ?_
    refine j_goto 991 rfl rfl ?_
    exact j_weak (leP_s (leP_s (leP_s (leP_s (leP_z))))) (hk18 (bw (x3 + 6)) _)
  · refine j_run 193 1 rfl ?_
    exact j_none
set_option maxHeartbeats 8000000 in
set_option maxRecDepth 40000 in
theorem JL_law_J376 {X : Cx} {ads : List Nat} {sk : List Sk} {kc nc : Nat} {EX : EXT} (hA : ads.length = sk.length ∧ sk.length ≤ 1000) (hk : kc ≤ 600000 ∧ nc ≤ 7302250) {kp : Option Nat} (hp1 : ocS sk kp) (hp2 : ocM sk) {sx : Int → Int} {LL : Int} (hX : scrOK X EX sx LL) (x3 : Int) (z0 : Int) (z1 : Int) (k18 : Int → Sg → Option (Unit)) (hk18 : ∀ (x3 : Int) (σ : Sg), jL X kc nc EX ads sk (18, [some (.inr (some 12000)), some (.inr (some 0)), some (.inr (some 84)), some (.inl x3)], [], σ) (k18 x3 σ)) (y0 : Int) (σ : Sg) : jL X kc nc EX ads sk (376, [some (.inr (some 12000)), some (.inr (some 0)), some (.inr (some 84)), some (.inl x3)], [.inl y0, .inl z0, .inl z1, .inr (some 0)], σ) (fL_law_J376 sx LL k18 x3 z0 z1 y0 σ) := by
  unfold fL_law_J376
  refine j_cv 170 8 3 rfl rfl mwX10_kin hp1.1 rfl rfl (eX10_kin hA hp1 z1 z0 y0 _) rfl rfl (rokL hk rfl rfl) (Nat.le_of_ble_eq_true rfl) (fun q19 _ h19 => ?_)
  refine j_run 171 5 rfl ?_
  refine j_scr 176 rfl hX ?_
  refine j_run 177 4 rfl ?_
  refine j_scr 181 rfl hX ?_
  refine j_run 182 4 rfl ?_
  refine j_scr 186 rfl hX ?_
  refine jc_if_eq 187 rfl rfl (fun h22 => ?_) (fun h22 => ?_)
  · refine j_run 190 1 rfl ?_
    exact j_weak (leP_s (leP_s (leP_s (leP_s (leP_z))))) (JL_law_J403 hA hk hp1 hp2 hX x3 (sx (bw (x3 + 2))) (sx (bw (x3 + 1))) q19.1 _ hk18 0 _)
  · refine j_run 188 1 rfl ?_
    refine j_goto 189 rfl rfl ?_
    exact j_weak (leP_s (leP_s (leP_s (leP_s (leP_z))))) (JL_law_J403 hA hk hp1 hp2 hX x3 (sx (bw (x3 + 2))) (sx (bw (x3 + 1))) q19.1 _ hk18 1 _)
set_option maxHeartbeats 8000000 in
set_option maxRecDepth 40000 in
theorem JL_law_J749 {X : Cx} {ads : List Nat} {sk : List Sk} {kc nc : Nat} {EX : EXT} (hA : ads.length = sk.length ∧ sk.length ≤ 1000) (hk : kc ≤ 600000 ∧ nc ≤ 7302250) {kp : Option Nat} (hp1 : ocS sk kp) (hp2 : ocM sk) {sx : Int → Int} {LL : Int} (hX : scrOK X EX sx LL) (x3 : Int) (z0 : Int) (z1 : Int) (z2 : Int) (k18 : Int → Sg → Option (Unit)) (hk18 : ∀ (x3 : Int) (σ : Sg), jL X kc nc EX ads sk (18, [some (.inr (some 12000)), some (.inr (some 0)), some (.inr (some 84)), some (.inl x3)], [], σ) (k18 x3 σ)) (y0 : Int) (σ : Sg) : jL X kc nc EX ads sk (749, [some (.inr (some 12000)), some (.inr (some 0)), some (.inr (some 84)), some (.inl x3)], [.inl y0, .inl z0, .inl z1, .inr (some 84), .inl z2], σ) (fL_law_J749 sx LL k18 x3 z0 z1 z2 y0 σ) := by
  unfold fL_law_J749
  refine j_cv 469 29 3 rfl rfl mwX11_match hp2.1 rfl rfl (eX11_match hA hp2 z1 z0 y0 _) rfl rfl (rokL hk rfl rfl) (Nat.le_of_ble_eq_true rfl) (fun q62 _ h62 => ?_)
  refine jc_icmp_eq 470 rfl rfl (fun h63 => ?_) (fun h63 => ?_)
  · refine j_run 990 1 rfl ?_
    refine j_goto 991 rfl rfl ?_
    exact j_weak (leP_s (leP_s (leP_s (leP_s (leP_z))))) (hk18 (bw (x3 + 6)) _)
  · refine j_run 471 1 rfl ?_
    exact j_none
set_option maxHeartbeats 8000000 in
set_option maxRecDepth 40000 in
theorem JL_law_J722 {X : Cx} {ads : List Nat} {sk : List Sk} {kc nc : Nat} {EX : EXT} (hA : ads.length = sk.length ∧ sk.length ≤ 1000) (hk : kc ≤ 600000 ∧ nc ≤ 7302250) {kp : Option Nat} (hp1 : ocS sk kp) (hp2 : ocM sk) {sx : Int → Int} {LL : Int} (hX : scrOK X EX sx LL) (x3 : Int) (z0 : Int) (z1 : Int) (k18 : Int → Sg → Option (Unit)) (hk18 : ∀ (x3 : Int) (σ : Sg), jL X kc nc EX ads sk (18, [some (.inr (some 12000)), some (.inr (some 0)), some (.inr (some 84)), some (.inl x3)], [], σ) (k18 x3 σ)) (y0 : Int) (σ : Sg) : jL X kc nc EX ads sk (722, [some (.inr (some 12000)), some (.inr (some 0)), some (.inr (some 84)), some (.inl x3)], [.inl y0, .inl z0, .inl z1, .inr (some 0)], σ) (fL_law_J722 sx LL k18 x3 z0 z1 y0 σ) := by
  unfold fL_law_J722
  refine j_cv 448 28 3 rfl rfl mwX10_match hp1.1 rfl rfl (eX10_match hA hp1 z1 z0 y0 _) rfl rfl (rokL hk rfl rfl) (Nat.le_of_ble_eq_true rfl) (fun q61 _ h61 => ?_)
  refine j_run 449 5 rfl ?_
  refine j_scr 454 rfl hX ?_
  refine j_run 455 4 rfl ?_
  refine j_scr 459 rfl hX ?_
  refine j_run 460 4 rfl ?_
  refine j_scr 464 rfl hX ?_
  refine jc_if_eq 465 rfl rfl (fun h64 => ?_) (fun h64 => ?_)
  · refine j_run 468 1 rfl ?_
    exact j_weak (leP_s (leP_s (leP_s (leP_s (leP_z))))) (JL_law_J749 hA hk hp1 hp2 hX x3 (sx (bw (x3 + 2))) (sx (bw (x3 + 1))) q61.1 _ hk18 0 _)
  · refine j_run 466 1 rfl ?_
    refine j_goto 467 rfl rfl ?_
    exact j_weak (leP_s (leP_s (leP_s (leP_s (leP_z))))) (JL_law_J749 hA hk hp1 hp2 hX x3 (sx (bw (x3 + 2))) (sx (bw (x3 + 1))) q61.1 _ hk18 1 _)
set_option maxHeartbeats 8000000 in
set_option maxRecDepth 40000 in
theorem JL_law_J1085 {X : Cx} {ads : List Nat} {sk : List Sk} {kc nc : Nat} {EX : EXT} (hA : ads.length = sk.length ∧ sk.length ≤ 1000) (hk : kc ≤ 600000 ∧ nc ≤ 7302250) {kp : Option Nat} (hp1 : ocS sk kp) (hp2 : ocM sk) {sx : Int → Int} {LL : Int} (hX : scrOK X EX sx LL) (x3 : Int) (z0 : Int) (z1 : Int) (z2 : Int) (k18 : Int → Sg → Option (Unit)) (hk18 : ∀ (x3 : Int) (σ : Sg), jL X kc nc EX ads sk (18, [some (.inr (some 12000)), some (.inr (some 0)), some (.inr (some 84)), some (.inl x3)], [], σ) (k18 x3 σ)) (y0 : Int) (σ : Sg) : jL X kc nc EX ads sk (1085, [some (.inr (some 12000)), some (.inr (some 0)), some (.inr (some 84)), some (.inl x3)], [.inl y0, .inl z0, .inl z1, .inr (some 84), .inl z2], σ) (fL_law_J1085 sx LL k18 x3 z0 z1 z2 y0 σ) := by
  unfold fL_law_J1085
  refine j_cv 737 49 3 rfl rfl mwX11_stir hp2.1 rfl rfl (eX11_stir hA hp2 z1 z0 y0 _) rfl rfl (rokL hk rfl rfl) (Nat.le_of_ble_eq_true rfl) (fun q104 _ h104 => ?_)
  refine jc_icmp_eq 738 rfl rfl (fun h105 => ?_) (fun h105 => ?_)
  · refine j_run 990 1 rfl ?_
    refine j_goto 991 rfl rfl ?_
    exact j_weak (leP_s (leP_s (leP_s (leP_s (leP_z))))) (hk18 (bw (x3 + 6)) _)
  · refine j_run 739 1 rfl ?_
    exact j_none
set_option maxHeartbeats 8000000 in
set_option maxRecDepth 40000 in
theorem JL_law_J1058 {X : Cx} {ads : List Nat} {sk : List Sk} {kc nc : Nat} {EX : EXT} (hA : ads.length = sk.length ∧ sk.length ≤ 1000) (hk : kc ≤ 600000 ∧ nc ≤ 7302250) {kp : Option Nat} (hp1 : ocS sk kp) (hp2 : ocM sk) {sx : Int → Int} {LL : Int} (hX : scrOK X EX sx LL) (x3 : Int) (z0 : Int) (z1 : Int) (k18 : Int → Sg → Option (Unit)) (hk18 : ∀ (x3 : Int) (σ : Sg), jL X kc nc EX ads sk (18, [some (.inr (some 12000)), some (.inr (some 0)), some (.inr (some 84)), some (.inl x3)], [], σ) (k18 x3 σ)) (y0 : Int) (σ : Sg) : jL X kc nc EX ads sk (1058, [some (.inr (some 12000)), some (.inr (some 0)), some (.inr (some 84)), some (.inl x3)], [.inl y0, .inl z0, .inl z1, .inr (some 0)], σ) (fL_law_J1058 sx LL k18 x3 z0 z1 y0 σ) := by
  unfold fL_law_J1058
  refine j_cv 716 48 3 rfl rfl mwX10_stir hp1.1 rfl rfl (eX10_stir hA hp1 z1 z0 y0 _) rfl rfl (rokL hk rfl rfl) (Nat.le_of_ble_eq_true rfl) (fun q103 _ h103 => ?_)
  refine j_run 717 5 rfl ?_
  refine j_scr 722 rfl hX ?_
  refine j_run 723 4 rfl ?_
  refine j_scr 727 rfl hX ?_
  refine j_run 728 4 rfl ?_
  refine j_scr 732 rfl hX ?_
  refine jc_if_eq 733 rfl rfl (fun h106 => ?_) (fun h106 => ?_)
  · refine j_run 736 1 rfl ?_
    exact j_weak (leP_s (leP_s (leP_s (leP_s (leP_z))))) (JL_law_J1085 hA hk hp1 hp2 hX x3 (sx (bw (x3 + 2))) (sx (bw (x3 + 1))) q103.1 _ hk18 0 _)
  · refine j_run 734 1 rfl ?_
    refine j_goto 735 rfl rfl ?_
    exact j_weak (leP_s (leP_s (leP_s (leP_s (leP_z))))) (JL_law_J1085 hA hk hp1 hp2 hX x3 (sx (bw (x3 + 2))) (sx (bw (x3 + 1))) q103.1 _ hk18 1 _)
set_option maxHeartbeats 8000000 in
set_option maxRecDepth 40000 in
theorem JL_law {X : Cx} {ads : List Nat} {sk : List Sk} {kc nc : Nat} {EX : EXT} (hA : ads.length = sk.length ∧ sk.length ≤ 1000) (hk : kc ≤ 600000 ∧ nc ≤ 7302250) {kp : Option Nat} (hp1 : ocS sk kp) (hp2 : ocM sk) {sx : Int → Int} {LL : Int} (hX : scrOK X EX sx LL) (kI : (Int → Sg → Option Unit) → Int → Sg → Option Unit) (hkI : ∀ rec : Int → Sg → Option Unit, (∀ (x3 : Int) (σ : Sg), jL X kc nc EX ads sk (18, [some (.inr (some 12000)), some (.inr (some 0)), some (.inr (some 84)), some (.inl x3)], [], σ) (rec x3 σ)) → ∀ (x3 : Int) (σ : Sg), jL X kc nc EX ads sk (1366, [some (.inr (some 12000)), some (.inr (some 0)), some (.inr (some 84)), some (.inl x3)], [], σ) (kI rec x3 σ)) : ∀ (n : Nat) (x3 : Int) (σ : Sg), jL X kc nc EX ads sk (18, [some (.inr (some 12000)), some (.inr (some 0)), some (.inr (some 84)), some (.inl x3)], [], σ) (fL_law sx LL kI n x3 σ) := by
  intro n
  induction n with
  | zero => intro x3 σ; exact j_none
  | succ n ih =>
    intro x3 σ
    rw [fL_law]
    refine j_run 10 2 rfl ?_
    refine j_slen 12 rfl hX ?_
    refine j_run 13 2 rfl ?_
    refine jc_icmp_gt 15 rfl rfl (fun h1 => ?_) (fun h1 => ?_)
    · refine j_run 992 1 rfl ?_
      exact j_lret 993 rfl hX hk
    · refine j_run 16 2 rfl ?_
      refine j_scr 18 rfl hX ?_
      refine j_run 19 2 rfl ?_
      refine jc_ite (fun h2 => ?_) (fun h2 => ?_)
      · refine j_tsIn 21 rfl h2 ⟨by decide, by decide⟩ rfl rfl ?_
        refine j_run 22 5 rfl ?_
        refine j_scr 27 rfl hX ?_
        refine j_cv 28 0 1 rfl rfl mwX10_state hp1.1 rfl rfl (eX10_state hA hp1 (sx (bw (x3 + 1))) _) rfl rfl (rokL hk rfl rfl) (Nat.le_of_ble_eq_true rfl) (fun q3 _ h3 => ?_)
        refine j_run 29 5 rfl ?_
        refine j_scr 34 rfl hX ?_
        refine j_cv 35 1 1 rfl rfl mwX11_state hp2.1 rfl rfl (eX11_state hA hp2 (sx (bw (x3 + 1))) _) rfl rfl (rokL hk rfl rfl) (Nat.le_of_ble_eq_true rfl) (fun q4 _ h4 => ?_)
        refine jc_icmp_eq 36 rfl rfl (fun h5 => ?_) (fun h5 => ?_)
        · refine j_run 990 1 rfl ?_
          refine j_goto 991 rfl rfl ?_
          exact j_weak (leP_s (leP_s (leP_s (leP_s (leP_z))))) (ih (bw (x3 + 6)) _)
        · refine j_run 37 1 rfl ?_
          exact j_none
      refine jc_ite (fun h6 => ?_) (fun h6 => ?_)
      · refine j_tsIn 21 rfl h6 ⟨by decide, by decide⟩ rfl rfl ?_
        refine j_run 39 5 rfl ?_
        refine j_scr 44 rfl hX ?_
        refine j_run 45 4 rfl ?_
        refine j_scr 49 rfl hX ?_
        refine j_cv 50 2 2 rfl rfl mwX10_valley hp1.1 rfl rfl (eX10_valley hA hp1 (sx (bw (x3 + 1))) (sx (bw (x3 + 2))) _) rfl rfl (rokL hk rfl rfl) (Nat.le_of_ble_eq_true rfl) (fun q7 _ h7 => ?_)
        refine j_run 51 5 rfl ?_
        refine j_scr 56 rfl hX ?_
        refine j_run 57 4 rfl ?_
        refine j_scr 61 rfl hX ?_
        refine j_cv 62 3 2 rfl rfl mwX11_valley hp2.1 rfl rfl (eX11_valley hA hp2 (sx (bw (x3 + 1))) (sx (bw (x3 + 2))) _) rfl rfl (rokL hk rfl rfl) (Nat.le_of_ble_eq_true rfl) (fun q8 _ h8 => ?_)
        refine jc_icmp_eq 63 rfl rfl (fun h9 => ?_) (fun h9 => ?_)
        · refine j_run 990 1 rfl ?_
          refine j_goto 991 rfl rfl ?_
          exact j_weak (leP_s (leP_s (leP_s (leP_s (leP_z))))) (ih (bw (x3 + 6)) _)
        · refine j_run 64 1 rfl ?_
          exact j_none
      refine jc_ite (fun h10 => ?_) (fun h10 => ?_)
      · refine j_tsIn 21 rfl h10 ⟨by decide, by decide⟩ rfl rfl ?_
        refine j_run 66 5 rfl ?_
        refine j_scr 71 rfl hX ?_
        refine j_run 72 4 rfl ?_
        refine j_scr 76 rfl hX ?_
        refine j_run 77 4 rfl ?_
        refine j_scr 81 rfl hX ?_
        refine j_run 82 4 rfl ?_
        refine j_scr 86 rfl hX ?_
        refine j_cv 87 4 4 rfl rfl mwX10_person hp1.1 rfl rfl (eX10_person hA hp1 (sx (bw (x3 + 1))) (sx (bw (x3 + 2))) (sx (bw (x3 + 3))) (sx (bw (x3 + 4))) _) rfl rfl (rokL hk rfl rfl) (Nat.le_of_ble_eq_true rfl) (fun q11 _ h11 => ?_)
        refine j_run 88 5 rfl ?_
        refine j_scr 93 rfl hX ?_
        refine j_run 94 4 rfl ?_
        refine j_scr 98 rfl hX ?_
        refine j_run 99 4 rfl ?_
        refine j_scr 103 rfl hX ?_
        refine j_run 104 4 rfl ?_
        refine j_scr 108 rfl hX ?_
        refine j_cv 109 5 4 rfl rfl mwX11_person hp2.1 rfl rfl (eX11_person hA hp2 (sx (bw (x3 + 1))) (sx (bw (x3 + 2))) (sx (bw (x3 + 3))) (sx (bw (x3 + 4))) _) rfl rfl (rokL hk rfl rfl) (Nat.le_of_ble_eq_true rfl) (fun q12 _ h12 => ?_)
        refine jc_icmp_eq 110 rfl rfl (fun h13 => ?_) (fun h13 => ?_)
        · refine j_run 990 1 rfl ?_
          refine j_goto 991 rfl rfl ?_
          exact j_weak (leP_s (leP_s (leP_s (leP_s (leP_z))))) (ih (bw (x3 + 6)) _)
        · refine j_run 111 1 rfl ?_
          exact j_none
      refine jc_ite (fun h14 => ?_) (fun h14 => ?_)
      · refine j_tsIn 21 rfl h14 ⟨by decide, by decide⟩ rfl rfl ?_
        refine j_run 113 5 rfl ?_
        refine j_scr 118 rfl hX ?_
        refine j_run 119 4 rfl ?_
        refine j_scr 123 rfl hX ?_
        refine j_run 124 4 rfl ?_
        refine j_scr 128 rfl hX ?_
        refine j_cv 129 6 3 rfl rfl mwX10_set hp1.1 rfl rfl (eX10_set hA hp1 (sx (bw (x3 + 1))) (sx (bw (x3 + 2))) (sx (bw (x3 + 3))) _) rfl rfl (rokL hk rfl rfl) (Nat.le_of_ble_eq_true rfl) (fun q15 _ h15 => ?_)
        refine j_run 130 5 rfl ?_
        refine j_scr 135 rfl hX ?_
        refine j_run 136 4 rfl ?_
        refine j_scr 140 rfl hX ?_
        refine j_run 141 4 rfl ?_
        refine j_scr 145 rfl hX ?_
        refine j_cv 146 7 3 rfl rfl mwX11_set hp2.1 rfl rfl (eX11_set hA hp2 (sx (bw (x3 + 1))) (sx (bw (x3 + 2))) (sx (bw (x3 + 3))) _) rfl rfl (rokL hk rfl rfl) (Nat.le_of_ble_eq_true rfl) (fun q16 _ h16 => ?_)
        refine jc_icmp_eq 147 rfl rfl (fun h17 => ?_) (fun h17 => ?_)
        · refine j_run 990 1 rfl ?_
          refine j_goto 991 rfl rfl ?_
          exact j_weak (leP_s (leP_s (leP_s (leP_s (leP_z))))) (ih (bw (x3 + 6)) _)
        · refine j_run 148 1 rfl ?_
          exact j_none
      refine jc_ite (fun h18 => ?_) (fun h18 => ?_)
      · refine j_tsIn 21 rfl h18 ⟨by decide, by decide⟩ rfl rfl ?_
        refine j_run 150 5 rfl ?_
        refine j_scr 155 rfl hX ?_
        refine j_run 156 4 rfl ?_
        refine j_scr 160 rfl hX ?_
        refine j_run 161 4 rfl ?_
        refine j_scr 165 rfl hX ?_
        refine jc_if_eq 166 rfl rfl (fun h23 => ?_) (fun h23 => ?_)
        · refine j_run 169 1 rfl ?_
          exact j_weak (leP_s (leP_s (leP_s (leP_s (leP_z))))) (JL_law_J376 hA hk hp1 hp2 hX x3 (sx (bw (x3 + 2))) (sx (bw (x3 + 1))) _ ih 0 _)
        · refine j_run 167 1 rfl ?_
          refine j_goto 168 rfl rfl ?_
          exact j_weak (leP_s (leP_s (leP_s (leP_s (leP_z))))) (JL_law_J376 hA hk hp1 hp2 hX x3 (sx (bw (x3 + 2))) (sx (bw (x3 + 1))) _ ih 1 _)
      refine jc_ite (fun h24 => ?_) (fun h24 => ?_)
      · refine j_tsIn 21 rfl h24 ⟨by decide, by decide⟩ rfl rfl ?_
        refine j_run 195 5 rfl ?_
        refine j_scr 200 rfl hX ?_
        refine j_run 201 4 rfl ?_
        refine j_scr 205 rfl hX ?_
        refine j_run 206 4 rfl ?_
        refine j_scr 210 rfl hX ?_
        refine j_cv 211 10 3 rfl rfl mwX10_vow hp1.1 rfl rfl (eX10_vow hA hp1 (sx (bw (x3 + 1))) (sx (bw (x3 + 2))) (sx (bw (x3 + 3))) _) rfl rfl (rokL hk rfl rfl) (Nat.le_of_ble_eq_true rfl) (fun q25 _ h25 => ?_)
        refine j_run 212 5 rfl ?_
        refine j_scr 217 rfl hX ?_
        refine j_run 218 4 rfl ?_
        refine j_scr 222 rfl hX ?_
        refine j_run 223 4 rfl ?_
        refine j_scr 227 rfl hX ?_
        refine j_cv 228 11 3 rfl rfl mwX11_vow hp2.1 rfl rfl (eX11_vow hA hp2 (sx (bw (x3 + 1))) (sx (bw (x3 + 2))) (sx (bw (x3 + 3))) _) rfl rfl (rokL hk rfl rfl) (Nat.le_of_ble_eq_true rfl) (fun q26 _ h26 => ?_)
        refine jc_icmp_eq 229 rfl rfl (fun h27 => ?_) (fun h27 => ?_)
        · refine j_run 990 1 rfl ?_
          refine j_goto 991 rfl rfl ?_
          exact j_weak (leP_s (leP_s (leP_s (leP_s (leP_z))))) (ih (bw (x3 + 6)) _)
        · refine j_run 230 1 rfl ?_
          exact j_none
      refine jc_ite (fun h28 => ?_) (fun h28 => ?_)
      · refine j_tsIn 21 rfl h28 ⟨by decide, by decide⟩ rfl rfl ?_
        refine j_run 232 5 rfl ?_
        refine j_scr 237 rfl hX ?_
        refine j_run 238 4 rfl ?_
        refine j_scr 242 rfl hX ?_
        refine j_cv 243 12 2 rfl rfl mwX10_part hp1.1 rfl rfl (eX10_part hA hp1 (sx (bw (x3 + 1))) (sx (bw (x3 + 2))) _) rfl rfl (rokL hk rfl rfl) (Nat.le_of_ble_eq_true rfl) (fun q29 _ h29 => ?_)
        refine j_run 244 5 rfl ?_
        refine j_scr 249 rfl hX ?_
        refine j_run 250 4 rfl ?_
        refine j_scr 254 rfl hX ?_
        refine j_cv 255 13 2 rfl rfl mwX11_part hp2.1 rfl rfl (eX11_part hA hp2 (sx (bw (x3 + 1))) (sx (bw (x3 + 2))) _) rfl rfl (rokL hk rfl rfl) (Nat.le_of_ble_eq_true rfl) (fun q30 _ h30 => ?_)
        refine jc_icmp_eq 256 rfl rfl (fun h31 => ?_) (fun h31 => ?_)
        · refine j_run 990 1 rfl ?_
          refine j_goto 991 rfl rfl ?_
          exact j_weak (leP_s (leP_s (leP_s (leP_s (leP_z))))) (ih (bw (x3 + 6)) _)
        · refine j_run 257 1 rfl ?_
          exact j_none
      refine jc_ite (fun h32 => ?_) (fun h32 => ?_)
      · refine j_tsIn 21 rfl h32 ⟨by decide, by decide⟩ rfl rfl ?_
        refine j_run 259 5 rfl ?_
        refine j_scr 264 rfl hX ?_
        refine j_cv 265 14 1 rfl rfl mwX10_sweep hp1.1 rfl rfl (eX10_sweep hA hp1 (sx (bw (x3 + 1))) _) rfl rfl (rokL hk rfl rfl) (Nat.le_of_ble_eq_true rfl) (fun q33 _ h33 => ?_)
        refine j_run 266 5 rfl ?_
        refine j_scr 271 rfl hX ?_
        refine j_cv 272 15 1 rfl rfl mwX11_sweep hp2.1 rfl rfl (eX11_sweep hA hp2 (sx (bw (x3 + 1))) _) rfl rfl (rokL hk rfl rfl) (Nat.le_of_ble_eq_true rfl) (fun q34 _ h34 => ?_)
        refine jc_icmp_eq 273 rfl rfl (fun h35 => ?_) (fun h35 => ?_)
        · refine j_run 990 1 rfl ?_
          refine j_goto 991 rfl rfl ?_
          exact j_weak (leP_s (leP_s (leP_s (leP_s (leP_z))))) (ih (bw (x3 + 6)) _)
        · refine j_run 274 1 rfl ?_
          exact j_none
      refine jc_ite (fun h36 => ?_) (fun h36 => ?_)
      · refine j_tsIn 21 rfl h36 ⟨by decide, by decide⟩ rfl rfl ?_
        refine j_run 276 5 rfl ?_
        refine j_scr 281 rfl hX ?_
        refine j_cv 282 16 1 rfl rfl mwX10_days hp1.1 rfl rfl (eX10_days hA hp1 (sx (bw (x3 + 1))) _) rfl rfl (rokL hk rfl rfl) (Nat.le_of_ble_eq_true rfl) (fun q37 _ h37 => ?_)
        refine j_run 283 5 rfl ?_
        refine j_scr 288 rfl hX ?_
        refine j_cv 289 17 1 rfl rfl mwX11_days hp2.1 rfl rfl (eX11_days hA hp2 (sx (bw (x3 + 1))) _) rfl rfl (rokL hk rfl rfl) (Nat.le_of_ble_eq_true rfl) (fun q38 _ h38 => ?_)
        refine jc_icmp_eq 290 rfl rfl (fun h39 => ?_) (fun h39 => ?_)
        · refine j_run 990 1 rfl ?_
          refine j_goto 991 rfl rfl ?_
          exact j_weak (leP_s (leP_s (leP_s (leP_s (leP_z))))) (ih (bw (x3 + 6)) _)
        · refine j_run 291 1 rfl ?_
          exact j_none
      refine jc_ite (fun h40 => ?_) (fun h40 => ?_)
      · refine j_tsIn 21 rfl h40 ⟨by decide, by decide⟩ rfl rfl ?_
        refine j_run 293 5 rfl ?_
        refine j_scr 298 rfl hX ?_
        refine j_run 299 4 rfl ?_
        refine j_scr 303 rfl hX ?_
        refine j_run 304 4 rfl ?_
        refine j_scr 308 rfl hX ?_
        refine j_run 309 4 rfl ?_
        refine j_scr 313 rfl hX ?_
        refine j_run 314 4 rfl ?_
        refine j_scr 318 rfl hX ?_
        refine j_cv 319 18 5 rfl rfl mwX10_feed hp1.1 rfl rfl (eX10_feed hA hp1 (sx (bw (x3 + 1))) (sx (bw (x3 + 2))) (sx (bw (x3 + 3))) (sx (bw (x3 + 4))) (sx (bw (x3 + 5))) _) rfl rfl (rokL hk rfl rfl) (Nat.le_of_ble_eq_true rfl) (fun q41 _ h41 => ?_)
        refine j_run 320 5 rfl ?_
        refine j_scr 325 rfl hX ?_
        refine j_run 326 4 rfl ?_
        refine j_scr 330 rfl hX ?_
        refine j_run 331 4 rfl ?_
        refine j_scr 335 rfl hX ?_
        refine j_run 336 4 rfl ?_
        refine j_scr 340 rfl hX ?_
        refine j_run 341 4 rfl ?_
        refine j_scr 345 rfl hX ?_
        refine j_cv 346 19 5 rfl rfl mwX11_feed hp2.1 rfl rfl (eX11_feed hA hp2 (sx (bw (x3 + 1))) (sx (bw (x3 + 2))) (sx (bw (x3 + 3))) (sx (bw (x3 + 4))) (sx (bw (x3 + 5))) _) rfl rfl (rokL hk rfl rfl) (Nat.le_of_ble_eq_true rfl) (fun q42 _ h42 => ?_)
        refine jc_icmp_eq 347 rfl rfl (fun h43 => ?_) (fun h43 => ?_)
        · refine j_run 990 1 rfl ?_
          refine j_goto 991 rfl rfl ?_
          exact j_weak (leP_s (leP_s (leP_s (leP_s (leP_z))))) (ih (bw (x3 + 6)) _)
        · refine j_run 348 1 rfl ?_
          exact j_none
      refine jc_ite (fun h44 => ?_) (fun h44 => ?_)
      · refine j_tsIn 21 rfl h44 ⟨by decide, by decide⟩ rfl rfl ?_
        refine j_run 350 5 rfl ?_
        refine j_scr 355 rfl hX ?_
        refine j_cv 356 20 1 rfl rfl mwX10_end hp1.1 rfl rfl (eX10_end hA hp1 (sx (bw (x3 + 1))) _) rfl rfl (rokL hk rfl rfl) (Nat.le_of_ble_eq_true rfl) (fun q45 _ h45 => ?_)
        refine j_run 357 5 rfl ?_
        refine j_scr 362 rfl hX ?_
        refine j_cv 363 21 1 rfl rfl mwX11_end hp2.1 rfl rfl (eX11_end hA hp2 (sx (bw (x3 + 1))) _) rfl rfl (rokL hk rfl rfl) (Nat.le_of_ble_eq_true rfl) (fun q46 _ h46 => ?_)
        refine jc_icmp_eq 364 rfl rfl (fun h47 => ?_) (fun h47 => ?_)
        · refine j_run 990 1 rfl ?_
          refine j_goto 991 rfl rfl ?_
          exact j_weak (leP_s (leP_s (leP_s (leP_s (leP_z))))) (ih (bw (x3 + 6)) _)
        · refine j_run 365 1 rfl ?_
          exact j_none
      refine jc_ite (fun h48 => ?_) (fun h48 => ?_)
      · refine j_tsIn 21 rfl h48 ⟨by decide, by decide⟩ rfl rfl ?_
        refine j_run 367 5 rfl ?_
        refine j_scr 372 rfl hX ?_
        refine j_cv 373 22 1 rfl rfl mwX10_text hp1.1 rfl rfl (eX10_text hA hp1 (sx (bw (x3 + 1))) _) rfl rfl (rokL hk rfl rfl) (Nat.le_of_ble_eq_true rfl) (fun q49 _ h49 => ?_)
        refine j_run 374 5 rfl ?_
        refine j_scr 379 rfl hX ?_
        refine j_cv 380 23 1 rfl rfl mwX11_text hp2.1 rfl rfl (eX11_text hA hp2 (sx (bw (x3 + 1))) _) rfl rfl (rokL hk rfl rfl) (Nat.le_of_ble_eq_true rfl) (fun q50 _ h50 => ?_)
        refine jc_icmp_eq 381 rfl rfl (fun h51 => ?_) (fun h51 => ?_)
        · refine j_run 990 1 rfl ?_
          refine j_goto 991 rfl rfl ?_
          exact j_weak (leP_s (leP_s (leP_s (leP_s (leP_z))))) (ih (bw (x3 + 6)) _)
        · refine j_run 382 1 rfl ?_
          exact j_none
      refine jc_ite (fun h52 => ?_) (fun h52 => ?_)
      · refine j_tsIn 21 rfl h52 ⟨by decide, by decide⟩ rfl rfl ?_
        refine j_run 384 5 rfl ?_
        refine j_scr 389 rfl hX ?_
        refine j_cvT 390 24 1 rfl rfl mwX10_fault hp1.1 rfl rfl (eX10_fault hA hp1 (sx (bw (x3 + 1))) _) rfl rfl (rokL hk rfl rfl) (Nat.le_of_ble_eq_true rfl) (fun h53 => ?_)
        refine j_run 391 5 rfl ?_
        refine j_scr 396 rfl hX ?_
        refine j_cvT 397 25 1 rfl rfl mwX11_fault hp2.1 rfl rfl (eX11_fault hA hp2 (sx (bw (x3 + 1))) _) rfl rfl (rokL hk rfl rfl) (Nat.le_of_ble_eq_true rfl) (fun h54 => ?_)
        refine jc_icmp_eq 398 rfl rfl (fun h55 => ?_) (fun h55 => ?_)
        · refine j_run 990 1 rfl ?_
          refine j_goto 991 rfl rfl ?_
          exact j_weak (leP_s (leP_s (leP_s (leP_s (leP_z))))) (ih (bw (x3 + 6)) _)
        · refine j_run 399 1 rfl ?_
          exact j_none
      refine jc_ite (fun h56 => ?_) (fun h56 => ?_)
      · refine j_tsIn 21 rfl h56 ⟨by decide, by decide⟩ rfl rfl ?_
        refine j_run 401 5 rfl ?_
        refine j_scr 406 rfl hX ?_
        refine j_run 407 4 rfl ?_
        refine j_scr 411 rfl hX ?_
        refine j_cv 412 26 2 rfl rfl mwX10_of hp1.1 rfl rfl (eX10_of hA hp1 (sx (bw (x3 + 1))) (sx (bw (x3 + 2))) _) rfl rfl (rokL hk rfl rfl) (Nat.le_of_ble_eq_true rfl) (fun r57 _ h57 => ?_)
        refine j_run 413 5 rfl ?_
        refine j_scr 418 rfl hX ?_
        refine j_run 419 4 rfl ?_
        refine j_scr 423 rfl hX ?_
        refine j_cv 424 27 2 rfl rfl mwX11_of hp2.1 rfl rfl (eX11_of hA hp2 (sx (bw (x3 + 1))) (sx (bw (x3 + 2))) _) rfl rfl (rokL hk rfl rfl) (Nat.le_of_ble_eq_true rfl) (fun r58 _ h58 => ?_)
        refine jc_icmp_eq 425 rfl rfl (fun h59 => ?_) (fun h59 => ?_)
        · refine j_run 990 1 rfl ?_
          refine j_goto 991 rfl rfl ?_
          exact j_weak (leP_s (leP_s (leP_s (leP_s (leP_z))))) (ih (bw (x3 + 6)) _)
        · refine j_run 426 1 rfl ?_
          exact j_none
      refine jc_ite (fun h60 => ?_) (fun h60 => ?_)
      · refine j_tsIn 21 rfl h60 ⟨by decide, by decide⟩ rfl rfl ?_
        refine j_run 428 5 rfl ?_
        refine j_scr 433 rfl hX ?_
        refine j_run 434 4 rfl ?_
        refine j_scr 438 rfl hX ?_
        refine j_run 439 4 rfl ?_
        refine j_scr 443 rfl hX ?_
        refine jc_if_eq 444 rfl rfl (fun h65 => ?_) (fun h65 => ?_)
        · refine j_run 447 1 rfl ?_
          exact j_weak (leP_s (leP_s (leP_s (leP_s (leP_z))))) (JL_law_J722 hA hk hp1 hp2 hX x3 (sx (bw (x3 + 2))) (sx (bw (x3 + 1))) _ ih 0 _)
        · refine j_run 445 1 rfl ?_
          refine j_goto 446 rfl rfl ?_
          exact j_weak (leP_s (leP_s (leP_s (leP_s (leP_z))))) (JL_law_J722 hA hk hp1 hp2 hX x3 (sx (bw (x3 + 2))) (sx (bw (x3 + 1))) _ ih 1 _)
      refine jc_ite (fun h66 => ?_) (fun h66 => ?_)
      · refine j_tsIn 21 rfl h66 ⟨by decide, by decide⟩ rfl rfl ?_
        refine j_run 473 5 rfl ?_
        refine j_scr 478 rfl hX ?_
        refine j_run 479 4 rfl ?_
        refine j_scr 483 rfl hX ?_
        refine j_cv 484 30 2 rfl rfl mwX10_at hp1.1 rfl rfl (eX10_at hA hp1 (sx (bw (x3 + 1))) (sx (bw (x3 + 2))) _) rfl rfl (rokL hk rfl rfl) (Nat.le_of_ble_eq_true rfl) (fun q67 _ h67 => ?_)
        refine j_run 485 5 rfl ?_
        refine j_scr 490 rfl hX ?_
        refine j_run 491 4 rfl ?_
        refine j_scr 495 rfl hX ?_
        refine j_cv 496 31 2 rfl rfl mwX11_at hp2.1 rfl rfl (eX11_at hA hp2 (sx (bw (x3 + 1))) (sx (bw (x3 + 2))) _) rfl rfl (rokL hk rfl rfl) (Nat.le_of_ble_eq_true rfl) (fun q68 _ h68 => ?_)
        refine jc_icmp_eq 497 rfl rfl (fun h69 => ?_) (fun h69 => ?_)
        · refine j_run 990 1 rfl ?_
          refine j_goto 991 rfl rfl ?_
          exact j_weak (leP_s (leP_s (leP_s (leP_s (leP_z))))) (ih (bw (x3 + 6)) _)
        · refine j_run 498 1 rfl ?_
          exact j_none
      refine jc_ite (fun h70 => ?_) (fun h70 => ?_)
      · refine j_tsIn 21 rfl h70 ⟨by decide, by decide⟩ rfl rfl ?_
        refine j_run 500 5 rfl ?_
        refine j_scr 505 rfl hX ?_
        refine j_run 506 4 rfl ?_
        refine j_scr 510 rfl hX ?_
        refine j_run 511 4 rfl ?_
        refine j_scr 515 rfl hX ?_
        refine j_run 516 4 rfl ?_
        refine j_scr 520 rfl hX ?_
        refine j_cv 521 32 4 rfl rfl mwX10_lift hp1.1 rfl rfl (eX10_lift hA hp1 (sx (bw (x3 + 1))) (sx (bw (x3 + 2))) (sx (bw (x3 + 3))) (sx (bw (x3 + 4))) _) rfl rfl (rokL hk rfl rfl) (Nat.le_of_ble_eq_true rfl) (fun q71 _ h71 => ?_)
        refine j_run 522 5 rfl ?_
        refine j_scr 527 rfl hX ?_
        refine j_run 528 4 rfl ?_
        refine j_scr 532 rfl hX ?_
        refine j_run 533 4 rfl ?_
        refine j_scr 537 rfl hX ?_
        refine j_run 538 4 rfl ?_
        refine j_scr 542 rfl hX ?_
        refine j_cv 543 33 4 rfl rfl mwX11_lift hp2.1 rfl rfl (eX11_lift hA hp2 (sx (bw (x3 + 1))) (sx (bw (x3 + 2))) (sx (bw (x3 + 3))) (sx (bw (x3 + 4))) _) rfl rfl (rokL hk rfl rfl) (Nat.le_of_ble_eq_true rfl) (fun q72 _ h72 => ?_)
        refine jc_icmp_eq 544 rfl rfl (fun h73 => ?_) (fun h73 => ?_)
        · refine j_run 990 1 rfl ?_
          refine j_goto 991 rfl rfl ?_
          exact j_weak (leP_s (leP_s (leP_s (leP_s (leP_z))))) (ih (bw (x3 + 6)) _)
        · refine j_run 545 1 rfl ?_
          exact j_none
      refine jc_ite (fun h74 => ?_) (fun h74 => ?_)
      · refine j_tsIn 21 rfl h74 ⟨by decide, by decide⟩ rfl rfl ?_
        refine j_run 547 5 rfl ?_
        refine j_scr 552 rfl hX ?_
        refine j_cv 553 34 1 rfl rfl mwX10_weather hp1.1 rfl rfl (eX10_weather hA hp1 (sx (bw (x3 + 1))) _) rfl rfl (rokL hk rfl rfl) (Nat.le_of_ble_eq_true rfl) (fun r75 _ h75 => ?_)
        refine j_run 554 5 rfl ?_
        refine j_scr 559 rfl hX ?_
        refine j_cv 560 35 1 rfl rfl mwX11_weather hp2.1 rfl rfl (eX11_weather hA hp2 (sx (bw (x3 + 1))) _) rfl rfl (rokL hk rfl rfl) (Nat.le_of_ble_eq_true rfl) (fun r76 _ h76 => ?_)
        refine jc_icmp_eq 561 rfl rfl (fun h77 => ?_) (fun h77 => ?_)
        · refine j_run 990 1 rfl ?_
          refine j_goto 991 rfl rfl ?_
          exact j_weak (leP_s (leP_s (leP_s (leP_s (leP_z))))) (ih (bw (x3 + 6)) _)
        · refine j_run 562 1 rfl ?_
          exact j_none
      refine jc_ite (fun h78 => ?_) (fun h78 => ?_)
      · refine j_tsIn 21 rfl h78 ⟨by decide, by decide⟩ rfl rfl ?_
        refine j_run 564 5 rfl ?_
        refine j_scr 569 rfl hX ?_
        refine j_run 570 4 rfl ?_
        refine j_scr 574 rfl hX ?_
        refine j_cv 575 36 2 rfl rfl mwX10_book hp1.1 rfl rfl (eX10_book hA hp1 (sx (bw (x3 + 1))) (sx (bw (x3 + 2))) _) rfl rfl (rokL hk rfl rfl) (Nat.le_of_ble_eq_true rfl) (fun r79 _ h79 => ?_)
        refine j_run 576 5 rfl ?_
        refine j_scr 581 rfl hX ?_
        refine j_run 582 4 rfl ?_
        refine j_scr 586 rfl hX ?_
        refine j_cv 587 37 2 rfl rfl mwX11_book hp2.1 rfl rfl (eX11_book hA hp2 (sx (bw (x3 + 1))) (sx (bw (x3 + 2))) _) rfl rfl (rokL hk rfl rfl) (Nat.le_of_ble_eq_true rfl) (fun r80 _ h80 => ?_)
        refine jc_icmp_eq 588 rfl rfl (fun h81 => ?_) (fun h81 => ?_)
        · refine j_run 990 1 rfl ?_
          refine j_goto 991 rfl rfl ?_
          exact j_weak (leP_s (leP_s (leP_s (leP_s (leP_z))))) (ih (bw (x3 + 6)) _)
        · refine j_run 589 1 rfl ?_
          exact j_none
      refine jc_ite (fun h82 => ?_) (fun h82 => ?_)
      · refine j_tsIn 21 rfl h82 ⟨by decide, by decide⟩ rfl rfl ?_
        refine j_run 591 5 rfl ?_
        refine j_scr 596 rfl hX ?_
        refine j_run 597 4 rfl ?_
        refine j_scr 601 rfl hX ?_
        refine j_cv 602 38 2 rfl rfl mwX10_lies hp1.1 rfl rfl (eX10_lies hA hp1 (sx (bw (x3 + 1))) (sx (bw (x3 + 2))) _) rfl rfl (rokL hk rfl rfl) (Nat.le_of_ble_eq_true rfl) (fun q83 _ h83 => ?_)
        refine j_run 603 5 rfl ?_
        refine j_scr 608 rfl hX ?_
        refine j_run 609 4 rfl ?_
        refine j_scr 613 rfl hX ?_
        refine j_cv 614 39 2 rfl rfl mwX11_lies hp2.1 rfl rfl (eX11_lies hA hp2 (sx (bw (x3 + 1))) (sx (bw (x3 + 2))) _) rfl rfl (rokL hk rfl rfl) (Nat.le_of_ble_eq_true rfl) (fun q84 _ h84 => ?_)
        refine jc_icmp_eq 615 rfl rfl (fun h85 => ?_) (fun h85 => ?_)
        · refine j_run 990 1 rfl ?_
          refine j_goto 991 rfl rfl ?_
          exact j_weak (leP_s (leP_s (leP_s (leP_s (leP_z))))) (ih (bw (x3 + 6)) _)
        · refine j_run 616 1 rfl ?_
          exact j_none
      refine jc_ite (fun h86 => ?_) (fun h86 => ?_)
      · refine j_tsIn 21 rfl h86 ⟨by decide, by decide⟩ rfl rfl ?_
        refine j_run 618 5 rfl ?_
        refine j_scr 623 rfl hX ?_
        refine j_cv 624 40 1 rfl rfl mwX10_meets hp1.1 rfl rfl (eX10_meets hA hp1 (sx (bw (x3 + 1))) _) rfl rfl (rokL hk rfl rfl) (Nat.le_of_ble_eq_true rfl) (fun q87 _ h87 => ?_)
        refine j_run 625 5 rfl ?_
        refine j_scr 630 rfl hX ?_
        refine j_cv 631 41 1 rfl rfl mwX11_meets hp2.1 rfl rfl (eX11_meets hA hp2 (sx (bw (x3 + 1))) _) rfl rfl (rokL hk rfl rfl) (Nat.le_of_ble_eq_true rfl) (fun q88 _ h88 => ?_)
        refine jc_icmp_eq 632 rfl rfl (fun h89 => ?_) (fun h89 => ?_)
        · refine j_run 990 1 rfl ?_
          refine j_goto 991 rfl rfl ?_
          exact j_weak (leP_s (leP_s (leP_s (leP_s (leP_z))))) (ih (bw (x3 + 6)) _)
        · refine j_run 633 1 rfl ?_
          exact j_none
      refine jc_ite (fun h90 => ?_) (fun h90 => ?_)
      · refine j_tsIn 21 rfl h90 ⟨by decide, by decide⟩ rfl rfl ?_
        refine j_run 635 5 rfl ?_
        refine j_scr 640 rfl hX ?_
        refine j_cv 641 42 1 rfl rfl mwX10_stable hp1.1 rfl rfl (eX10_stable hA hp1 (sx (bw (x3 + 1))) _) rfl rfl (rokL hk rfl rfl) (Nat.le_of_ble_eq_true rfl) (fun q91 _ h91 => ?_)
        refine j_run 642 5 rfl ?_
        refine j_scr 647 rfl hX ?_
        refine j_cv 648 43 1 rfl rfl mwX11_stable hp2.1 rfl rfl (eX11_stable hA hp2 (sx (bw (x3 + 1))) _) rfl rfl (rokL hk rfl rfl) (Nat.le_of_ble_eq_true rfl) (fun q92 _ h92 => ?_)
        refine jc_icmp_eq 649 rfl rfl (fun h93 => ?_) (fun h93 => ?_)
        · refine j_run 990 1 rfl ?_
          refine j_goto 991 rfl rfl ?_
          exact j_weak (leP_s (leP_s (leP_s (leP_s (leP_z))))) (ih (bw (x3 + 6)) _)
        · refine j_run 650 1 rfl ?_
          exact j_none
      refine jc_ite (fun h94 => ?_) (fun h94 => ?_)
      · refine j_tsIn 21 rfl h94 ⟨by decide, by decide⟩ rfl rfl ?_
        refine j_run 652 5 rfl ?_
        refine j_scr 657 rfl hX ?_
        refine j_cv 658 44 1 rfl rfl mwX10_best hp1.1 rfl rfl (eX10_best hA hp1 (sx (bw (x3 + 1))) _) rfl rfl (rokL hk rfl rfl) (Nat.le_of_ble_eq_true rfl) (fun q95 _ h95 => ?_)
        refine j_run 659 5 rfl ?_
        refine j_scr 664 rfl hX ?_
        refine j_cv 665 45 1 rfl rfl mwX11_best hp2.1 rfl rfl (eX11_best hA hp2 (sx (bw (x3 + 1))) _) rfl rfl (rokL hk rfl rfl) (Nat.le_of_ble_eq_true rfl) (fun q96 _ h96 => ?_)
        refine jc_icmp_eq 666 rfl rfl (fun h97 => ?_) (fun h97 => ?_)
        · refine j_run 990 1 rfl ?_
          refine j_goto 991 rfl rfl ?_
          exact j_weak (leP_s (leP_s (leP_s (leP_s (leP_z))))) (ih (bw (x3 + 6)) _)
        · refine j_run 667 1 rfl ?_
          exact j_none
      refine jc_ite (fun h98 => ?_) (fun h98 => ?_)
      · refine j_tsIn 21 rfl h98 ⟨by decide, by decide⟩ rfl rfl ?_
        refine j_run 669 5 rfl ?_
        refine j_scr 674 rfl hX ?_
        refine j_run 675 4 rfl ?_
        refine j_scr 679 rfl hX ?_
        refine j_cv 680 46 2 rfl rfl mwX10_bares hp1.1 rfl rfl (eX10_bares hA hp1 (sx (bw (x3 + 1))) (sx (bw (x3 + 2))) _) rfl rfl (rokL hk rfl rfl) (Nat.le_of_ble_eq_true rfl) (fun q99 _ h99 => ?_)
        refine j_run 681 5 rfl ?_
        refine j_scr 686 rfl hX ?_
        refine j_run 687 4 rfl ?_
        refine j_scr 691 rfl hX ?_
        refine j_cv 692 47 2 rfl rfl mwX11_bares hp2.1 rfl rfl (eX11_bares hA hp2 (sx (bw (x3 + 1))) (sx (bw (x3 + 2))) _) rfl rfl (rokL hk rfl rfl) (Nat.le_of_ble_eq_true rfl) (fun q100 _ h100 => ?_)
        refine jc_icmp_eq 693 rfl rfl (fun h101 => ?_) (fun h101 => ?_)
        · refine j_run 990 1 rfl ?_
          refine j_goto 991 rfl rfl ?_
          exact j_weak (leP_s (leP_s (leP_s (leP_s (leP_z))))) (ih (bw (x3 + 6)) _)
        · refine j_run 694 1 rfl ?_
          exact j_none
      refine jc_ite (fun h102 => ?_) (fun h102 => ?_)
      · refine j_tsIn 21 rfl h102 ⟨by decide, by decide⟩ rfl rfl ?_
        refine j_run 696 5 rfl ?_
        refine j_scr 701 rfl hX ?_
        refine j_run 702 4 rfl ?_
        refine j_scr 706 rfl hX ?_
        refine j_run 707 4 rfl ?_
        refine j_scr 711 rfl hX ?_
        refine jc_if_eq 712 rfl rfl (fun h107 => ?_) (fun h107 => ?_)
        · refine j_run 715 1 rfl ?_
          exact j_weak (leP_s (leP_s (leP_s (leP_s (leP_z))))) (JL_law_J1058 hA hk hp1 hp2 hX x3 (sx (bw (x3 + 2))) (sx (bw (x3 + 1))) _ ih 0 _)
        · refine j_run 713 1 rfl ?_
          refine j_goto 714 rfl rfl ?_
          exact j_weak (leP_s (leP_s (leP_s (leP_s (leP_z))))) (JL_law_J1058 hA hk hp1 hp2 hX x3 (sx (bw (x3 + 2))) (sx (bw (x3 + 1))) _ ih 1 _)
      refine jc_ite (fun h108 => ?_) (fun h108 => ?_)
      · refine j_tsIn 21 rfl h108 ⟨by decide, by decide⟩ rfl rfl ?_
        refine j_run 741 5 rfl ?_
        refine j_scr 746 rfl hX ?_
        refine j_cv 747 50 1 rfl rfl mwX10_who hp1.1 rfl rfl (eX10_who hA hp1 (sx (bw (x3 + 1))) _) rfl rfl (rokL hk rfl rfl) (Nat.le_of_ble_eq_true rfl) (fun q109 _ h109 => ?_)
        refine j_run 748 5 rfl ?_
        refine j_scr 753 rfl hX ?_
        refine j_cv 754 51 1 rfl rfl mwX11_who hp2.1 rfl rfl (eX11_who hA hp2 (sx (bw (x3 + 1))) _) rfl rfl (rokL hk rfl rfl) (Nat.le_of_ble_eq_true rfl) (fun q110 _ h110 => ?_)
        refine jc_icmp_eq 755 rfl rfl (fun h111 => ?_) (fun h111 => ?_)
        · refine j_run 990 1 rfl ?_
          refine j_goto 991 rfl rfl ?_
          exact j_weak (leP_s (leP_s (leP_s (leP_s (leP_z))))) (ih (bw (x3 + 6)) _)
        · refine j_run 756 1 rfl ?_
          exact j_none
      refine jc_ite (fun h112 => ?_) (fun h112 => ?_)
      · refine j_tsIn 21 rfl h112 ⟨by decide, by decide⟩ rfl rfl ?_
        refine j_run 758 5 rfl ?_
        refine j_scr 763 rfl hX ?_
        refine j_cv 764 52 1 rfl rfl mwX10_ask hp1.1 rfl rfl (eX10_ask hA hp1 (sx (bw (x3 + 1))) _) rfl rfl (rokL hk rfl rfl) (Nat.le_of_ble_eq_true rfl) (fun q113 _ h113 => ?_)
        refine j_run 765 5 rfl ?_
        refine j_scr 770 rfl hX ?_
        refine j_cv 771 53 1 rfl rfl mwX11_ask hp2.1 rfl rfl (eX11_ask hA hp2 (sx (bw (x3 + 1))) _) rfl rfl (rokL hk rfl rfl) (Nat.le_of_ble_eq_true rfl) (fun q114 _ h114 => ?_)
        refine jc_icmp_eq 772 rfl rfl (fun h115 => ?_) (fun h115 => ?_)
        · refine j_run 990 1 rfl ?_
          refine j_goto 991 rfl rfl ?_
          exact j_weak (leP_s (leP_s (leP_s (leP_s (leP_z))))) (ih (bw (x3 + 6)) _)
        · refine j_run 773 1 rfl ?_
          exact j_none
      refine jc_ite (fun h116 => ?_) (fun h116 => ?_)
      · refine j_tsIn 21 rfl h116 ⟨by decide, by decide⟩ rfl rfl ?_
        refine j_run 775 5 rfl ?_
        refine j_scr 780 rfl hX ?_
        refine j_run 781 4 rfl ?_
        refine j_scr 785 rfl hX ?_
        refine j_cvT 786 54 2 rfl rfl mwX10_fans hp1.1 rfl rfl (eX10_fans hA hp1 (sx (bw (x3 + 1))) (sx (bw (x3 + 2))) _) rfl rfl (rokL hk rfl rfl) (Nat.le_of_ble_eq_true rfl) (fun h117 => ?_)
        refine j_run 787 5 rfl ?_
        refine j_scr 792 rfl hX ?_
        refine j_run 793 4 rfl ?_
        refine j_scr 797 rfl hX ?_
        refine j_cvT 798 55 2 rfl rfl mwX11_fans hp2.1 rfl rfl (eX11_fans hA hp2 (sx (bw (x3 + 1))) (sx (bw (x3 + 2))) _) rfl rfl (rokL hk rfl rfl) (Nat.le_of_ble_eq_true rfl) (fun h118 => ?_)
        refine jc_icmp_eq 799 rfl rfl (fun h119 => ?_) (fun h119 => ?_)
        · refine j_run 990 1 rfl ?_
          refine j_goto 991 rfl rfl ?_
          exact j_weak (leP_s (leP_s (leP_s (leP_s (leP_z))))) (ih (bw (x3 + 6)) _)
        · refine j_run 800 1 rfl ?_
          exact j_none
      refine jc_ite (fun h120 => ?_) (fun h120 => ?_)
      · refine j_tsIn 21 rfl h120 ⟨by decide, by decide⟩ rfl rfl ?_
        refine j_run 802 5 rfl ?_
        refine j_scr 807 rfl hX ?_
        refine j_run 808 4 rfl ?_
        refine j_scr 812 rfl hX ?_
        refine j_cv 813 56 2 rfl rfl mwX10_safe hp1.1 rfl rfl (eX10_safe hA hp1 (sx (bw (x3 + 1))) (sx (bw (x3 + 2))) _) rfl rfl (rokL hk rfl rfl) (Nat.le_of_ble_eq_true rfl) (fun q121 _ h121 => ?_)
        refine j_run 814 5 rfl ?_
        refine j_scr 819 rfl hX ?_
        refine j_run 820 4 rfl ?_
        refine j_scr 824 rfl hX ?_
        refine j_cv 825 57 2 rfl rfl mwX11_safe hp2.1 rfl rfl (eX11_safe hA hp2 (sx (bw (x3 + 1))) (sx (bw (x3 + 2))) _) rfl rfl (rokL hk rfl rfl) (Nat.le_of_ble_eq_true rfl) (fun q122 _ h122 => ?_)
        refine jc_icmp_eq 826 rfl rfl (fun h123 => ?_) (fun h123 => ?_)
        · refine j_run 990 1 rfl ?_
          refine j_goto 991 rfl rfl ?_
          exact j_weak (leP_s (leP_s (leP_s (leP_s (leP_z))))) (ih (bw (x3 + 6)) _)
        · refine j_run 827 1 rfl ?_
          exact j_none
      refine jc_ite (fun h124 => ?_) (fun h124 => ?_)
      · refine j_tsIn 21 rfl h124 ⟨by decide, by decide⟩ rfl rfl ?_
        refine j_run 829 5 rfl ?_
        refine j_scr 834 rfl hX ?_
        refine j_run 835 4 rfl ?_
        refine j_scr 839 rfl hX ?_
        refine j_cv 840 58 2 rfl rfl mwX10_cut hp1.1 rfl rfl (eX10_cut hA hp1 (sx (bw (x3 + 1))) (sx (bw (x3 + 2))) _) rfl rfl (rokL hk rfl rfl) (Nat.le_of_ble_eq_true rfl) (fun q125 _ h125 => ?_)
        refine j_run 841 5 rfl ?_
        refine j_scr 846 rfl hX ?_
        refine j_run 847 4 rfl ?_
        refine j_scr 851 rfl hX ?_
        refine j_cv 852 59 2 rfl rfl mwX11_cut hp2.1 rfl rfl (eX11_cut hA hp2 (sx (bw (x3 + 1))) (sx (bw (x3 + 2))) _) rfl rfl (rokL hk rfl rfl) (Nat.le_of_ble_eq_true rfl) (fun q126 _ h126 => ?_)
        refine jc_icmp_eq 853 rfl rfl (fun h127 => ?_) (fun h127 => ?_)
        · refine j_run 990 1 rfl ?_
          refine j_goto 991 rfl rfl ?_
          exact j_weak (leP_s (leP_s (leP_s (leP_s (leP_z))))) (ih (bw (x3 + 6)) _)
        · refine j_run 854 1 rfl ?_
          exact j_none
      refine jc_ite (fun h128 => ?_) (fun h128 => ?_)
      · refine j_tsIn 21 rfl h128 ⟨by decide, by decide⟩ rfl rfl ?_
        refine j_run 856 5 rfl ?_
        refine j_scr 861 rfl hX ?_
        refine j_cv 862 60 1 rfl rfl mwX10_rounds hp1.1 rfl rfl (eX10_rounds hA hp1 (sx (bw (x3 + 1))) _) rfl rfl (rokL hk rfl rfl) (Nat.le_of_ble_eq_true rfl) (fun q129 _ h129 => ?_)
        refine j_run 863 5 rfl ?_
        refine j_scr 868 rfl hX ?_
        refine j_cv 869 61 1 rfl rfl mwX11_rounds hp2.1 rfl rfl (eX11_rounds hA hp2 (sx (bw (x3 + 1))) _) rfl rfl (rokL hk rfl rfl) (Nat.le_of_ble_eq_true rfl) (fun q130 _ h130 => ?_)
        refine jc_icmp_eq 870 rfl rfl (fun h131 => ?_) (fun h131 => ?_)
        · refine j_run 990 1 rfl ?_
          refine j_goto 991 rfl rfl ?_
          exact j_weak (leP_s (leP_s (leP_s (leP_s (leP_z))))) (ih (bw (x3 + 6)) _)
        · refine j_run 871 1 rfl ?_
          exact j_none
      refine jc_ite (fun h132 => ?_) (fun h132 => ?_)
      · refine j_tsIn 21 rfl h132 ⟨by decide, by decide⟩ rfl rfl ?_
        refine j_run 873 5 rfl ?_
        refine j_scr 878 rfl hX ?_
        refine j_run 879 4 rfl ?_
        refine j_scr 883 rfl hX ?_
        refine j_cv 884 62 2 rfl rfl mwX10_comes hp1.1 rfl rfl (eX10_comes hA hp1 (sx (bw (x3 + 1))) (sx (bw (x3 + 2))) _) rfl rfl (rokL hk rfl rfl) (Nat.le_of_ble_eq_true rfl) (fun q133 _ h133 => ?_)
        refine j_run 885 5 rfl ?_
        refine j_scr 890 rfl hX ?_
        refine j_run 891 4 rfl ?_
        refine j_scr 895 rfl hX ?_
        refine j_cv 896 63 2 rfl rfl mwX11_comes hp2.1 rfl rfl (eX11_comes hA hp2 (sx (bw (x3 + 1))) (sx (bw (x3 + 2))) _) rfl rfl (rokL hk rfl rfl) (Nat.le_of_ble_eq_true rfl) (fun q134 _ h134 => ?_)
        refine jc_icmp_eq 897 rfl rfl (fun h135 => ?_) (fun h135 => ?_)
        · refine j_run 990 1 rfl ?_
          refine j_goto 991 rfl rfl ?_
          exact j_weak (leP_s (leP_s (leP_s (leP_s (leP_z))))) (ih (bw (x3 + 6)) _)
        · refine j_run 898 1 rfl ?_
          exact j_none
      refine jc_ite (fun h136 => ?_) (fun h136 => ?_)
      · refine j_tsIn 21 rfl h136 ⟨by decide, by decide⟩ rfl rfl ?_
        refine j_run 900 1 rfl ?_
        refine j_cv 901 64 0 rfl rfl mwX10_asks hp1.1 rfl rfl (eX10_asks hA hp1 _) rfl rfl (rokL hk rfl rfl) (Nat.le_of_ble_eq_true rfl) (fun r137 _ h137 => ?_)
        refine j_run 902 1 rfl ?_
        refine j_cv 903 65 0 rfl rfl mwX11_asks hp2.1 rfl rfl (eX11_asks hA hp2 _) rfl rfl (rokL hk rfl rfl) (Nat.le_of_ble_eq_true rfl) (fun r138 _ h138 => ?_)
        refine jc_icmp_eq 904 rfl rfl (fun h139 => ?_) (fun h139 => ?_)
        · refine j_run 990 1 rfl ?_
          refine j_goto 991 rfl rfl ?_
          exact j_weak (leP_s (leP_s (leP_s (leP_s (leP_z))))) (ih (bw (x3 + 6)) _)
        · refine j_run 905 1 rfl ?_
          exact j_none
      refine jc_ite (fun h140 => ?_) (fun h140 => ?_)
      · refine j_tsIn 21 rfl h140 ⟨by decide, by decide⟩ rfl rfl ?_
        refine j_run 907 5 rfl ?_
        refine j_scr 912 rfl hX ?_
        refine j_cv 913 66 1 rfl rfl mwX10_tribe hp1.1 rfl rfl (eX10_tribe hA hp1 (sx (bw (x3 + 1))) _) rfl rfl (rokL hk rfl rfl) (Nat.le_of_ble_eq_true rfl) (fun r141 _ h141 => ?_)
        refine j_run 914 5 rfl ?_
        refine j_scr 919 rfl hX ?_
        refine j_cv 920 67 1 rfl rfl mwX11_tribe hp2.1 rfl rfl (eX11_tribe hA hp2 (sx (bw (x3 + 1))) _) rfl rfl (rokL hk rfl rfl) (Nat.le_of_ble_eq_true rfl) (fun r142 _ h142 => ?_)
        refine jc_icmp_eq 921 rfl rfl (fun h143 => ?_) (fun h143 => ?_)
        · refine j_run 990 1 rfl ?_
          refine j_goto 991 rfl rfl ?_
          exact j_weak (leP_s (leP_s (leP_s (leP_s (leP_z))))) (ih (bw (x3 + 6)) _)
        · refine j_run 922 1 rfl ?_
          exact j_none
      refine jc_ite (fun h144 => ?_) (fun h144 => ?_)
      · refine j_tsIn 21 rfl h144 ⟨by decide, by decide⟩ rfl rfl ?_
        refine j_run 924 5 rfl ?_
        refine j_scr 929 rfl hX ?_
        refine j_cv 930 68 1 rfl rfl mwX10_hopes hp1.1 rfl rfl (eX10_hopes hA hp1 (sx (bw (x3 + 1))) _) rfl rfl (rokL hk rfl rfl) (Nat.le_of_ble_eq_true rfl) (fun r145 _ h145 => ?_)
        refine j_run 931 5 rfl ?_
        refine j_scr 936 rfl hX ?_
        refine j_cv 937 69 1 rfl rfl mwX11_hopes hp2.1 rfl rfl (eX11_hopes hA hp2 (sx (bw (x3 + 1))) _) rfl rfl (rokL hk rfl rfl) (Nat.le_of_ble_eq_true rfl) (fun r146 _ h146 => ?_)
        refine jc_icmp_eq 938 rfl rfl (fun h147 => ?_) (fun h147 => ?_)
        · refine j_run 990 1 rfl ?_
          refine j_goto 991 rfl rfl ?_
          exact j_weak (leP_s (leP_s (leP_s (leP_s (leP_z))))) (ih (bw (x3 + 6)) _)
        · refine j_run 939 1 rfl ?_
          exact j_none
      refine jc_ite (fun h148 => ?_) (fun h148 => ?_)
      · refine j_tsIn 21 rfl h148 ⟨by decide, by decide⟩ rfl rfl ?_
        refine j_run 941 1 rfl ?_
        refine j_cv 942 70 0 rfl rfl mwX10_undo hp1.1 rfl rfl (eX10_undo hA hp1 _) rfl rfl (rokL hk rfl rfl) (Nat.le_of_ble_eq_true rfl) (fun q149 _ h149 => ?_)
        refine j_run 943 1 rfl ?_
        refine j_cv 944 71 0 rfl rfl mwX11_undo hp2.1 rfl rfl (eX11_undo hA hp2 _) rfl rfl (rokL hk rfl rfl) (Nat.le_of_ble_eq_true rfl) (fun q150 _ h150 => ?_)
        refine jc_icmp_eq 945 rfl rfl (fun h151 => ?_) (fun h151 => ?_)
        · refine j_run 990 1 rfl ?_
          refine j_goto 991 rfl rfl ?_
          exact j_weak (leP_s (leP_s (leP_s (leP_s (leP_z))))) (ih (bw (x3 + 6)) _)
        · refine j_run 946 1 rfl ?_
          exact j_none
      refine jc_ite (fun h152 => ?_) (fun h152 => ?_)
      · refine j_tsIn 21 rfl h152 ⟨by decide, by decide⟩ rfl rfl ?_
        exact j_weak (leP_s (leP_s (leP_s (leP_s (leP_z))))) (hkI _ ih x3 _)
      refine jc_ite (fun h153 => ?_) (fun h153 => ?_)
      · refine j_tsIn 21 rfl h153 ⟨by decide, by decide⟩ rfl rfl ?_
        refine j_run 973 5 rfl ?_
        refine j_scr 978 rfl hX ?_
        refine j_cv 979 72 1 rfl rfl mwX10_look hp1.1 rfl rfl (eX10_look hA hp1 (sx (bw (x3 + 1))) _) rfl rfl (rokL hk rfl rfl) (Nat.le_of_ble_eq_true rfl) (fun r154 _ h154 => ?_)
        refine j_run 980 5 rfl ?_
        refine j_scr 985 rfl hX ?_
        refine j_cv 986 73 1 rfl rfl mwX11_look hp2.1 rfl rfl (eX11_look hA hp2 (sx (bw (x3 + 1))) _) rfl rfl (rokL hk rfl rfl) (Nat.le_of_ble_eq_true rfl) (fun r155 _ h155 => ?_)
        refine jc_icmp_eq 987 rfl rfl (fun h156 => ?_) (fun h156 => ?_)
        · refine j_run 990 1 rfl ?_
          refine j_goto 991 rfl rfl ?_
          exact j_weak (leP_s (leP_s (leP_s (leP_s (leP_z))))) (ih (bw (x3 + 6)) _)
        · refine j_run 988 1 rfl ?_
          exact j_none
      refine j_tsOut 21 rfl (by omega) rfl ?_
      refine j_run 990 1 rfl ?_
      refine j_goto 991 rfl rfl ?_
      exact j_weak (leP_s (leP_s (leP_s (leP_s (leP_z))))) (ih (bw (x3 + 6)) _)
