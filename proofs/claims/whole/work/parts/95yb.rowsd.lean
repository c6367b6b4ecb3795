/-! the class's lines -/
theorem ck_ok {c : Int} {j : Nat} {r : Pl} {a : Nat × Rw} (h : ck c j r = .ok a) : c = 0 ∧ r = .ok a := by
  unfold ck at h
  by_cases e : c = 0
  · rw [if_pos e] at h; exact ⟨e, h⟩
  · rw [if_neg e] at h; cases h
section
variable {K V : Nat → Int} {N : Nat} {w : Int → Int}
theorem nuF_0 {lo hi : Int} {j : Nat} (h : nuF K V lo hi j = 0) : K j = 1 ∧ lo ≤ V j ∧ V j ≤ hi := by
  unfold nuF at h
  by_cases e : K j = 1
  · rw [if_pos e] at h
    by_cases e2 : lo ≤ V j ∧ V j ≤ hi
    · exact ⟨e, e2⟩
    · rw [if_neg e2] at h; exact absurd h (by decide)
  · rw [if_neg e] at h; exact absurd h (by decide)
theorem fiF_0 {j : Nat} (h : fiF K V w j = 0) : K j = 1 ∧ isF w (V j) := by
  unfold fiF at h
  by_cases e : K j = 1
  · rw [if_pos e] at h
    by_cases e2 : isF w (V j)
    · exact ⟨e, e2⟩
    · rw [if_neg e2] at h; exact absurd h (by decide)
  · rw [if_neg e] at h; exact absurd h (by decide)
theorem p1F_0 {j : Nat} (h : p1F K V w j = 0) : K j = 1 ∧ isP w (V j) := by
  unfold p1F at h
  by_cases e : K j = 1
  · rw [if_pos e] at h
    by_cases e2 : isP w (V j)
    · exact ⟨e, e2⟩
    · rw [if_neg e2] at h; exact absurd h (by decide)
  · rw [if_neg e] at h; exact absurd h (by decide)
theorem p2F_0 {a : Int} {j : Nat} (h : p2F K V w a j = 0) : K j = 1 ∧ isP w (V j) ∧ w (91 + a) ≠ w (91 + V j) := by
  unfold p2F at h
  by_cases e : K j = 1
  · rw [if_pos e] at h
    by_cases e2 : isP w (V j) ∧ w (91 + a) ≠ w (91 + V j)
    · exact ⟨e, e2⟩
    · rw [if_neg e2] at h; exact absurd h (by decide)
  · rw [if_neg e] at h; exact absurd h (by decide)
theorem beF_0 {c cap : Int} {n j : Nat} (h : beF K c cap n j = 0) : K j = c ∧ (n : Int) < cap := by
  unfold beF at h
  by_cases e : K j = c
  · rw [if_pos e] at h
    by_cases e2 : (n : Int) < cap
    · exact ⟨e, e2⟩
    · rw [if_neg e2] at h; exact absurd h (by decide)
  · rw [if_neg e] at h; exact absurd h (by decide)
/-- what a row of each text is -/
def RwOK (w : Int → Int) (k : Int) (r : Rw) : Prop := if k = 1 then (0 ≤ r.1 ∧ r.1 ≤ 999) ∧ isP w r.2.1 ∧ isP w r.2.2.1 ∧ w (91 + r.2.1) ≠ w (91 + r.2.2.1) ∧ isF w r.2.2.2 else if k = 2 then (1 ≤ r.1 ∧ r.1 ≤ 60) ∧ 0 ≤ r.2.1 ∧ r.2.1 ≤ 30 else isF w r.1 ∧ (0 ≤ r.2.1 ∧ r.2.1 ≤ 999) ∧ 1 ≤ r.2.2.1 ∧ r.2.2.1 ≤ 99
def capR (k : Int) : Int := if k = 1 then 16 else 12
theorem liR_ok {k : Int} {n j : Nat} {a : Nat × Rw} (h : liR K V w k n j = .ok a) : j < a.1 ∧ RwOK w k a.2 ∧ (n : Int) < capR k := by
  unfold liR at h
  unfold RwOK capR
  by_cases c1 : k = 1
  · rw [if_pos c1] at h ⊢
    rw [if_pos c1]
    unfold voA at h
    obtain ⟨e1, h⟩ := ck_ok h
    obtain ⟨e2, h⟩ := ck_ok h
    obtain ⟨e3, h⟩ := ck_ok h
    obtain ⟨e4, h⟩ := ck_ok h
    obtain ⟨e5, h⟩ := ck_ok h
    obtain ⟨e6, h⟩ := ck_ok h
    obtain ⟨e7, h⟩ := ck_ok h
    obtain ⟨e8, h⟩ := ck_ok h
    cases h
    have p2 := p2F_0 e5
    exact ⟨by show j < j + 8; omega, ⟨(nuF_0 e2).2, (p1F_0 e3).2, p2.2.1, p2.2.2, (fiF_0 e7).2⟩, (beF_0 e1).2⟩
  · rw [if_neg c1] at h ⊢
    rw [if_neg c1]
    by_cases c2 : k = 2
    · rw [if_pos c2] at h ⊢
      unfold weA at h
      obtain ⟨e1, h⟩ := ck_ok h
      obtain ⟨e2, h⟩ := ck_ok h
      obtain ⟨e3, h⟩ := ck_ok h
      obtain ⟨e4, h⟩ := ck_ok h
      obtain ⟨e5, h⟩ := ck_ok h
      cases h
      exact ⟨by show j < j + 5; omega, ⟨(nuF_0 e2).2, (nuF_0 e4).2⟩, (beF_0 e1).2⟩
    · rw [if_neg c2] at h ⊢
      unfold waA at h
      obtain ⟨e1, h⟩ := ck_ok h
      obtain ⟨e2, h⟩ := ck_ok h
      obtain ⟨e3, h⟩ := ck_ok h
      obtain ⟨e4, h⟩ := ck_ok h
      obtain ⟨e5, h⟩ := ck_ok h
      obtain ⟨e6, h⟩ := ck_ok h
      obtain ⟨e7, h⟩ := ck_ok h
      cases h
      exact ⟨by show j < j + 7; omega, ⟨(fiF_0 e2).2, (nuF_0 e4).2, (nuF_0 e6).2⟩, (beF_0 e1).2⟩
variable {σ0 : Sg}
theorem Vbw (H : HK K V N) {j : Nat} (h : K j = 1) : bw (V j) = V j := by
  have := H.2.2.2 j h
  exact bw_id (by omega) (by omega)
theorem vo_c (H : HK K V N) (T : TKs K V N σ0) (hC : CW 150 w σ0 1) {n j : Nat} (h : AtC K N σ0 j [] σ0) (h2 : rd σ0 45 2 = n) (h1 : rd σ0 45 1 = 16) : CLr K N σ0 45 n (voA K V w n j) (fX4_vowLine σ0) := by
  unfold fX4_vowLine voA
  refine StC_bd (be_c H T (by decide) h h2 h1) (fun s => rfl) (fun s1 e1 k1 _ => ?_)
  show CLr K N σ0 45 n _ (if (1 : Int) = 0 then _ else (fX4_passesNumber 0 999 s1).bind _)
  rw [if_neg n10]
  refine StC_bd (nu_c H T k1) (fun s => rfl) (fun s3 e3 k3 v3 => ?_)
  show CLr K N σ0 45 n _ (if (1 : Int) = 0 then _ else (fX4_passesPerson (-1) s3).bind _)
  rw [if_neg n10]
  refine StC_bd (StC_c (pe_c (a := -1) H T hC k3) (by rw [if_neg (fun q => by have := q.1; omega)])) (fun s => rfl) (fun s5 e5 k5 v5 => ?_)
  show CLr K N σ0 45 n _ (if (1 : Int) = 0 then _ else (fX4_passes 8 s5).bind _)
  rw [if_neg n10]
  refine StC_bd (wo_c H T (by decide) k5) (fun s => rfl) (fun s7 e7 k7 _ => ?_)
  show CLr K N σ0 45 n _ (if (1 : Int) = 0 then _ else (fX4_passesPerson (rd s5 64 7) s7).bind _)
  have pa := (p1F_0 e5).2
  rw [if_neg n10, show rd s5 64 7 = V (j + 2) from v5]
  refine StC_bd (StC_c (pe_c (a := V (j + 2)) H T hC k7) (by rw [if_pos pa])) (fun s => rfl) (fun s9 e9 k9 v9 => ?_)
  show CLr K N σ0 45 n _ (if (1 : Int) = 0 then _ else (fX4_passes 21 s9).bind _)
  rw [if_neg n10]
  refine StC_bd (wo_c H T (by decide) k9) (fun s => rfl) (fun s11 e11 k11 _ => ?_)
  show CLr K N σ0 45 n _ (if (1 : Int) = 0 then _ else (fX4_passesField s11).bind _)
  rw [if_neg n10]
  refine StC_bd (fi_c H T hC k11) (fun s => rfl) (fun s13 e13 k13 v13 => ?_)
  show CLr K N σ0 45 n _ (if (1 : Int) = 0 then _ else (fX4_passes 59 s13).bind _)
  rw [if_neg n10]
  refine StC_bd (wo_c H T (by decide) k13) (fun s => rfl) (fun s15 e15 k15 _ => ?_)
  show CLr K N σ0 45 n _ (if (1 : Int) = 0 then _ else (fX6_add 45 64 (rd s3 64 7) (V (j + 2)) (rd s9 64 7) (rd s13 64 7) s15).bind fun q => if q.1 = 0 then some (0, q.2) else some (1, q.2))
  rw [if_neg n10, show rd s3 64 7 = V (j + 1) from v3, show rd s9 64 7 = V (j + 4) from v9, show rd s13 64 7 = V (j + 6) from v13]
  exact addR_c (Or.inl rfl) k15 h2 h1 (beF_0 e1).2 (by decide) (by decide) (Vbw H (nuF_0 e3).1) (Vbw H (p1F_0 e5).1) (Vbw H (p2F_0 e9).1) (Vbw H (fiF_0 e13).1)
theorem we_c (H : HK K V N) (T : TKs K V N σ0) {n j : Nat} (h : AtC K N σ0 j [] σ0) (h2 : rd σ0 47 2 = n) (h1 : rd σ0 47 1 = 12) : CLr K N σ0 47 n (weA K V n j) (fX4_weatherLine σ0) := by
  unfold fX4_weatherLine weA
  refine StC_bd (be_c H T (by decide) h h2 h1) (fun s => rfl) (fun s1 e1 k1 _ => ?_)
  show CLr K N σ0 47 n _ (if (1 : Int) = 0 then _ else (fX4_passesNumber 1 60 s1).bind _)
  rw [if_neg n10]
  refine StC_bd (nu_c H T k1) (fun s => rfl) (fun s3 e3 k3 v3 => ?_)
  show CLr K N σ0 47 n _ (if (1 : Int) = 0 then _ else (fX4_passes 17 s3).bind _)
  rw [if_neg n10]
  refine StC_bd (wo_c H T (by decide) k3) (fun s => rfl) (fun s5 e5 k5 _ => ?_)
  show CLr K N σ0 47 n _ (if (1 : Int) = 0 then _ else (fX4_passesNumber 0 30 s5).bind _)
  rw [if_neg n10]
  refine StC_bd (nu_c H T k5) (fun s => rfl) (fun s7 e7 k7 v7 => ?_)
  show CLr K N σ0 47 n _ (if (1 : Int) = 0 then _ else (fX4_passes 59 s7).bind _)
  rw [if_neg n10]
  refine StC_bd (wo_c H T (by decide) k7) (fun s => rfl) (fun s9 e9 k9 _ => ?_)
  show CLr K N σ0 47 n _ (if (1 : Int) = 0 then _ else (fX6_add 47 48 (rd s3 64 7) (rd s7 64 7) 0 0 s9).bind fun q => if q.1 = 0 then some (0, q.2) else some (1, q.2))
  rw [if_neg n10, show rd s3 64 7 = V (j + 1) from v3, show rd s7 64 7 = V (j + 3) from v7]
  exact addR_c (Or.inr (Or.inl rfl)) k9 h2 h1 (beF_0 e1).2 (by decide) (by decide) (Vbw H (nuF_0 e3).1) (Vbw H (nuF_0 e7).1) rfl rfl
theorem wa_c (H : HK K V N) (T : TKs K V N σ0) (hC : CW 150 w σ0 1) {n j : Nat} (h : AtC K N σ0 j [] σ0) (h2 : rd σ0 49 2 = n) (h1 : rd σ0 49 1 = 12) : CLr K N σ0 49 n (waA K V w n j) (fX4_wantLine σ0) := by
  unfold fX4_wantLine waA
  refine StC_bd (be_c H T (by decide) h h2 h1) (fun s => rfl) (fun s1 e1 k1 _ => ?_)
  show CLr K N σ0 49 n _ (if (1 : Int) = 0 then _ else (fX4_passesField s1).bind _)
  rw [if_neg n10]
  refine StC_bd (fi_c H T hC k1) (fun s => rfl) (fun s3 e3 k3 v3 => ?_)
  show CLr K N σ0 49 n _ (if (1 : Int) = 0 then _ else (fX4_passes 20 s3).bind _)
  rw [if_neg n10]
  refine StC_bd (wo_c H T (by decide) k3) (fun s => rfl) (fun s5 e5 k5 _ => ?_)
  show CLr K N σ0 49 n _ (if (1 : Int) = 0 then _ else (fX4_passesNumber 0 999 s5).bind _)
  rw [if_neg n10]
  refine StC_bd (nu_c H T k5) (fun s => rfl) (fun s7 e7 k7 v7 => ?_)
  show CLr K N σ0 49 n _ (if (1 : Int) = 0 then _ else (fX4_passes 24 s7).bind _)
  rw [if_neg n10]
  refine StC_bd (wo_c H T (by decide) k7) (fun s => rfl) (fun s9 e9 k9 _ => ?_)
  show CLr K N σ0 49 n _ (if (1 : Int) = 0 then _ else (fX4_passesNumber 1 99 s9).bind _)
  rw [if_neg n10]
  refine StC_bd (nu_c H T k9) (fun s => rfl) (fun s11 e11 k11 v11 => ?_)
  show CLr K N σ0 49 n _ (if (1 : Int) = 0 then _ else (fX4_passes 59 s11).bind _)
  rw [if_neg n10]
  refine StC_bd (wo_c H T (by decide) k11) (fun s => rfl) (fun s13 e13 k13 _ => ?_)
  show CLr K N σ0 49 n _ (if (1 : Int) = 0 then _ else (fX6_add 49 48 (rd s3 64 7) (rd s7 64 7) (rd s11 64 7) 0 s13).bind fun q => if q.1 = 0 then some (0, q.2) else some (1, q.2))
  rw [if_neg n10, show rd s3 64 7 = V (j + 1) from v3, show rd s7 64 7 = V (j + 3) from v7, show rd s11 64 7 = V (j + 5) from v11]
  exact addR_c (Or.inr (Or.inr rfl)) k13 h2 h1 (beF_0 e1).2 (by decide) (by decide) (Vbw H (fiF_0 e3).1) (Vbw H (nuF_0 e7).1) (Vbw H (nuF_0 e11).1) rfl
/-! all its lines -/
def rdLn (k : Int) (σ : Sg) : Option (Int × Sg) := if k = 1 then fX4_vowLine σ else if k = 2 then fX4_weatherLine σ else fX4_wantLine σ
def cR (k : Int) : Nat := if k = 1 then 45 else if k = 2 then 47 else 49
theorem L52_k {kk : Sg → Option (Int × Sg)} {k : Int} (hk : k ≠ 0) (n : Nat) (x2 : Int) (σ : Sg) : fX4_reads_L52 kk k (n + 1) x2 σ = if 400 < x2 then some (1, σ) else if (rd σ 64 6) = 0 then some (1, σ) else (rdLn k σ).bind fun q => fX4_reads_J105 (fX4_reads_L52 kk k n) kk k x2 q.1 q.2 := by
  rw [fX4_reads_L52, if_neg hk]
  unfold rdLn
  by_cases c1 : k = 1
  · rw [if_pos c1, if_pos c1]
  · rw [if_neg c1, if_neg c1]
    by_cases c2 : k = 2
    · rw [if_pos c2, if_pos c2]
    · rw [if_neg c2, if_neg c2]
theorem li_c (H : HK K V N) (T : TKs K V N σ0) (hC : CW 150 w σ0 1) {k : Int} {n j : Nat} (h : AtC K N σ0 j [] σ0) (h2 : rd σ0 (cR k) 2 = n) (h1 : rd σ0 (cR k) 1 = capR k) : CLr K N σ0 (cR k) n (liR K V w k n j) (rdLn k σ0) := by
  unfold cR at h1 h2
  unfold capR at h1
  unfold cR liR rdLn
  by_cases c1 : k = 1
  · rw [if_pos c1] at h1 h2
    rw [if_pos c1] at h1
    rw [if_pos c1, if_pos c1, if_pos c1]
    exact vo_c H T hC h h2 h1
  · rw [if_neg c1] at h1 h2
    rw [if_neg c1] at h1
    rw [if_neg c1, if_neg c1, if_neg c1]
    by_cases c2 : k = 2
    · rw [if_pos c2] at h1 h2
      rw [if_pos c2, if_pos c2, if_pos c2]
      exact we_c H T h h2 h1
    · rw [if_neg c2] at h1 h2
      rw [if_neg c2, if_neg c2, if_neg c2]
      exact wa_c H T hC h h2 h1
def RoC (c0 : Nat) (rs : List Rw) (τ : Sg) : Prop := rd τ c0 2 = rs.length ∧ ∀ i : Nat, i < rs.length → rd τ (c0 + 1) (4 * (i : Int)) = (gR rs i).1 ∧ rd τ (c0 + 1) (4 * (i : Int) + 1) = (gR rs i).2.1 ∧ rd τ (c0 + 1) (4 * (i : Int) + 2) = (gR rs i).2.2.1 ∧ rd τ (c0 + 1) (4 * (i : Int) + 3) = (gR rs i).2.2.2
def CRr (P : Nat → Int) (σ : Sg) (c0 : Nat) (r : Except (Int × Nat) (List Rw)) (o : Option (Int × Sg)) : Prop := match r with
  | .error e => wp o (fun q => q.1 = 0 ∧ Fr [64, 38, 39, c0, c0 + 1] σ q.2 ∧ rd q.2 c0 1 = rd σ c0 1 ∧ rd q.2 64 0 = e.1 ∧ rd q.2 64 1 = P e.2)
  | .ok rs => wp o (fun q => q.1 = 1 ∧ Fr [64, 38, 39, c0, c0 + 1] σ q.2 ∧ rd q.2 c0 1 = rd σ c0 1 ∧ rd q.2 64 0 = 0 ∧ rd q.2 64 1 = rd σ 64 1 ∧ RoC c0 rs q.2)
theorem cR_3 (k : Int) : cR k = 45 ∨ cR k = 47 ∨ cR k = 49 := by
  unfold cR
  split
  · exact Or.inl rfl
  · split
    · exact Or.inr (Or.inl rfl)
    · exact Or.inr (Or.inr rfl)
theorem rowsL_c {P : Nat → Int} {k : Int} (hk : k ≠ 0) (H : HK K V N) : ∀ (m : Nat) (x2 : Int) (j : Nat) (rs : List Rw) (σ : Sg), TKs K V N σ → (∀ j : Nat, j ≤ N → rd σ 63 j = P j) → CW 150 w σ 1 → N - j < m → AtC K N σ j [] σ → rd σ (cR k) 1 = capR k → RoC (cR k) rs σ → 0 ≤ x2 → x2 ≤ j → CRr P σ (cR k) (rowsA K V w k m j rs) (fX4_reads_L52 kF k m x2 σ)
  | 0, x2, j, rs, σ, T, hP, hC, hn, h, hcap, hr, y0, y1 => by omega
  | m + 1, x2, j, rs, σ, T, hP, hC, hn, h, hcap, hr, y0, y1 => by
    have hN := H.1
    have h5 := h.2.2.1
    have c3 := cR_3 k
    rw [L52_k hk, if_neg (by omega), h5.2.2, rowsA]
    by_cases c : K j = 0
    · rw [if_pos c, if_pos c]
      exact ⟨_, rfl, rfl, Fr.rf, rfl, h.2.1.2.2, rfl, hr⟩
    · rw [if_neg c, if_neg c]
      have r := li_c (k := k) H T hC h hr.1 hcap
      cases e : liR K V w k rs.length j with
      | error x =>
        rw [e] at r
        obtain ⟨o0, ⟨q1, q2⟩, o1, o2, o3, o4, o5, o6⟩ := r
        have o2 : q1 = 0 := o2
        rw [o1, Option.bind_some, o2]
        show CRr P σ (cR k) (.error x) (fX4_reads_J105 (fX4_reads_L52 kF k m) kF k x2 0 q2)
        unfold fX4_reads_J105
        rw [if_pos p00]
        obtain ⟨q, w1, w2, w3, w4, w5⟩ := kF_c (P := P) (N := N) (s := q2) (e := x) (fun j hj => (o3 63 _ (by decide)).trans (hP j hj)) hN o4 o5 o6 o0
        refine ⟨q, w1, w2, (o3.mo (by simp)).tr (w3.mo (by simp)), ?_, w4, w5⟩
        rw [w3 (cR k) 1 (by simp only [List.mem_cons, List.not_mem_nil, or_false]; omega)]
        exact o3 (cR k) 1 (by simp only [List.mem_cons, List.not_mem_nil, or_false]; omega)
      | ok a =>
        rw [e] at r
        have lk := liR_ok e
        obtain ⟨⟨q1, q2⟩, o1, o2, o3, o4, o5, o6, o7, o8⟩ := r
        have o2 : q1 = 1 := o2
        have o3 : Fr [64, 38, 39, cR k, cR k + 1] σ q2 := o3
        have o5 : rd q2 64 1 = rd σ 64 1 := o5
        have o7 : rd q2 (cR k) 1 = rd σ (cR k) 1 := o7
        rw [o1, Option.bind_some, o2]
        show CRr P σ (cR k) (rowsA K V w k m a.1 (rs ++ [a.2])) (fX4_reads_J105 (fX4_reads_L52 kF k m) kF k x2 1 q2)
        unfold fX4_reads_J105
        rw [if_neg n10, bw_id (z := x2 + 1) (by omega) (by omega)]
        have hC2 : CW 150 w q2 1 := hC.fr o3 (fun c hc => by
          simp only [List.mem_cons, List.not_mem_nil, or_false] at hc
          omega)
        have a1N : a.1 ≤ N := o4.2.2.1.2.1
        have r2 : RoC (cR k) (rs ++ [a.2]) q2 := by
          refine ⟨?_, fun i hi => ?_⟩
          · rw [List.length_append]
            have o6 : rd q2 (cR k) 2 = (rs.length : Int) + 1 := o6
            rw [o6]; simp
          · rw [List.length_append] at hi
            simp only [List.length_cons, List.length_nil] at hi
            have o8 : ∀ i : Int, rd q2 (cR k + 1) i = if i = 4 * (rs.length : Int) + 3 then a.2.2.2.2 else if i = 4 * (rs.length : Int) + 2 then a.2.2.2.1 else if i = 4 * (rs.length : Int) + 1 then a.2.2.1 else if i = 4 * (rs.length : Int) then a.2.1 else rd σ (cR k + 1) i := o8
            rw [o8, o8, o8, o8]
            by_cases e3 : i = rs.length
            · rw [e3, gR_1, if_neg (by omega), if_neg (by omega), if_neg (by omega), if_pos rfl, if_neg (show ¬ 4 * (rs.length : Int) + 1 = 4 * (rs.length : Int) + 3 by omega), if_neg (show ¬ 4 * (rs.length : Int) + 1 = 4 * (rs.length : Int) + 2 by omega), if_pos rfl, if_neg (show ¬ 4 * (rs.length : Int) + 2 = 4 * (rs.length : Int) + 3 by omega), if_pos rfl, if_pos rfl]
              exact ⟨rfl, rfl, rfl, rfl⟩
            · have o9 : ∀ d : Int, 0 ≤ d → d ≤ 3 → (if 4 * (i : Int) + d = 4 * (rs.length : Int) + 3 then a.2.2.2.2 else if 4 * (i : Int) + d = 4 * (rs.length : Int) + 2 then a.2.2.2.1 else if 4 * (i : Int) + d = 4 * (rs.length : Int) + 1 then a.2.2.1 else if 4 * (i : Int) + d = 4 * (rs.length : Int) then a.2.1 else rd σ (cR k + 1) (4 * (i : Int) + d)) = rd σ (cR k + 1) (4 * (i : Int) + d) := fun d d0 d3 => by
                rw [if_neg (by omega), if_neg (by omega), if_neg (by omega), if_neg (by omega)]
              have z0 := o9 0 (by decide) (by decide)
              rw [show 4 * (i : Int) + 0 = 4 * (i : Int) by omega] at z0
              rw [z0, o9 1 (by decide) (by decide), o9 2 (by decide) (by decide), o9 3 (by decide) (by decide), gR_l (by omega)]
              exact hr.2 i (by omega)
        have nx := rowsL_c (P := P) hk H m (x2 + 1) a.1 (rs ++ [a.2]) q2 (TKs_fr T o3 (by simp only [List.mem_cons, List.not_mem_nil, or_false]; omega) (by simp only [List.mem_cons, List.not_mem_nil, or_false]; omega)) (fun j hj => (o3 63 _ (by simp only [List.mem_cons, List.not_mem_nil, or_false]; omega)).trans (hP j hj)) hC2 (by omega) o4 (o7.trans hcap) r2 (by omega) (by omega)
        cases e2 : rowsA K V w k m a.1 (rs ++ [a.2]) with
        | error x =>
          rw [e2] at nx
          obtain ⟨q, w1, w2, w3, w4, w5, w6⟩ := nx
          exact ⟨q, w1, w2, o3.tr w3, w4.trans o7, w5, w6⟩
        | ok b =>
          rw [e2] at nx
          obtain ⟨q, w1, w2, w3, w4, w5, w6, w7⟩ := nx
          exact ⟨q, w1, w2, o3.tr w3, w4.trans o7, w5, w6.trans o5, w7⟩
theorem rowsA_ok {k : Int} : ∀ (m j : Nat) (rs : List Rw), (∀ i : Nat, i < rs.length → RwOK w k (gR rs i)) → (rs.length : Int) ≤ capR k → ∀ out, rowsA K V w k m j rs = .ok out → (∀ i : Nat, i < out.length → RwOK w k (gR out i)) ∧ (out.length : Int) ≤ capR k
  | 0, j, rs, h, h2, out, e => by
    rw [rowsA] at e
    cases e
    exact ⟨h, h2⟩
  | m + 1, j, rs, h, h2, out, e => by
    rw [rowsA] at e
    by_cases c : K j = 0
    · rw [if_pos c] at e
      cases e
      exact ⟨h, h2⟩
    · rw [if_neg c] at e
      cases e1 : liR K V w k rs.length j with
      | error x => rw [e1] at e; cases e
      | ok a =>
        rw [e1] at e
        have lk := liR_ok e1
        refine rowsA_ok m a.1 (rs ++ [a.2]) (fun i hi => ?_) (by rw [List.length_append]; simp; omega) out e
        rw [List.length_append] at hi
        simp only [List.length_cons, List.length_nil] at hi
        by_cases e3 : i = rs.length
        · rw [e3, gR_1]; exact lk.2.1
        · rw [gR_l (by omega)]; exact h i (by omega)
end
