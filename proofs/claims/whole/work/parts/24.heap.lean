/-! J at the heap's instructions -/
theorem cl_of {z : Int} (h : bw z = z) : (Int32.ofInt z).toNatClampNeg = z.toNat := by
  show ((Int32.ofInt z).toInt).toNat = z.toNat
  rw [ofI_toInt h]
theorem in_of {z : Int} {N : Nat} (h : bw z = z) (h1 : 0 ≤ z) (h2 : z < (N : Int)) : vp_in (Int32.ofInt z) N := by
  rintro (q | q)
  · have := (ofI_lt h (y := 0) rfl).mp q
    omega
  · rw [cl_of h] at q
    omega
def tyT (ci : Nat) : Nat → FieldType := match ci with
  | 0 => tyX0
  | 1 => tyX1
  | 2 => tyX2
  | 3 => tyX3
  | 4 => tyX4
  | 5 => tyX5
  | 6 => tyX6
  | 7 => tyX7
  | 8 => tyX8
  | 9 => tyX9
  | 10 => tyX10
  | _ => tyX11
theorem clAll {ci : Nat} {w : vw_C} (h : vwCl[ci]? = some w) : (∀ u ∈ u_ws w.1 w.2.1 w.2.2, u ∈ TW) ∧ (∀ k, k < w.2.2 → parseFieldDescriptor (w.2.1 k).2.2.1 = some (tyT ci k)) ∧ (∀ a, a < w.2.2 → ∀ b, b < w.2.2 → a ≠ b → (w.2.1 a).2.1 ≠ (w.2.1 b).2.1) := by
  match ci, h with
  | 0, h => cases h; exact ⟨inX0, tyX0_ok, nmX0⟩
  | 1, h => cases h; exact ⟨inX1, tyX1_ok, nmX1⟩
  | 2, h => cases h; exact ⟨inX2, tyX2_ok, nmX2⟩
  | 3, h => cases h; exact ⟨inX3, tyX3_ok, nmX3⟩
  | 4, h => cases h; exact ⟨inX4, tyX4_ok, nmX4⟩
  | 5, h => cases h; exact ⟨inX5, tyX5_ok, nmX5⟩
  | 6, h => cases h; exact ⟨inX6, tyX6_ok, nmX6⟩
  | 7, h => cases h; exact ⟨inX7, tyX7_ok, nmX7⟩
  | 8, h => cases h; exact ⟨inX8, tyX8_ok, nmX8⟩
  | 9, h => cases h; exact ⟨inX9, tyX9_ok, nmX9⟩
  | 10, h => cases h; exact ⟨inX10, tyX10_ok, nmX10⟩
  | 11, h => cases h; exact ⟨inX11, tyX11_ok, nmX11⟩
  | k + 12, h => simp [vwCl] at h
def nb (z : Int) : Int := (vp_nar .byte (Int32.ofInt z)).toInt
def nz (z : Int) : Int := (vp_nar .boolean (Int32.ofInt z)).toInt
def cpy (σ : Sg) (c0 : Nat) (sp : Int) (c1 : Nat) (dp n : Int) : Sg := fun c i => if c = c1 ∧ dp ≤ i ∧ i < dp + n then σ c0 (sp + (i - dp)) else σ c i
theorem ea_of {X : Cx} {ads : List Nat} {c : Nat} (h : c < 1000) : ea X ads c = ads.getD c 0 := if_pos h
theorem wr_self (σ : Sg) (c : Nat) (i z : Int) : wr σ c i z c = fun j => if j = i then Int32.ofInt z else σ c j := by
  funext j
  unfold wr
  simp only [true_and]
section JH
variable {α : Type} {X : Cx} {M : MM} {P : PG} {tb : TB} {R : Room} {kc nc : Nat} {EX : EXT} {F : α → Prop × ZT} {ads : List Nat} {sk : List Sk} {L : List (Option PV)} {st : List PV} {σ : Sg} {res : Option α} {pc pc2 : Nat}
theorem sk_lt {ads : List Nat} {sk : List Sk} {M : MM} {P : PG} {tb : TB} (ho : okC M P tb ads sk) {c : Nat} {s : Sk} (h : sk[c]? = some s) : c < 1000 := Nat.lt_of_lt_of_le (List.getElem?_eq_some_iff.mp h).1 ho.2.2.2
theorem sk_em {ads : List Nat} {sk : List Sk} {M : MM} {P : PG} {tb : TB} (ho : okC M P tb ads sk) {c : Nat} {s : Sk} (h : sk[c]? = some s) : em X ads (.inr (some c)) = .ref (ads.getD c 0) := by
  show Value.ref (ea X ads c) = _
  rw [ea_of (sk_lt ho h)]
/-- a field that holds a whole number -/
theorem j_gf (n j : Nat) {idx ci k c : Nat} {i : Int} {fs : List (Option (Option Nat))} (hn : P[n]? = some (.getfield idx, pc, pc2)) (hf : tb.2.1[j]? = some (idx, ci, k, i)) (hs : sk[c]? = some (.inl (ci, fs))) (hk : fs[k]? = some none) (kk : J X M P tb R kc nc EX F ads sk (pc2, L, .inl (rd σ c i) :: st, σ) res) : J X M P tb R kc nc EX F ads sk (pc, L, .inr (some c) :: st, σ) res := by
  refine J.step (ps2 := (pc2, L, .inl (rd σ c i) :: st, σ)) (fun ho a ha hq => ⟨ha, ⟨hq.1, hq.2.1, nrS_cons (rd_bw _ _ _) (nrS_tail hq.2.2)⟩, fun Z kk => ?_⟩) kk
  obtain ⟨hd, rfl⟩ := okP_get ho.1 hn (by simp [lenI])
  obtain ⟨w, hw1, hw2, hw3, hw4, hw5⟩ := ho.2.1.2.1 _ (List.mem_of_getElem? hf)
  intro p e s m args below meth cc H locs ls FF hE hP hD hS hl
  show W _ _ _ _ _ _ _ _ _ _ _ _ _ _ _ (F0 m pc ls (em X ads (.inr (some c)) :: emS X ads st))
  rw [sk_em ho hs]
  refine va_get FF.1 FF.2.1 (C := w.1) (T := w.2.1) (N := w.2.2) FF.2.2.2.2.2.1 (clAll hw1).1 FF.2.2.2.2.1 FF.2.2.2.2.2.2.2.2.1 hP c (mkW_get hs) hw1 k hw2 (FF.2.2.2.2.2.1 _ hw5) (fun x hx => by rw [hw3] at hx; exact hx) (v := .int (Int32.ofInt (rd σ c i))) ?_ hd (kk p e s m args below meth cc H locs ls FF hE hP hD hS hl)
  rw [fv_get, hk]
  simp only [Option.map_some, Nat.zero_add]
  rw [show (k : Int) = i from hw4, rd, Int32.ofInt_toInt]
/-- a field that holds a reference -/
theorem j_gr (n j : Nat) {idx ci k c : Nat} {i : Int} {fs : List (Option (Option Nat))} {r : Option Nat} (hn : P[n]? = some (.getfield idx, pc, pc2)) (hf : tb.2.1[j]? = some (idx, ci, k, i)) (hs : sk[c]? = some (.inl (ci, fs))) (hk : fs[k]? = some (some r)) (kk : J X M P tb R kc nc EX F ads sk (pc2, L, .inr r :: st, σ) res) : J X M P tb R kc nc EX F ads sk (pc, L, .inr (some c) :: st, σ) res := by
  refine J.step (ps2 := (pc2, L, .inr r :: st, σ)) (fun ho a ha hq => ⟨ha, ⟨hq.1, hq.2.1, nrS_cons trivial (nrS_tail hq.2.2)⟩, fun Z kk => ?_⟩) kk
  obtain ⟨hd, rfl⟩ := okP_get ho.1 hn (by simp [lenI])
  obtain ⟨w, hw1, hw2, hw3, hw4, hw5⟩ := ho.2.1.2.1 _ (List.mem_of_getElem? hf)
  intro p e s m args below meth cc H locs ls FF hE hP hD hS hl
  show W _ _ _ _ _ _ _ _ _ _ _ _ _ _ _ (F0 m pc ls (em X ads (.inr (some c)) :: emS X ads st))
  rw [sk_em ho hs]
  refine va_get FF.1 FF.2.1 (C := w.1) (T := w.2.1) (N := w.2.2) FF.2.2.2.2.2.1 (clAll hw1).1 FF.2.2.2.2.1 FF.2.2.2.2.2.2.2.2.1 hP c (mkW_get hs) hw1 k hw2 (FF.2.2.2.2.2.1 _ hw5) (fun x hx => by rw [hw3] at hx; exact hx) (v := em X ads (.inr r)) ?_ hd (kk p e s m args below meth cc H locs ls FF hE hP hD hS hl)
  rw [fv_get, hk]
  rfl
/-- a field of whole numbers is written -/
theorem j_pf (n j : Nat) {idx ci k c : Nat} {i z : Int} {fs : List (Option (Option Nat))} (hn : P[n]? = some (.putfield idx, pc, pc2)) (hf : tb.2.1[j]? = some (idx, ci, k, i)) (hs : sk[c]? = some (.inl (ci, fs))) (hk : fs[k]? = some none) (hfin : (vwCl[ci]?).map (fun w => (w.2.1 k).2.2.2) = some false) (hty : tyT ci k = .int ∨ (tyT ci k = .boolean ∧ (z = 0 ∨ z = 1))) (kk : J X M P tb R kc nc EX F ads sk (pc2, L, st, wr σ c i z) res) : J X M P tb R kc nc EX F ads sk (pc, L, .inl z :: .inr (some c) :: st, σ) res := by
  refine J.step (ps2 := (pc2, L, st, wr σ c i z)) (fun ho a ha hq => ⟨ha, ⟨hq.1, hq.2.1, nrS_tail (nrS_tail hq.2.2)⟩, fun Z kk => ?_⟩) kk
  obtain ⟨hd, rfl⟩ := okP_get ho.1 hn (by simp [lenI])
  obtain ⟨w, hw1, hw2, hw3, hw4, hw5⟩ := ho.2.1.2.1 _ (List.mem_of_getElem? hf)
  intro p e s m args below meth cc H locs ls FF hE hP hD hS hl
  show W _ _ _ _ _ _ _ _ _ _ _ _ _ _ _ (F0 m pc ls (.int (Int32.ofInt z) :: em X ads (.inr (some c)) :: emS X ads st))
  rw [sk_em ho hs]
  have hn1 : narrow (tyT ci k) (.int (Int32.ofInt z)) = .int (Int32.ofInt z) ∧ fits (tyT ci k) (.int (Int32.ofInt z)) = true := by
    rcases hty with h | ⟨h, h2 | h2⟩
    · rw [h]; exact ⟨rfl, rfl⟩
    · rw [h, h2]; exact ⟨rfl, rfl⟩
    · rw [h, h2]; exact ⟨rfl, rfl⟩
  have hlen : k < (fv X ads (σ c) 0 fs).length := by
    rcases Nat.lt_or_ge k (fv X ads (σ c) 0 fs).length with q | q
    · exact q
    · have h2 := List.getElem?_eq_none q
      rw [fv_get, hk] at h2
      simp at h2
  refine va_put FF.1 FF.2.1 (C := w.1) (T := w.2.1) (N := w.2.2) FF.2.2.2.2.2.1 (clAll hw1).1 (tyT ci) (clAll hw1).2.1 (clAll hw1).2.2 FF.2.2.2.2.1 FF.2.2.2.2.2.2.2.2.1 hP hD hS c (mkW_get hs) hw1 k hw2 (FF.2.2.2.2.2.1 _ hw5) (fun x hx => by rw [hw3] at hx; exact hx) (by rw [hw1] at hfin; exact Option.some.inj hfin) ((clAll hw1).2.1 k hw2) hn1.1 hn1.2 hlen hd ?_
  intro H1 locs1 h1 h2 h3
  rw [mkW_wr (i := i) (z := z) hs (by
    rw [fv_set hk]
    simp only [mkc, wr_self, hw4])] at h1 h2
  exact kk p e s m args below meth cc H1 locs1 ls FF hE h1 h2 h3 hl
theorem w_eq {k n : Nat} (h : k = n) : (k : Int) = (n : Int) := by rw [h]
/-- an array's cell is read -/
theorem j_ald (n : Nat) {c N : Nat} {i B : Int} (hn : P[n]? = some (.iaload, pc, pc2)) (hs : sk[c]? = some (.inr (0, N))) (hB : (N : Int) = B) (kk : J X M P tb R kc nc EX F ads sk (pc2, L, .inl (rd σ c i) :: st, σ) res) : J X M P tb R kc nc EX F ads sk (pc, L, .inl i :: .inr (some c) :: st, σ) (grd (0 ≤ i ∧ i < B) res) := by
  refine j_grd (fun hg => J.step (ps2 := (pc2, L, .inl (rd σ c i) :: st, σ)) (fun ho a ha hq => ⟨ha, ⟨hq.1, hq.2.1, nrS_cons (rd_bw _ _ _) (nrS_tail (nrS_tail hq.2.2))⟩, fun Z kk => ?_⟩) kk)
  obtain ⟨hd, rfl⟩ := okP_get ho.1 hn (by simp [lenI])
  subst hB
  have hi : bw i = i := nrS_head hq.2.2
  intro p e s m args below meth cc H locs ls FF hE hP hD hS hl
  show W _ _ _ _ _ _ _ _ _ _ _ _ _ _ _ (F0 m pc ls (.int (Int32.ofInt i) :: em X ads (.inr (some c)) :: emS X ads st))
  rw [sk_em ho hs]
  refine va_iald FF.1 FF.2.1 FF.2.2.2.2.2.2.2.2.1 hP c 0 (mkW_get hs) rfl (in_of hi hg.1 hg.2) hd ?_
  have := kk p e s m args below meth cc H locs ls FF hE hP hD hS hl
  rw [cl_of hi, Int.toNat_of_nonneg hg.1]
  simpa only [emS, List.map_cons, em, rd, Int32.ofInt_toInt, lenI] using this
theorem j_bald (n : Nat) {c N : Nat} {i B : Int} (hn : P[n]? = some (.baload, pc, pc2)) (hs : sk[c]? = some (.inr (1, N))) (hB : (N : Int) = B) (kk : J X M P tb R kc nc EX F ads sk (pc2, L, .inl (rd σ c i) :: st, σ) res) : J X M P tb R kc nc EX F ads sk (pc, L, .inl i :: .inr (some c) :: st, σ) (grd (0 ≤ i ∧ i < B) res) := by
  refine j_grd (fun hg => J.step (ps2 := (pc2, L, .inl (rd σ c i) :: st, σ)) (fun ho a ha hq => ⟨ha, ⟨hq.1, hq.2.1, nrS_cons (rd_bw _ _ _) (nrS_tail (nrS_tail hq.2.2))⟩, fun Z kk => ?_⟩) kk)
  obtain ⟨hd, rfl⟩ := okP_get ho.1 hn (by simp [lenI])
  subst hB
  have hi : bw i = i := nrS_head hq.2.2
  intro p e s m args below meth cc H locs ls FF hE hP hD hS hl
  show W _ _ _ _ _ _ _ _ _ _ _ _ _ _ _ (F0 m pc ls (.int (Int32.ofInt i) :: em X ads (.inr (some c)) :: emS X ads st))
  rw [sk_em ho hs]
  refine va_bald FF.1 FF.2.1 FF.2.2.2.2.2.2.2.2.1 hP c 1 (mkW_get hs) rfl (in_of hi hg.1 hg.2) hd ?_
  have := kk p e s m args below meth cc H locs ls FF hE hP hD hS hl
  rw [cl_of hi, Int.toNat_of_nonneg hg.1]
  simpa only [emS, List.map_cons, em, rd, Int32.ofInt_toInt, lenI] using this
theorem j_zald (n : Nat) {c N : Nat} {i B : Int} (hn : P[n]? = some (.baload, pc, pc2)) (hs : sk[c]? = some (.inr (2, N))) (hB : (N : Int) = B) (kk : J X M P tb R kc nc EX F ads sk (pc2, L, .inl (rd σ c i) :: st, σ) res) : J X M P tb R kc nc EX F ads sk (pc, L, .inl i :: .inr (some c) :: st, σ) (grd (0 ≤ i ∧ i < B) res) := by
  refine j_grd (fun hg => J.step (ps2 := (pc2, L, .inl (rd σ c i) :: st, σ)) (fun ho a ha hq => ⟨ha, ⟨hq.1, hq.2.1, nrS_cons (rd_bw _ _ _) (nrS_tail (nrS_tail hq.2.2))⟩, fun Z kk => ?_⟩) kk)
  obtain ⟨hd, rfl⟩ := okP_get ho.1 hn (by simp [lenI])
  subst hB
  have hi : bw i = i := nrS_head hq.2.2
  intro p e s m args below meth cc H locs ls FF hE hP hD hS hl
  show W _ _ _ _ _ _ _ _ _ _ _ _ _ _ _ (F0 m pc ls (.int (Int32.ofInt i) :: em X ads (.inr (some c)) :: emS X ads st))
  rw [sk_em ho hs]
  refine va_zald FF.1 FF.2.1 FF.2.2.2.2.2.2.2.2.1 hP c 2 (mkW_get hs) rfl (in_of hi hg.1 hg.2) hd ?_
  have := kk p e s m args below meth cc H locs ls FF hE hP hD hS hl
  rw [cl_of hi, Int.toNat_of_nonneg hg.1]
  simpa only [emS, List.map_cons, em, rd, Int32.ofInt_toInt, lenI] using this
theorem upd_wr {f : Nat → Int32} {σ : Sg} {c : Nat} {i z : Int} {x : Int32} (h0 : 0 ≤ i) (hf : f = fun j : Nat => σ c (j : Int)) (hx : x = Int32.ofInt z) : upd f i.toNat x = fun j : Nat => wr σ c i z c (j : Int) := by
  subst hf; subst hx
  funext j
  unfold upd wr
  by_cases h : j = i.toNat
  · rw [if_pos h, if_pos ⟨rfl, by omega⟩]
  · rw [if_neg h, if_neg (fun q => h (by omega))]
/-- an array's cell is written -/
theorem j_ast (n : Nat) {c N : Nat} {i z B : Int} (hn : P[n]? = some (.iastore, pc, pc2)) (hs : sk[c]? = some (.inr (0, N))) (hB : (N : Int) = B) (kk : J X M P tb R kc nc EX F ads sk (pc2, L, st, wr σ c i z) res) : J X M P tb R kc nc EX F ads sk (pc, L, .inl z :: .inl i :: .inr (some c) :: st, σ) (grd (0 ≤ i ∧ i < B) res) := by
  refine j_grd (fun hg => J.step (ps2 := (pc2, L, st, wr σ c i z)) (fun ho a ha hq => ⟨ha, ⟨hq.1, hq.2.1, nrS_tail (nrS_tail (nrS_tail hq.2.2))⟩, fun Z kk => ?_⟩) kk)
  obtain ⟨hd, rfl⟩ := okP_get ho.1 hn (by simp [lenI])
  subst hB
  have hi : bw i = i := nrS_head (nrS_tail hq.2.2)
  intro p e s m args below meth cc H locs ls FF hE hP hD hS hl
  show W _ _ _ _ _ _ _ _ _ _ _ _ _ _ _ (F0 m pc ls (.int (Int32.ofInt z) :: .int (Int32.ofInt i) :: em X ads (.inr (some c)) :: emS X ads st))
  rw [sk_em ho hs]
  refine va_iast FF.1 FF.2.1 FF.2.2.2.2.2.2.2.2.1 hP hD hS c 0 (mkW_get hs) rfl (in_of hi hg.1 hg.2) hd ?_
  intro H1 locs1 h1 h2 h3
  rw [cl_of hi, upd_wr (z := z) hg.1 rfl rfl] at h1 h2
  have ew := mkW_wr (X := X) (ads := ads) (σ := σ) (i := i) (z := z) hs rfl
  exact kk p e s m args below meth cc H1 locs1 ls FF hE (by show va_P _ _ (mkW X ads (wr σ c i (z)) sk) H1; rw [← ew]; exact h1) (by show va_D _ (mkW X ads (wr σ c i (z)) sk); rw [← ew]; exact h2) h3 hl
theorem j_bast (n : Nat) {c N : Nat} {i z B : Int} (hn : P[n]? = some (.bastore, pc, pc2)) (hs : sk[c]? = some (.inr (1, N))) (hB : (N : Int) = B) (kk : J X M P tb R kc nc EX F ads sk (pc2, L, st, wr σ c i (nb z)) res) : J X M P tb R kc nc EX F ads sk (pc, L, .inl z :: .inl i :: .inr (some c) :: st, σ) (grd (0 ≤ i ∧ i < B) res) := by
  refine j_grd (fun hg => J.step (ps2 := (pc2, L, st, wr σ c i (nb z))) (fun ho a ha hq => ⟨ha, ⟨hq.1, hq.2.1, nrS_tail (nrS_tail (nrS_tail hq.2.2))⟩, fun Z kk => ?_⟩) kk)
  obtain ⟨hd, rfl⟩ := okP_get ho.1 hn (by simp [lenI])
  subst hB
  have hi : bw i = i := nrS_head (nrS_tail hq.2.2)
  intro p e s m args below meth cc H locs ls FF hE hP hD hS hl
  show W _ _ _ _ _ _ _ _ _ _ _ _ _ _ _ (F0 m pc ls (.int (Int32.ofInt z) :: .int (Int32.ofInt i) :: em X ads (.inr (some c)) :: emS X ads st))
  rw [sk_em ho hs]
  refine va_bast FF.1 FF.2.1 FF.2.2.2.2.2.2.2.2.1 hP hD hS c 1 (mkW_get hs) rfl (in_of hi hg.1 hg.2) hd ?_
  intro H1 locs1 h1 h2 h3
  rw [cl_of hi, upd_wr (z := nb z) hg.1 rfl (by rw [nb, Int32.ofInt_toInt])] at h1 h2
  have ew := mkW_wr (X := X) (ads := ads) (σ := σ) (i := i) (z := nb z) hs rfl
  exact kk p e s m args below meth cc H1 locs1 ls FF hE (by show va_P _ _ (mkW X ads (wr σ c i (nb z)) sk) H1; rw [← ew]; exact h1) (by show va_D _ (mkW X ads (wr σ c i (nb z)) sk); rw [← ew]; exact h2) h3 hl
theorem j_zast (n : Nat) {c N : Nat} {i z B : Int} (hn : P[n]? = some (.bastore, pc, pc2)) (hs : sk[c]? = some (.inr (2, N))) (hB : (N : Int) = B) (kk : J X M P tb R kc nc EX F ads sk (pc2, L, st, wr σ c i (nz z)) res) : J X M P tb R kc nc EX F ads sk (pc, L, .inl z :: .inl i :: .inr (some c) :: st, σ) (grd (0 ≤ i ∧ i < B) res) := by
  refine j_grd (fun hg => J.step (ps2 := (pc2, L, st, wr σ c i (nz z))) (fun ho a ha hq => ⟨ha, ⟨hq.1, hq.2.1, nrS_tail (nrS_tail (nrS_tail hq.2.2))⟩, fun Z kk => ?_⟩) kk)
  obtain ⟨hd, rfl⟩ := okP_get ho.1 hn (by simp [lenI])
  subst hB
  have hi : bw i = i := nrS_head (nrS_tail hq.2.2)
  intro p e s m args below meth cc H locs ls FF hE hP hD hS hl
  show W _ _ _ _ _ _ _ _ _ _ _ _ _ _ _ (F0 m pc ls (.int (Int32.ofInt z) :: .int (Int32.ofInt i) :: em X ads (.inr (some c)) :: emS X ads st))
  rw [sk_em ho hs]
  refine va_zast FF.1 FF.2.1 FF.2.2.2.2.2.2.2.2.1 hP hD hS c 2 (mkW_get hs) rfl (in_of hi hg.1 hg.2) hd ?_
  intro H1 locs1 h1 h2 h3
  rw [cl_of hi, upd_wr (z := nz z) hg.1 rfl (by rw [nz, Int32.ofInt_toInt])] at h1 h2
  have ew := mkW_wr (X := X) (ads := ads) (σ := σ) (i := i) (z := nz z) hs rfl
  exact kk p e s m args below meth cc H1 locs1 ls FF hE (by show va_P _ _ (mkW X ads (wr σ c i (nz z)) sk) H1; rw [← ew]; exact h1) (by show va_D _ (mkW X ads (wr σ c i (nz z)) sk); rw [← ew]; exact h2) h3 hl
theorem j_alen (n : Nat) {c N : Nat} {B : Int} (hn : P[n]? = some (.arraylength, pc, pc2)) (hs : sk[c]? = some (.inr (0, N))) (hB : (N : Int) = B) (hb : bw B = B) (kk : J X M P tb R kc nc EX F ads sk (pc2, L, .inl B :: st, σ) res) : J X M P tb R kc nc EX F ads sk (pc, L, .inr (some c) :: st, σ) res := by
  refine J.step (ps2 := (pc2, L, .inl B :: st, σ)) (fun ho a ha hq => ⟨ha, ⟨hq.1, hq.2.1, nrS_cons hb (nrS_tail hq.2.2)⟩, fun Z kk => ?_⟩) kk
  obtain ⟨hd, rfl⟩ := okP_get ho.1 hn (by simp [lenI])
  subst hB
  intro p e s m args below meth cc H locs ls FF hE hP hD hS hl
  show W _ _ _ _ _ _ _ _ _ _ _ _ _ _ _ (F0 m pc ls (em X ads (.inr (some c)) :: emS X ads st))
  rw [sk_em ho hs]
  exact va_alen FF.1 FF.2.1 FF.2.2.2.2.2.2.2.2.1 hP c 0 (mkW_get hs) rfl (v := Int32.ofInt (N : Int)) rfl hd (kk p e s m args below meth cc H locs ls FF hE hP hD hS hl)
end JH
