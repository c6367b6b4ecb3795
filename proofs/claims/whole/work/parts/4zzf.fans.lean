/-! fans, with longs -/
/-- fans: both classes say the same number -/
def fFans (x1 x2 : Int) : Int := if x1 < 0 ∨ 99 < x1 ∨ x2 < 0 ∨ 1000 < x2 then -1 else (1000000 * (x2 * (x1 + 1))) / (x2 * (x1 + 1) + (1000 - x2) * (100 - x1))
def fX10_fans (x1 x2 : Int) : Int := fFans x1 x2
def fX11_fans (x1 x2 : Int) : Int := fFans x1 x2
def mX10_fans : MM := (yX10_fans, cX10_fans, 7, some .int, 1)
def mX11_fans : MM := (yX11_fans, cX11_fans, 7, some .int, 1)
set_option maxRecDepth 4000 in
theorem mwX10_fans : MWV mX10_fans 2 := ⟨⟨(tw_of (i := 1) (by decide +kernel) rfl), tk5 (i := 104) rfl rfl, show yX10_fans.cls ≠ _ by decide +kernel, show yX10_fans.cls ≠ _ by decide +kernel, show (parseMethodDescriptor yX10_fans.desc).map (fun d => d.parameters.length) = _ by decide +kernel⟩, (tw_of (i := 1062) (by decide +kernel) rfl), (tw_of (i := 1063) (by decide +kernel) rfl)⟩
set_option maxRecDepth 4000 in
theorem mwX11_fans : MWV mX11_fans 2 := ⟨⟨(tw_of (i := 13) (by decide +kernel) rfl), tk8 (i := 112) rfl rfl, show yX11_fans.cls ≠ _ by decide +kernel, show yX11_fans.cls ≠ _ by decide +kernel, show (parseMethodDescriptor yX11_fans.desc).map (fun d => d.parameters.length) = _ by decide +kernel⟩, (tw_of (i := 1790) (by decide +kernel) rfl), (tw_of (i := 1791) (by decide +kernel) rfl)⟩
def pX10_fans : PG := [(.iload_n 1, 0, 1), (.bipush 99, 1, 3), (.invokestatic 79, 3, 6), (.ifCond .eq 13, 6, 9), (.iload_n 2, 9, 10), (.sipush 1000, 10, 13), (.invokestatic 79, 13, 16), (.ifCond .ne 5, 16, 19), (.iconst (-1), 19, 20), (.ireturn, 20, 21), (.ireturn, 65, 66)]
theorem pX10_fans_ok : okP cX10_fans pX10_fans = true := by decide +kernel
def pX11_fans : PG := [(.iload_n 1, 0, 1), (.iconst 0, 1, 2), (.bipush 99, 2, 4), (.invokestatic 89, 4, 7), (.ifCond .eq 14, 7, 10), (.iload_n 2, 10, 11), (.iconst 0, 11, 12), (.sipush 1000, 12, 15), (.invokestatic 89, 15, 18), (.ifCond .ne 5, 18, 21), (.iconst (-1), 21, 22), (.ireturn, 22, 23), (.ireturn, 56, 57)]
theorem pX11_fans_ok : okP cX11_fans pX11_fans = true := by decide +kernel
theorem fq_l {a : Int32} {z : Int} (h : a.toInt = z) : a.toInt64.toInt = z := by rw [Int32.toInt_toInt64]; exact h
theorem fq_m {a b : Int64} {x y z : Int} (ha : a.toInt = x) (hb : b.toInt = y) (hz : x * y = z) (h1 : -1000000000000 ≤ z) (h2 : z ≤ 1000000000000) : (a * b).toInt = z := by
  rw [Int64.toInt_mul, ha, hb, hz]
  exact Int.bmod_eq_of_le (by omega) (by omega)
theorem fq_a {a b : Int64} {x y : Int} (ha : a.toInt = x) (hb : b.toInt = y) (h1 : -1000000000000 ≤ x + y) (h2 : x + y ≤ 1000000000000) : (a + b).toInt = x + y := by
  rw [Int64.toInt_add, ha, hb]
  exact Int.bmod_eq_of_le (by omega) (by omega)
theorem fq_s {a b : Int64} {x y : Int} (ha : a.toInt = x) (hb : b.toInt = y) (h1 : -1000000000000 ≤ x - y) (h2 : x - y ≤ 1000000000000) : (a - b).toInt = x - y := by
  rw [Int64.toInt_sub, ha, hb]
  exact Int.bmod_eq_of_le (by omega) (by omega)
theorem fq_d {a b : Int64} {x y : Int} (ha : a.toInt = x) (hb : b.toInt = y) (h0 : 0 ≤ x) (h1 : x ≤ 1000000000000) (h2 : 0 < y) : (a / b).toInt = x / y := by
  rw [Int64.toInt_div, ha, hb, Int.tdiv_eq_ediv_of_nonneg h0]
  have h3 : 0 ≤ x / y := Int.ediv_nonneg h0 (by omega)
  have h4 : x / y ≤ x := Int.ediv_le_self _ h0
  exact Int.bmod_eq_of_le (by omega) (by omega)
theorem fq_i {z : Int} (h1 : -2147483648 ≤ z) (h2 : z < 2147483648) : (Int32.ofInt z).toInt = z := ofI_toInt (bw_id h1 h2)
theorem fq_t {a : Int64} {z : Int} (ha : a.toInt = z) : a.toInt32 = Int32.ofInt z := by
  apply Int32.toInt_inj.mp
  rw [Int64.toInt_toInt32, ha, Int32.toInt_ofInt]
theorem fans_b {x1 x2 : Int} (h1 : 0 ≤ x1) (h2 : x1 ≤ 99) (h3 : 0 ≤ x2) (h4 : x2 ≤ 1000) : (0 ≤ x2 * (x1 + 1) ∧ x2 * (x1 + 1) ≤ 100000) ∧ (0 ≤ (1000 - x2) * (100 - x1) ∧ (1000 - x2) * (100 - x1) ≤ 100000) ∧ 0 < x2 * (x1 + 1) + (1000 - x2) * (100 - x1) := by
  have a1 : 0 ≤ x2 * (x1 + 1) := Int.mul_nonneg h3 (by omega)
  have a2 : x2 * (x1 + 1) ≤ 1000 * 100 := Int.mul_le_mul h4 (by omega) (by omega) (by omega)
  have a3 : 0 ≤ (1000 - x2) * (100 - x1) := Int.mul_nonneg (by omega) (by omega)
  have a4 : (1000 - x2) * (100 - x1) ≤ 1000 * 100 := Int.mul_le_mul (by omega) (by omega) (by omega) (by omega)
  refine ⟨⟨a1, by omega⟩, ⟨a3, by omega⟩, ?_⟩
  rcases Int.lt_or_le 0 x2 with h | h
  · have := Int.mul_pos h (show (0 : Int) < x1 + 1 by omega)
    omega
  · have := Int.mul_pos (show (0 : Int) < 1000 - x2 by omega) (show (0 : Int) < 100 - x1 by omega)
    omega
theorem fans_r {x1 x2 : Int} : -1 ≤ fFans x1 x2 ∧ fFans x1 x2 ≤ 100000000000 := by
  unfold fFans
  split
  · omega
  · next h =>
    obtain ⟨b1, b2, b3⟩ := fans_b (x1 := x1) (x2 := x2) (by omega) (by omega) (by omega) (by omega)
    have h3 : 0 ≤ (1000000 * (x2 * (x1 + 1))) / (x2 * (x1 + 1) + (1000 - x2) * (100 - x1)) := Int.ediv_nonneg (by omega) (by omega)
    have h4 := Int.ediv_le_self (a := 1000000 * (x2 * (x1 + 1))) (x2 * (x1 + 1) + (1000 - x2) * (100 - x1)) (by omega)
    omega
theorem fans_r2 {x1 x2 : Int} : fFans x1 x2 < 2147483648 := by
  unfold fFans
  split
  · omega
  · next h =>
    obtain ⟨b1, b2, b3⟩ := fans_b (x1 := x1) (x2 := x2) (by omega) (by omega) (by omega) (by omega)
    have h5 : (1000000 * (x2 * (x1 + 1))) / (x2 * (x1 + 1) + (1000 - x2) * (100 - x1)) ≤ 1000000 := Int.ediv_le_of_le_mul b3 (by omega)
    omega
section FansW
variable {X : Cx} {ws : va_W} {R : Room} {kc nc : Nat} {EX : EXT} {Z : ZT} {a0 : Value} {x1 x2 : Int}
theorem fans_w0 (h1 : 0 ≤ x1) (h2 : x1 ≤ 99) (h3 : 0 ≤ x2) (h4 : x2 ≤ 1000) (kk : WZ X mX10_fans R kc nc EX Z 65 [some a0, some (.int (Int32.ofInt x1)), some (.int (Int32.ofInt x2)), none, none, none, none] [.int (Int32.ofInt (fFans x1 x2))] ws) : WZ X mX10_fans R kc nc EX Z 21 [some a0, some (.int (Int32.ofInt x1)), some (.int (Int32.ofInt x2)), none, none, none, none] [] ws := by
  obtain ⟨b1, b2, b3⟩ := fans_b h1 h2 h3 h4
  have e1 : (Int32.ofInt x1 + 1).toInt = x1 + 1 := by
    rw [Int32.toInt_add, fq_i (by omega) (by omega), show (1 : Int32).toInt = 1 from rfl]; exact Int.bmod_eq_of_le (by omega) (by omega)
  have e2 : (100 - Int32.ofInt x1).toInt = 100 - x1 := by
    rw [Int32.toInt_sub, fq_i (by omega) (by omega), show (100 : Int32).toInt = 100 from rfl]; exact Int.bmod_eq_of_le (by omega) (by omega)
  have e3 : (Int32.ofInt x2).toInt64.toInt = x2 := fq_l (fq_i (by omega) (by omega))
  have p1 : ((Int32.ofInt x2).toInt64 * (Int32.ofInt x1 + 1).toInt64).toInt = x2 * (x1 + 1) := fq_m e3 (fq_l e1) rfl (by omega) (by omega)
  have p2 : ((1000 - (Int32.ofInt x2).toInt64) * (100 - Int32.ofInt x1).toInt64).toInt = (1000 - x2) * (100 - x1) := fq_m (fq_s (x := 1000) rfl e3 (by omega) (by omega)) (fq_l e2) rfl (by omega) (by omega)
  have p3 : ((Int32.ofInt x2).toInt64 * (Int32.ofInt x1 + 1).toInt64 + (1000 - (Int32.ofInt x2).toInt64) * (100 - Int32.ofInt x1).toInt64).toInt = x2 * (x1 + 1) + (1000 - x2) * (100 - x1) := fq_a p1 p2 (by omega) (by omega)
  refine w_iload_n (k := 2) (i := 2) (by decide +kernel) rfl rfl ?_
  refine w_i2l (by decide +kernel) ?_
  refine w_iload_n (k := 1) (i := 1) (by decide +kernel) rfl rfl ?_
  refine w_iconst (n := 1) (v := 1) (by decide +kernel) rfl ?_
  refine w_iadd (by decide +kernel) ?_
  refine w_i2l (by decide +kernel) ?_
  refine w_lmul (by decide +kernel) ?_
  refine w_lstore_n (k := 3) (i := 3) (by decide +kernel) rfl (by decide) rfl rfl ?_
  refine w_lload_n (k := 3) (i := 3) (by decide +kernel) rfl rfl ?_
  refine w_ldc2 (i := 277) (v := 1000) (tw_of (i := 1065) (by decide +kernel) rfl) (by decide +kernel) ?_
  refine w_iload_n (k := 2) (i := 2) (by decide +kernel) rfl rfl ?_
  refine w_i2l (by decide +kernel) ?_
  refine w_lsub (by decide +kernel) ?_
  refine w_bipush (n := 100) (v := 100) (by decide +kernel) rfl ?_
  refine w_iload_n (k := 1) (i := 1) (by decide +kernel) rfl rfl ?_
  refine w_isub (by decide +kernel) ?_
  refine w_i2l (by decide +kernel) ?_
  refine w_lmul (by decide +kernel) ?_
  refine w_ladd (by decide +kernel) ?_
  refine w_lstore (i := 5) (by decide +kernel) (by decide) rfl rfl ?_
  refine w_lload (i := 5) (by decide +kernel) rfl ?_
  refine w_lconst (n := 0) (v := 0) (by decide +kernel) rfl ?_
  refine w_lcmp (by decide +kernel) ?_
  refine w_if_gt (off := 7) (tgt := 56) (by decide +kernel) rfl ⟨fun _ => ?_, fun hn => absurd ((lg_cmp_gt _ _).mpr (Int64.lt_iff_toInt_lt.mpr (by rw [p3]; exact b3))) hn⟩
  refine w_ldc2 (i := 279) (v := 1000000) (tw_of (i := 1066) (by decide +kernel) rfl) (by decide +kernel) ?_
  refine w_lload_n (k := 3) (i := 3) (by decide +kernel) rfl rfl ?_
  refine w_lmul (by decide +kernel) ?_
  refine w_lload (i := 5) (by decide +kernel) rfl ?_
  refine w_ldiv (by decide +kernel) (fun h => by rw [h] at p3; rw [← p3] at b3; exact absurd b3 (by decide)) ?_
  refine w_l2i (by decide +kernel) ?_
  refine WZ.sub (L2 := [some a0, some (.int (Int32.ofInt x1)), some (.int (Int32.ofInt x2)), none, none, none, none]) ?_ ?_
  · intro i v h
    rcases i with _ | _ | _ | _ | _ | _ | _ | i <;> simp_all
  · have e := fq_t (fq_d (fq_m (a := 1000000) (x := 1000000) rfl p1 rfl (by omega) (by omega)) p3 (by omega) (by omega) b3)
    rw [e]
    rw [fFans, if_neg (by omega)] at kk
    exact kk
theorem fans_w1 (h1 : 0 ≤ x1) (h2 : x1 ≤ 99) (h3 : 0 ≤ x2) (h4 : x2 ≤ 1000) (kk : WZ X mX11_fans R kc nc EX Z 56 [some a0, some (.int (Int32.ofInt x1)), some (.int (Int32.ofInt x2)), none, none, none, none] [.int (Int32.ofInt (fFans x1 x2))] ws) : WZ X mX11_fans R kc nc EX Z 23 [some a0, some (.int (Int32.ofInt x1)), some (.int (Int32.ofInt x2)), none, none, none, none] [] ws := by
  obtain ⟨b1, b2, b3⟩ := fans_b h1 h2 h3 h4
  have e1 : (Int32.ofInt x1 + 1).toInt = x1 + 1 := by
    rw [Int32.toInt_add, fq_i (by omega) (by omega), show (1 : Int32).toInt = 1 from rfl]; exact Int.bmod_eq_of_le (by omega) (by omega)
  have e2 : (100 - Int32.ofInt x1).toInt = 100 - x1 := by
    rw [Int32.toInt_sub, fq_i (by omega) (by omega), show (100 : Int32).toInt = 100 from rfl]; exact Int.bmod_eq_of_le (by omega) (by omega)
  have e4 : (1000 - Int32.ofInt x2).toInt = 1000 - x2 := by
    rw [Int32.toInt_sub, fq_i (by omega) (by omega), show (1000 : Int32).toInt = 1000 from rfl]; exact Int.bmod_eq_of_le (by omega) (by omega)
  have e3 : (Int32.ofInt x2).toInt64.toInt = x2 := fq_l (fq_i (by omega) (by omega))
  have p1 : ((Int32.ofInt x2).toInt64 * (Int32.ofInt x1 + 1).toInt64).toInt = x2 * (x1 + 1) := fq_m e3 (fq_l e1) rfl (by omega) (by omega)
  have p2 : ((1000 - Int32.ofInt x2).toInt64 * (100 - Int32.ofInt x1).toInt64).toInt = (1000 - x2) * (100 - x1) := fq_m (fq_l e4) (fq_l e2) rfl (by omega) (by omega)
  have p3 : ((Int32.ofInt x2).toInt64 * (Int32.ofInt x1 + 1).toInt64 + (1000 - Int32.ofInt x2).toInt64 * (100 - Int32.ofInt x1).toInt64).toInt = x2 * (x1 + 1) + (1000 - x2) * (100 - x1) := fq_a p1 p2 (by omega) (by omega)
  refine w_iload_n (k := 2) (i := 2) (by decide +kernel) rfl rfl ?_
  refine w_i2l (by decide +kernel) ?_
  refine w_iload_n (k := 1) (i := 1) (by decide +kernel) rfl rfl ?_
  refine w_iconst (n := 1) (v := 1) (by decide +kernel) rfl ?_
  refine w_iadd (by decide +kernel) ?_
  refine w_i2l (by decide +kernel) ?_
  refine w_lmul (by decide +kernel) ?_
  refine w_lstore_n (k := 3) (i := 3) (by decide +kernel) rfl (by decide) rfl rfl ?_
  refine w_sipush (n := 1000) (v := 1000) (by decide +kernel) rfl ?_
  refine w_iload_n (k := 2) (i := 2) (by decide +kernel) rfl rfl ?_
  refine w_isub (by decide +kernel) ?_
  refine w_i2l (by decide +kernel) ?_
  refine w_bipush (n := 100) (v := 100) (by decide +kernel) rfl ?_
  refine w_iload_n (k := 1) (i := 1) (by decide +kernel) rfl rfl ?_
  refine w_isub (by decide +kernel) ?_
  refine w_i2l (by decide +kernel) ?_
  refine w_lmul (by decide +kernel) ?_
  refine w_lstore (i := 5) (by decide +kernel) (by decide) rfl rfl ?_
  refine w_ldc2 (i := 457) (v := 1000000) (tw_of (i := 1793) (by decide +kernel) rfl) (by decide +kernel) ?_
  refine w_lload_n (k := 3) (i := 3) (by decide +kernel) rfl rfl ?_
  refine w_lmul (by decide +kernel) ?_
  refine w_lload_n (k := 3) (i := 3) (by decide +kernel) rfl rfl ?_
  refine w_lload (i := 5) (by decide +kernel) rfl ?_
  refine w_ladd (by decide +kernel) ?_
  refine w_ldiv (by decide +kernel) (fun h => by rw [h] at p3; rw [← p3] at b3; exact absurd b3 (by decide)) ?_
  refine w_l2i (by decide +kernel) ?_
  refine WZ.sub (L2 := [some a0, some (.int (Int32.ofInt x1)), some (.int (Int32.ofInt x2)), none, none, none, none]) ?_ ?_
  · intro i v h
    rcases i with _ | _ | _ | _ | _ | _ | _ | i <;> simp_all
  · have e := fq_t (fq_d (fq_m (a := 1000000) (x := 1000000) rfl p1 rfl (by omega) (by omega)) p3 (by omega) (by omega) b3)
    rw [e]
    rw [fFans, if_neg (by omega)] at kk
    exact kk
end FansW
theorem fans_bw {x1 x2 : Int} : bw (fFans x1 x2) = fFans x1 x2 := bw_id (by have := (fans_r (x1 := x1) (x2 := x2)).1; omega) fans_r2
theorem eX10_fans {X : Cx} {ads : List Nat} {sk : List Sk} (hA : ads.length = sk.length ∧ sk.length ≤ 1000) {kp : Option Nat} (hp0 : ocS sk kp) (x1 x2 : Int) (σ : Sg) : CF X mX10_fans ads sk [.inr (some 0), .inl x1, .inl x2] σ (wP σ) (some (fX10_fans x1 x2)) := by
  refine CF.of ⟨pX10_fans_ok, tbX10_ok, hA.1, hA.2⟩ (plainFor_of_name plX10) (Nat.le_of_ble_eq_true rfl) ?_
  show J X mX10_fans pX10_fans tbX10 (rmD 1 0 0) 0 0 E0 (fun a => FM X mX10_fans ads sk ((wP σ) a)) ads sk (0, [some (.inr (some 0)), some (.inl x1), some (.inl x2), none, none, none, none], [], σ) (some (fX10_fans x1 x2))
  refine j_run 0 2 rfl ?_
  refine j_csT 2 3 2 rfl rfl mwX10_within (eX10_within hA x1 99 _) rfl rfl (rok rfl rfl) (Nat.le_of_ble_eq_true rfl) (fun _ => ?_)
  refine jb_if 3 (fX10_within x1 99 = 0) rfl rfl Iff.rfl (fun h => ?_) (fun h => ?_)
  · have e : fX10_fans x1 x2 = -1 := by
      simp only [fX10_within] at h
      rw [fX10_fans, fFans, if_pos]
      split at h <;> (try split at h) <;> omega
    rw [e]
    refine j_run 8 1 rfl ?_
    exact j_iret 9 rfl rfl rfl
  · have g1 : 0 ≤ x1 ∧ x1 ≤ 99 := by
      simp only [fX10_within] at h
      split at h <;> (try split at h) <;> omega
    refine j_run 4 2 rfl ?_
    refine j_csT 6 3 2 rfl rfl mwX10_within (eX10_within hA x2 1000 _) rfl rfl (rok rfl rfl) (Nat.le_of_ble_eq_true rfl) (fun _ => ?_)
    refine jb_if 7 (¬ fX10_within x2 1000 = 0) rfl rfl Iff.rfl (fun h2 => ?_) (fun h2 => ?_)
    · have g2 : 0 ≤ x2 ∧ x2 ≤ 1000 := by
        simp only [fX10_within] at h2
        split at h2 <;> (try split at h2) <;> omega
      refine J.step (ps2 := (65, [some (.inr (some 0)), some (.inl x1), some (.inl x2), none, none, none, none], [.inl (fX10_fans x1 x2)], σ)) (fun ho a ha hq => ⟨ha, ⟨hq.1, hq.2.1, nrS_cons fans_bw (fun v hv => absurd hv List.not_mem_nil)⟩, fun Z kk => ?_⟩) (j_iret 10 rfl rfl rfl)
      exact fans_w0 g1.1 g1.2 g2.1 g2.2 kk
    · have e : fX10_fans x1 x2 = -1 := by
        have h2 := Decidable.not_not.mp h2
        simp only [fX10_within] at h2
        rw [fX10_fans, fFans, if_pos]
        split at h2 <;> (try split at h2) <;> omega
      rw [e]
      refine j_run 8 1 rfl ?_
      exact j_iret 9 rfl rfl rfl
theorem eX11_fans {X : Cx} {ads : List Nat} {sk : List Sk} (hA : ads.length = sk.length ∧ sk.length ≤ 1000) (hp0 : ocM sk) (x1 x2 : Int) (σ : Sg) : CF X mX11_fans ads sk [.inr (some 84), .inl x1, .inl x2] σ (wP σ) (some (fX11_fans x1 x2)) := by
  refine CF.of ⟨pX11_fans_ok, tbX11_ok, hA.1, hA.2⟩ (plainFor_of_name plX11) (Nat.le_of_ble_eq_true rfl) ?_
  show J X mX11_fans pX11_fans tbX11 (rmD 1 0 0) 0 0 E0 (fun a => FM X mX11_fans ads sk ((wP σ) a)) ads sk (0, [some (.inr (some 84)), some (.inl x1), some (.inl x2), none, none, none, none], [], σ) (some (fX11_fans x1 x2))
  refine j_run 0 3 rfl ?_
  refine j_csT 3 0 3 rfl rfl mwX11_isIn (eX11_isIn hA x1 0 99 _) rfl rfl (rok rfl rfl) (Nat.le_of_ble_eq_true rfl) (fun _ => ?_)
  refine jb_if 4 (fX11_isIn x1 0 99 = 0) rfl rfl Iff.rfl (fun h => ?_) (fun h => ?_)
  · have e : fX11_fans x1 x2 = -1 := by
      simp only [fX11_isIn] at h
      rw [fX11_fans, fFans, if_pos]
      split at h <;> (try split at h) <;> omega
    rw [e]
    refine j_run 10 1 rfl ?_
    exact j_iret 11 rfl rfl rfl
  · have g1 : 0 ≤ x1 ∧ x1 ≤ 99 := by
      simp only [fX11_isIn] at h
      split at h <;> (try split at h) <;> omega
    refine j_run 5 3 rfl ?_
    refine j_csT 8 0 3 rfl rfl mwX11_isIn (eX11_isIn hA x2 0 1000 _) rfl rfl (rok rfl rfl) (Nat.le_of_ble_eq_true rfl) (fun _ => ?_)
    refine jb_if 9 (¬ fX11_isIn x2 0 1000 = 0) rfl rfl Iff.rfl (fun h2 => ?_) (fun h2 => ?_)
    · have g2 : 0 ≤ x2 ∧ x2 ≤ 1000 := by
        simp only [fX11_isIn] at h2
        split at h2 <;> (try split at h2) <;> omega
      refine J.step (ps2 := (56, [some (.inr (some 84)), some (.inl x1), some (.inl x2), none, none, none, none], [.inl (fX11_fans x1 x2)], σ)) (fun ho a ha hq => ⟨ha, ⟨hq.1, hq.2.1, nrS_cons fans_bw (fun v hv => absurd hv List.not_mem_nil)⟩, fun Z kk => ?_⟩) (j_iret 12 rfl rfl rfl)
      exact fans_w1 g1.1 g1.2 g2.1 g2.2 kk
    · have e : fX11_fans x1 x2 = -1 := by
        have h2 := Decidable.not_not.mp h2
        simp only [fX11_isIn] at h2
        rw [fX11_fans, fFans, if_pos]
        split at h2 <;> (try split at h2) <;> omega
      rw [e]
      refine j_run 10 1 rfl ?_
      exact j_iret 11 rfl rfl rfl
