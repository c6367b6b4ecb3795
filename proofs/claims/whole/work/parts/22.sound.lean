/-! simple instructions are done right -/
theorem ssL_i {L L2 : List (Option PV)} {st st2 : List PV} {i : Nat} (h : ssL L st i false = some (L2, st2)) : ∃ z, ldL L i = some (.inl z) ∧ L2 = L ∧ st2 = .inl z :: st := by
  unfold ssL at h
  split at h
  · next z hz => simp at h; exact ⟨z, hz, h.1.symm, h.2.symm⟩
  · simp at h
  · simp at h
theorem ssL_a {L L2 : List (Option PV)} {st st2 : List PV} {i : Nat} (h : ssL L st i true = some (L2, st2)) : ∃ z, ldL L i = some (.inr z) ∧ L2 = L ∧ st2 = .inr z :: st := by
  unfold ssL at h
  split at h
  · simp at h
  · next z hz => simp at h; exact ⟨z, hz, h.1.symm, h.2.symm⟩
  · simp at h
theorem ssS_i {L L2 : List (Option PV)} {st st2 : List PV} {i : Nat} (h : ssS L st i false = some (L2, st2)) : ∃ z, st = .inl z :: st2 ∧ i < L.length ∧ L2 = L.set i (some (.inl z)) := by
  unfold ssS at h
  split at h
  · next z t =>
    simp only [Bool.false_eq_true, if_false] at h
    split at h
    · next hb => cases h; exact ⟨z, rfl, Nat.le_of_ble_eq_true hb, rfl⟩
    · cases h
  · simp at h
  · cases h
theorem ssS_a {L L2 : List (Option PV)} {st st2 : List PV} {i : Nat} (h : ssS L st i true = some (L2, st2)) : ∃ z, st = .inr (some z) :: st2 ∧ i < L.length ∧ L2 = L.set i (some (.inr (some z))) := by
  unfold ssS at h
  split at h
  · simp at h
  · next z t =>
    simp only [if_true] at h
    split at h
    · next hb => cases h; exact ⟨z, rfl, Nat.le_of_ble_eq_true hb, rfl⟩
    · cases h
  · cases h
theorem ss2_of {L L2 : List (Option PV)} {st st2 : List PV} {f : Int → Int → Int} (h : ss2 L st f = some (L2, st2)) : ∃ x y t, st = .inl y :: .inl x :: t ∧ L2 = L ∧ st2 = .inl (f x y) :: t := by
  unfold ss2 at h
  split at h
  · next y x t => cases h; exact ⟨x, y, t, rfl, rfl, rfl⟩
  · cases h
theorem ss1_of {L L2 : List (Option PV)} {st st2 : List PV} {f : Int → Int} (h : ss1 L st f = some (L2, st2)) : ∃ x t, st = .inl x :: t ∧ L2 = L ∧ st2 = .inl (f x) :: t := by
  unfold ss1 at h
  split at h
  · next x t => cases h; exact ⟨x, t, rfl, rfl, rfl⟩
  · cases h
theorem ldL_nr {L : List (Option PV)} {i : Nat} {v : PV} (hL : nrL L) (h : ldL L i = some v) : nrV v := hL i v (ldL_get h)
theorem i8_of {n : Int} (h : rgN n 128 = true) : (Int8.ofInt n).toInt32 = Int32.ofInt n := by
  obtain ⟨h1, h2⟩ := rgN_of h
  apply Int32.toInt_inj.mp
  rw [Int8.toInt_toInt32, Int8.toInt_ofInt, ← bw_eq, bw_id (by omega) (by omega), show Int8.size = 256 from rfl, Int.bmod_eq_of_le] <;> omega
theorem i16_of {n : Int} (h : rgN n 32768 = true) : (Int16.ofInt n).toInt32 = Int32.ofInt n := by
  obtain ⟨h1, h2⟩ := rgN_of h
  apply Int32.toInt_inj.mp
  rw [Int16.toInt_toInt32, Int16.toInt_ofInt, ← bw_eq, bw_id (by omega) (by omega), show Int16.size = 65536 from rfl, Int.bmod_eq_of_le] <;> omega
theorem nr_small {n b : Int} (h : rgN n b = true) (hb : b ≤ 32768) : bw n = n := by
  obtain ⟨h1, h2⟩ := rgN_of h
  exact bw_id (by omega) (by omega)
def ctOK (own : String) (ct : Nat → Option Int) : Prop := ∀ j v, ct j = some v → bw v = v ∧ Cond.constant own j (Int32.ofInt v) ∈ TW
section Sound
variable {X : Cx} {M : MM} {P : PG} {R : Room} {kc nc : Nat} {EX : EXT} {Z : ZT} {ads : List Nat} {ws : va_W}
set_option maxHeartbeats 4000000 in
theorem sstep_ok {ct : Nat → Option Int} (hct : ctOK M.1.cls ct) (hP : okP M.2.1 P = true) {n pc pc2 : Nat} {i : Instr} {L L2 : List (Option PV)} {st st2 : List PV} (hn : P[n]? = some (i, pc, pc2)) (hs : sstep ct i L st = some (L2, st2)) (hl : L.length = M.2.2.1) (h1 : nrL L) (h2 : nrS st) :
    (L2.length = M.2.2.1 ∧ nrL L2 ∧ nrS st2) ∧ (WZ X M R kc nc EX Z pc2 (emL X ads L2) (emS X ads st2) ws → WZ X M R kc nc EX Z pc (emL X ads L) (emS X ads st) ws) := by
  unfold sstep at hs
  split at hs
  case h_1 n => 
    split at hs
    · next hr =>
      cases hs
      obtain ⟨hd, rfl⟩ := okP_get hP hn (by simp [lenI])
      exact ⟨⟨hl, h1, nrS_cons (nr_small hr (by decide)) h2⟩, fun k => w_iconst hd rfl k⟩
    · cases hs
  case h_2 n => 
    split at hs
    · next hr =>
      cases hs
      obtain ⟨hd, rfl⟩ := okP_get hP hn (by simp [lenI])
      exact ⟨⟨hl, h1, nrS_cons (nr_small hr (by decide)) h2⟩, fun k => w_bipush hd (i8_of hr) k⟩
    · cases hs
  case h_3 n => 
    split at hs
    · next hr =>
      cases hs
      obtain ⟨hd, rfl⟩ := okP_get hP hn (by simp [lenI])
      exact ⟨⟨hl, h1, nrS_cons (nr_small hr (by decide)) h2⟩, fun k => w_sipush hd (i16_of hr) k⟩
    · cases hs
  case h_4 j => 
    split at hs
    · next v hv =>
      cases hs
      obtain ⟨hd, rfl⟩ := okP_get hP hn (by simp [lenI])
      exact ⟨⟨hl, h1, nrS_cons (hct j _ hv).1 h2⟩, fun k => w_ldc (hct j _ hv).2 hd k⟩
    · cases hs
  case h_5 j => 
    split at hs
    · next v hv =>
      cases hs
      obtain ⟨hd, rfl⟩ := okP_get hP hn (by simp [lenI])
      exact ⟨⟨hl, h1, nrS_cons (hct j _ hv).1 h2⟩, fun k => w_ldcw (hct j _ hv).2 hd k⟩
    · cases hs
  case h_6 k => 
    obtain ⟨z, hz, rfl, rfl⟩ := ssL_i hs
    obtain ⟨hd, rfl⟩ := okP_get hP hn (by simp [lenI])
    exact ⟨⟨hl, h1, nrS_cons (ldL_nr h1 hz) h2⟩, fun kk => w_iload_n hd rfl (emL_get hz) kk⟩
  case h_7 k => 
    obtain ⟨z, hz, rfl, rfl⟩ := ssL_i hs
    obtain ⟨hd, rfl⟩ := okP_get hP hn (by simp [lenI])
    exact ⟨⟨hl, h1, nrS_cons (ldL_nr h1 hz) h2⟩, fun kk => w_iload hd (emL_get hz) kk⟩
  case h_8 k => 
    obtain ⟨z, hz, rfl, rfl⟩ := ssL_a hs
    obtain ⟨hd, rfl⟩ := okP_get hP hn (by simp [lenI])
    cases z with
    | none => exact ⟨⟨hl, h1, nrS_cons (ldL_nr h1 hz) h2⟩, fun kk => w_aload_nN hd rfl (emL_get hz) kk⟩
    | some z => exact ⟨⟨hl, h1, nrS_cons (ldL_nr h1 hz) h2⟩, fun kk => w_aload_n hd rfl (emL_get hz) kk⟩
  case h_9 k => 
    obtain ⟨z, hz, rfl, rfl⟩ := ssL_a hs
    obtain ⟨hd, rfl⟩ := okP_get hP hn (by simp [lenI])
    cases z with
    | none => exact ⟨⟨hl, h1, nrS_cons (ldL_nr h1 hz) h2⟩, fun kk => w_aloadN hd (emL_get hz) kk⟩
    | some z => exact ⟨⟨hl, h1, nrS_cons (ldL_nr h1 hz) h2⟩, fun kk => w_aload hd (emL_get hz) kk⟩
  case h_10 k => 
    obtain ⟨z, rfl, hi, rfl⟩ := ssS_i hs
    obtain ⟨hd, rfl⟩ := okP_get hP hn (by simp [lenI])
    exact ⟨⟨by rw [List.length_set]; exact hl, nrL_set h1 (nrS_head h2), nrS_tail h2⟩, fun kk => w_istore_n hd rfl (hl ▸ hi) (okS_em X ads L _) (emL_set X ads L _ (.inl z)) kk⟩
  case h_11 k => 
    obtain ⟨z, rfl, hi, rfl⟩ := ssS_i hs
    obtain ⟨hd, rfl⟩ := okP_get hP hn (by simp [lenI])
    exact ⟨⟨by rw [List.length_set]; exact hl, nrL_set h1 (nrS_head h2), nrS_tail h2⟩, fun kk => w_istore hd (hl ▸ hi) (okS_em X ads L _) (emL_set X ads L _ (.inl z)) kk⟩
  case h_12 k => 
    obtain ⟨z, rfl, hi, rfl⟩ := ssS_a hs
    obtain ⟨hd, rfl⟩ := okP_get hP hn (by simp [lenI])
    exact ⟨⟨by rw [List.length_set]; exact hl, nrL_set h1 (nrS_head h2), nrS_tail h2⟩, fun kk => w_astore_n hd rfl (hl ▸ hi) (okS_em X ads L _) (emL_set X ads L _ (.inr (some z))) kk⟩
  case h_13 k => 
    obtain ⟨z, rfl, hi, rfl⟩ := ssS_a hs
    obtain ⟨hd, rfl⟩ := okP_get hP hn (by simp [lenI])
    exact ⟨⟨by rw [List.length_set]; exact hl, nrL_set h1 (nrS_head h2), nrS_tail h2⟩, fun kk => w_astore hd (hl ▸ hi) (okS_em X ads L _) (emL_set X ads L _ (.inr (some z))) kk⟩
  case h_14 k nn => 
    split at hs
    · next z hz =>
      split at hs
      · next hb =>
        cases hs
        obtain ⟨hd, rfl⟩ := okP_get hP hn (by simp [lenI])
        exact ⟨⟨by rw [List.length_set]; exact hl, nrL_set h1 (bw_bw _), h2⟩, fun kk => w_iinc hd (emL_get hz) (by rw [ofI_bw, Int32.ofInt_add]) (hl ▸ Nat.le_of_ble_eq_true hb) (okS_em X ads L _) (emL_set X ads L _ (.inl (bw (z + nn)))) kk⟩
      · cases hs
    · cases hs
  case h_15 =>
    obtain ⟨x, y, t, rfl, rfl, rfl⟩ := ss2_of hs
    obtain ⟨hd, rfl⟩ := okP_get hP hn (by simp [lenI])
    refine ⟨⟨hl, h1, nrS_cons (bw_bw _) (nrS_tail (nrS_tail h2))⟩, fun kk => w_iadd hd ?_⟩
    simpa only [lenI, emS, List.map_cons, em, ofI_bw, Int32.ofInt_add] using kk
  case h_16 =>
    obtain ⟨x, y, t, rfl, rfl, rfl⟩ := ss2_of hs
    obtain ⟨hd, rfl⟩ := okP_get hP hn (by simp [lenI])
    refine ⟨⟨hl, h1, nrS_cons (bw_bw _) (nrS_tail (nrS_tail h2))⟩, fun kk => w_isub hd ?_⟩
    simpa only [lenI, emS, List.map_cons, em, ofI_bw, Int32.ofInt_sub] using kk
  case h_17 =>
    obtain ⟨x, y, t, rfl, rfl, rfl⟩ := ss2_of hs
    obtain ⟨hd, rfl⟩ := okP_get hP hn (by simp [lenI])
    refine ⟨⟨hl, h1, nrS_cons (bw_bw _) (nrS_tail (nrS_tail h2))⟩, fun kk => w_imul hd ?_⟩
    simpa only [lenI, emS, List.map_cons, em, ofI_bw, Int32.ofInt_mul] using kk
  case h_18 =>
    obtain ⟨x, y, t, rfl, rfl, rfl⟩ := ss2_of hs
    obtain ⟨hd, rfl⟩ := okP_get hP hn (by simp [lenI])
    refine ⟨⟨hl, h1, nrS_cons (bw_toInt _) (nrS_tail (nrS_tail h2))⟩, fun kk => w_iand hd ?_⟩
    simpa only [lenI, emS, List.map_cons, em, band, Int32.ofInt_toInt] using kk
  case h_19 =>
    obtain ⟨x, y, t, rfl, rfl, rfl⟩ := ss2_of hs
    obtain ⟨hd, rfl⟩ := okP_get hP hn (by simp [lenI])
    refine ⟨⟨hl, h1, nrS_cons (bw_toInt _) (nrS_tail (nrS_tail h2))⟩, fun kk => w_ior hd ?_⟩
    simpa only [lenI, emS, List.map_cons, em, bor, Int32.ofInt_toInt] using kk
  case h_20 =>
    obtain ⟨x, y, t, rfl, rfl, rfl⟩ := ss2_of hs
    obtain ⟨hd, rfl⟩ := okP_get hP hn (by simp [lenI])
    refine ⟨⟨hl, h1, nrS_cons (bw_toInt _) (nrS_tail (nrS_tail h2))⟩, fun kk => w_ixor hd ?_⟩
    simpa only [lenI, emS, List.map_cons, em, bxor, Int32.ofInt_toInt] using kk
  case h_21 =>
    obtain ⟨x, y, t, rfl, rfl, rfl⟩ := ss2_of hs
    obtain ⟨hd, rfl⟩ := okP_get hP hn (by simp [lenI])
    refine ⟨⟨hl, h1, nrS_cons (bw_toInt _) (nrS_tail (nrS_tail h2))⟩, fun kk => w_ishl hd ?_⟩
    simpa only [lenI, emS, List.map_cons, em, bshl, Int32.ofInt_toInt] using kk
  case h_22 =>
    obtain ⟨x, y, t, rfl, rfl, rfl⟩ := ss2_of hs
    obtain ⟨hd, rfl⟩ := okP_get hP hn (by simp [lenI])
    refine ⟨⟨hl, h1, nrS_cons (bw_toInt _) (nrS_tail (nrS_tail h2))⟩, fun kk => w_ishr hd ?_⟩
    simpa only [lenI, emS, List.map_cons, em, bshr, Int32.ofInt_toInt] using kk
  case h_23 =>
    obtain ⟨x, y, t, rfl, rfl, rfl⟩ := ss2_of hs
    obtain ⟨hd, rfl⟩ := okP_get hP hn (by simp [lenI])
    refine ⟨⟨hl, h1, nrS_cons (bw_toInt _) (nrS_tail (nrS_tail h2))⟩, fun kk => w_iushr hd ?_⟩
    simpa only [lenI, emS, List.map_cons, em, bushr, Int32.ofInt_toInt] using kk
  case h_24 =>
    obtain ⟨x, t, rfl, rfl, rfl⟩ := ss1_of hs
    obtain ⟨hd, rfl⟩ := okP_get hP hn (by simp [lenI])
    refine ⟨⟨hl, h1, nrS_cons (bw_bw _) (nrS_tail h2)⟩, fun kk => w_ineg hd ?_⟩
    simpa only [lenI, emS, List.map_cons, em, ofI_bw, Int32.ofInt_neg] using kk
  case h_25 =>
    obtain ⟨x, t, rfl, rfl, rfl⟩ := ss1_of hs
    obtain ⟨hd, rfl⟩ := okP_get hP hn (by simp [lenI])
    refine ⟨⟨hl, h1, nrS_cons (bw_toInt _) (nrS_tail h2)⟩, fun kk => w_i2b hd ?_⟩
    simpa only [lenI, emS, List.map_cons, em, i2b, Int32.ofInt_toInt] using kk
  case h_26 =>
    obtain ⟨x, t, rfl, rfl, rfl⟩ := ss1_of hs
    obtain ⟨hd, rfl⟩ := okP_get hP hn (by simp [lenI])
    refine ⟨⟨hl, h1, nrS_cons (bw_toInt _) (nrS_tail h2)⟩, fun kk => w_i2c hd ?_⟩
    simpa only [lenI, emS, List.map_cons, em, i2c, Int32.ofInt_toInt] using kk
  case h_27 =>
    split at hs
    · next v t =>
      cases hs
      obtain ⟨hd, rfl⟩ := okP_get hP hn (by simp [lenI])
      exact ⟨⟨hl, h1, nrS_cons (nrS_head h2) h2⟩, fun kk => w_dup hd (em_cat X ads v) kk⟩
    · cases hs
  case h_28 =>
    split at hs
    · next v w t =>
      cases hs
      obtain ⟨hd, rfl⟩ := okP_get hP hn (by simp [lenI])
      exact ⟨⟨hl, h1, nrS_cons (nrS_head h2) (nrS_cons (nrS_head (nrS_tail h2)) h2)⟩, fun kk => w_dup2 hd (em_cat X ads v) (em_cat X ads w) kk⟩
    · cases hs
  case h_29 =>
    split at hs
    · next v t =>
      cases hs
      obtain ⟨hd, rfl⟩ := okP_get hP hn (by simp [lenI])
      exact ⟨⟨hl, h1, nrS_tail h2⟩, fun kk => w_pop hd (em_cat X ads v) kk⟩
    · cases hs
  case h_30 =>
    cases hs
    obtain ⟨hd, rfl⟩ := okP_get hP hn (by simp [lenI])
    exact ⟨⟨hl, h1, nrS_cons trivial h2⟩, fun kk => w_null hd kk⟩
  case h_31 => cases hs
end Sound
