/-! arraycopy, switches, null tests, texts' references -/
theorem mkW_upd {X : Cx} {ads : List Nat} {σ τ : Sg} {sk : List Sk} {c : Nat} {s : Sk} {e : va_E} (h : sk[c]? = some s) (ho : ∀ c2, c2 ≠ c → τ c2 = σ c2) (he : mkc X ads (τ c) s = e) : (mkW X ads σ sk).set c (ads.getD c 0, e) = mkW X ads τ sk := by
  subst he
  apply List.ext_getElem?
  intro j
  rw [List.getElem?_set]
  by_cases hj : c = j
  · subst hj
    have hl : c < (mkW X ads σ sk).length := by
      rw [mkW, List.length_mapIdx]
      exact (List.getElem?_eq_some_iff.mp h).1
    rw [if_pos rfl, if_pos hl, mkW_get h]
  · rw [if_neg hj, mkW, mkW, List.getElem?_mapIdx, List.getElem?_mapIdx, ho j (fun q => hj q.symm)]
theorem acw_n : Cond.native arraycopyName ∈ TW := tw_of (i := 503) (by decide +kernel) (by decide +kernel)
theorem acw_s : Cond.static arraycopyName ∈ TW := tw_of (i := 502) (by decide +kernel) (by decide +kernel)
theorem acw_i : Cond.initialized "java/lang/System" ∈ TW := tw_of (i := 14) (by decide +kernel) (by decide +kernel)
section JM
variable {α : Type} {X : Cx} {M : MM} {P : PG} {tb : TB} {R : Room} {kc nc : Nat} {EX : EXT} {F : α → Prop × ZT} {ads : List Nat} {sk : List Sk} {L : List (Option PV)} {st : List PV} {σ : Sg} {res : Option α} {pc pc2 : Nat}
theorem em_sum_eq : ∀ st : List PV, ((emS X ads st).map fun v => v.category).sum = st.length := by
  intro st
  induction st with
  | nil => rfl
  | cons v t ih =>
    show ((em X ads v).category :: (emS X ads t).map fun v => v.category).sum = _
    rw [List.sum_cons, ih, em_cat, List.length_cons]; omega
theorem j_copy (n j : Nat) {idx c0 c1 N0 N1 : Nat} {sp dp k B0 B1 : Int} (hn : P[n]? = some (.invokestatic idx, pc, pc2)) (hm : tb.2.2.1[j]? = some (idx, arraycopyName)) (hs0 : sk[c0]? = some (.inr (0, N0))) (hs1 : sk[c1]? = some (.inr (0, N1))) (hB0 : (N0 : Int) = B0) (hB1 : (N1 : Int) = B1) (hR : 1 ≤ R.frames ∧ st.length + (nativeFrameWords "java/lang/System" "arraycopy" 5 + 11) ≤ R.locals)
    (kk : J X M P tb R kc nc EX F ads sk (pc2, L, st, cpy σ c0 sp c1 dp k) res) : J X M P tb R kc nc EX F ads sk (pc, L, .inl k :: .inl dp :: .inr (some c1) :: .inl sp :: .inr (some c0) :: st, σ) (grd (0 ≤ sp ∧ 0 ≤ dp ∧ 0 ≤ k ∧ sp + k ≤ B0 ∧ dp + k ≤ B1) res) := by
  refine j_grd (fun hg => J.step (ps2 := (pc2, L, st, cpy σ c0 sp c1 dp k)) (fun ho a ha hq => ⟨ha, ⟨hq.1, hq.2.1, nrS_tail (nrS_tail (nrS_tail (nrS_tail (nrS_tail hq.2.2))))⟩, fun Z kk => ?_⟩) kk)
  obtain ⟨hd, rfl⟩ := okP_get ho.1 hn (by simp [lenI])
  subst hB0; subst hB1
  obtain ⟨g1, g2, g3, g4, g5⟩ := hg
  have hk : bw k = k := nrS_head hq.2.2
  have hdp : bw dp = dp := nrS_head (nrS_tail hq.2.2)
  have hsp : bw sp = sp := nrS_head (nrS_tail (nrS_tail (nrS_tail hq.2.2)))
  intro p e s m args below meth cc H locs ls FF hE hP hD hS hl
  show W _ _ _ _ _ _ _ _ _ _ _ _ _ _ _ (F0 m pc ls (.int (Int32.ofInt k) :: .int (Int32.ofInt dp) :: em X ads (.inr (some c1)) :: .int (Int32.ofInt sp) :: em X ads (.inr (some c0)) :: emS X ads st))
  rw [sk_em ho hs0, sk_em ho hs1]
  have hts := FF.2.2.2.2.2.1
  have nn : ∀ {z : Int}, bw z = z → 0 ≤ z → ¬ Int32.ofInt z < 0 := fun hz h0 q => by
    have := (ofI_lt hz (y := 0) rfl).mp q
    omega
  refine va_copyi FF.1 FF.2.1 (FF.2.2.1.trans hl.1.symm) FF.2.2.2.2.1 (hts _ (ho.2.1.2.2.1 _ (List.mem_of_getElem? hm))) (hts _ acw_n) (hts _ acw_s) (hts _ acw_i) FF.2.2.2.2.2.2.2.2.1 hP hD hS c0 c1 0 0 (mkW_get hs0) (mkW_get hs1) rfl rfl rfl (nn hsp g1) (nn hdp g2) (nn hk g3) (by rw [cl_of hsp, cl_of hk]; omega) (by rw [cl_of hdp, cl_of hk]; omega) (fun _ _ => rfl) hR.1 ?_ hd ?_
  · rw [em_sum_eq]; exact hR.2
  · intro H1 locs1 h1 h2 h3
    have ew := mkW_upd (X := X) (ads := ads) (σ := σ) (τ := cpy σ c0 sp c1 dp k) (s := .inr (0, N1)) hs1 (fun c2 h => by funext i; unfold cpy; rw [if_neg (fun q => h q.1)]) rfl
    have ev : va_cpy (fun j : Nat => σ c0 (j : Int)) (fun j : Nat => σ c1 (j : Int)) (Int32.ofInt sp).toNatClampNeg (Int32.ofInt dp).toNatClampNeg (Int32.ofInt k).toNatClampNeg = fun j : Nat => cpy σ c0 sp c1 dp k c1 (j : Int) := by
      rw [cl_of hsp, cl_of hdp, cl_of hk]
      funext i
      unfold va_cpy cpy
      by_cases h : dp.toNat ≤ i ∧ i < dp.toNat + k.toNat
      · rw [if_pos h, if_pos ⟨rfl, by omega, by omega⟩]
        show σ c0 ((sp.toNat + (i - dp.toNat) : Nat) : Int) = _
        rw [show ((sp.toNat + (i - dp.toNat) : Nat) : Int) = sp + ((i : Int) - dp) by omega]
      · rw [if_neg h, if_neg (fun q => h ⟨by omega, by omega⟩)]
    rw [ev] at h1 h2
    exact kk p e s m args below meth cc H1 locs1 ls FF hE (by show va_P _ _ (mkW X ads (cpy σ c0 sp c1 dp k) sk) H1; rw [← ew]; exact h1) (by show va_D _ (mkW X ads (cpy σ c0 sp c1 dp k) sk); rw [← ew]; exact h2) h3 hl
theorem j_tsIn (n : Nat) {dflt lo hi off x v : Int} {offs : Array Int} {tgt : Nat} (hn : P[n]? = some (.tableswitch dflt lo hi offs, pc, pc2)) (hx : x = v) (hr : lo ≤ v ∧ v ≤ hi) (ho1 : offs[(v - lo).toNat]? = some off) (ht : (pc : Int) + off = (tgt : Int)) (k : J X M P tb R kc nc EX F ads sk (tgt, L, st, σ) res) : J X M P tb R kc nc EX F ads sk (pc, L, .inl x :: st, σ) res := by
  refine J.step (ps2 := (tgt, L, st, σ)) (fun ho a ha hq => ⟨ha, ⟨hq.1, hq.2.1, nrS_tail hq.2.2⟩, fun Z kk => ?_⟩) k
  have hd := okP_sw ho.1 hn rfl
  have hb : bw x = x := nrS_head hq.2.2
  subst hx
  exact w_tsIn hd (by rw [ofI_toInt hb]; omega) (by rw [ofI_toInt hb]; omega) (by rw [ofI_toInt hb]; exact ho1) ht kk
theorem j_tsOut (n : Nat) {dflt lo hi x : Int} {offs : Array Int} {tgt : Nat} (hn : P[n]? = some (.tableswitch dflt lo hi offs, pc, pc2)) (hx : x < lo ∨ hi < x) (ht : (pc : Int) + dflt = (tgt : Int)) (k : J X M P tb R kc nc EX F ads sk (tgt, L, st, σ) res) : J X M P tb R kc nc EX F ads sk (pc, L, .inl x :: st, σ) res := by
  refine J.step (ps2 := (tgt, L, st, σ)) (fun ho a ha hq => ⟨ha, ⟨hq.1, hq.2.1, nrS_tail hq.2.2⟩, fun Z kk => ?_⟩) k
  have hd := okP_sw ho.1 hn rfl
  have hb : bw x = x := nrS_head hq.2.2
  exact w_tsOut hd (by rw [ofI_toInt hb]; exact hx) ht kk
theorem j_ls (n : Nat) {dflt x off : Int} {ps : Array (Int × Int)} {tgt : Nat} (hn : P[n]? = some (.lookupswitch dflt ps, pc, pc2)) (hp : (ps.toList.zip (ps.toList.drop 1)).all (fun (a, next) => a.1 < next.1) = true) (ho1 : Op.lookupswitch.offset ps.toList dflt x = off) (ht : (pc : Int) + off = (tgt : Int)) (k : J X M P tb R kc nc EX F ads sk (tgt, L, st, σ) res) : J X M P tb R kc nc EX F ads sk (pc, L, .inl x :: st, σ) res := by
  refine J.step (ps2 := (tgt, L, st, σ)) (fun ho a ha hq => ⟨ha, ⟨hq.1, hq.2.1, nrS_tail hq.2.2⟩, fun Z kk => ?_⟩) k
  have hd := okP_sw ho.1 hn rfl
  have hb : bw x = x := nrS_head hq.2.2
  exact w_ls hd hp (by rw [ofI_toInt hb]; exact ho1) ht kk
theorem j_nnT (n : Nat) {off : Int} {tgt c : Nat} (hn : P[n]? = some (.ifnonnull off, pc, pc2)) (ht : (pc : Int) + off = (tgt : Int)) (k : J X M P tb R kc nc EX F ads sk (tgt, L, st, σ) res) : J X M P tb R kc nc EX F ads sk (pc, L, .inr (some c) :: st, σ) res := by
  refine J.step (ps2 := (tgt, L, st, σ)) (fun ho a ha hq => ⟨ha, ⟨hq.1, hq.2.1, nrS_tail hq.2.2⟩, fun Z kk => ?_⟩) k
  obtain ⟨hd, rfl⟩ := okP_get ho.1 hn (by simp [lenI])
  exact w_ifnonnull hd ht kk
theorem j_nnF (n : Nat) {off : Int} (hn : P[n]? = some (.ifnonnull off, pc, pc2)) (k : J X M P tb R kc nc EX F ads sk (pc2, L, st, σ) res) : J X M P tb R kc nc EX F ads sk (pc, L, .inr none :: st, σ) res := by
  refine J.step (ps2 := (pc2, L, st, σ)) (fun ho a ha hq => ⟨ha, ⟨hq.1, hq.2.1, nrS_tail hq.2.2⟩, fun Z kk => ?_⟩) k
  obtain ⟨hd, rfl⟩ := okP_get ho.1 hn (by simp [lenI])
  exact w_ifnonnullN hd kk
/-- a text constant's reference: cell 1000 + its number -/
theorem j_ldcS (n j : Nat) {idx i : Nat} (hn : P[n]? = some (.ldc idx, pc, pc2)) (hj : tb.2.2.2.2[j]? = some (idx, i)) (k : J X M P tb R kc nc EX F ads sk (pc2, L, .inr (some (1000 + i)) :: st, σ) res) : J X M P tb R kc nc EX F ads sk (pc, L, st, σ) res := by
  refine J.step (ps2 := (pc2, L, .inr (some (1000 + i)) :: st, σ)) (fun ho a ha hq => ⟨ha, ⟨hq.1, hq.2.1, nrS_cons trivial hq.2.2⟩, fun Z kk => ?_⟩) k
  obtain ⟨hd, rfl⟩ := okP_get ho.1 hn (by simp [lenI])
  obtain ⟨h1, h2, h3⟩ := ho.2.1.2.2.2.2 _ (List.mem_of_getElem? hj)
  refine w_ldcS i h1 h2 h3 hd ?_
  have : em X ads (.inr (some (1000 + i))) = .ref (X.2.2.2.2.1 i) := by
    show Value.ref (ea X ads (1000 + i)) = _
    have h1 : i < 24 := h1
    rw [ea, if_neg (by omega), if_pos (by omega), show 1000 + i - 1000 = i by omega]
  have kk2 : WZ X M R kc nc EX Z (pc + 2) (emL X ads L) (em X ads (.inr (some (1000 + i))) :: emS X ads st) (mkW X ads σ sk) := kk
  rw [this] at kk2
  exact kk2
end JM
