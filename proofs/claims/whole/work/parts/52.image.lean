/-! image: with a kept world, and the one that makes it -/
def pX10_image : PG := [(.iload_n 1, 0, 1), (.ifCond .eq 37, 1, 4), (.aload_n 0, 4, 5), (.getfield 21, 5, 8), (.ifnonnull 17, 8, 11), (.aload_n 0, 11, 12), (.new 9, 12, 15), (.dup, 15, 16), (.sipush 150, 16, 19), (.invokespecial 11, 19, 22), (.putfield 21, 22, 25), (.aload_n 0, 25, 26), (.getfield 21, 26, 29), (.aload_n 0, 29, 30), (.getfield 14, 30, 33), (.invokevirtual 329, 33, 36), (.iconst 1, 36, 37), (.ireturn, 37, 38), (.aload_n 0, 38, 39), (.getfield 21, 39, 42), (.ifnonnull 5, 42, 45), (.iconst 0, 45, 46), (.ireturn, 46, 47), (.aload_n 0, 47, 48), (.getfield 14, 48, 51), (.aload_n 0, 51, 52), (.getfield 21, 52, 55), (.invokevirtual 329, 55, 58), (.aload_n 0, 58, 59), (.getfield 27, 59, 62), (.iconst 0, 62, 63), (.putfield 72, 63, 66), (.iconst 1, 66, 67), (.ireturn, 67, 68)]
theorem pX10_image_ok : okP cX10_image pX10_image = true := by decide +kernel
def tbG : TB := (ctF [], [(21, 10, 2, 2), (14, 10, 0, 0), (27, 10, 3, 3), (72, 3, 3, 3)], [(329, yX9_copy), (11, yX9_init)], [], [])
theorem tbG_ok : tbOK RX10 tbG := tb_of [] [406, 404, 407, 243] [928, 31] (by decide +kernel) (by decide +kernel) (by decide +kernel) (by decide +kernel) (by decide +kernel) (by decide +kernel) (by decide +kernel) (by decide +kernel)
set_option maxRecDepth 20000 in
theorem oc1W : ocW SK1 106 := by unfold ocW ocF ocL ocR; (and_intros <;> rfl)
set_option maxRecDepth 20000 in
theorem oc1N : ocW SK1 1 := by unfold ocW ocF ocL ocR; (and_intros <;> rfl)
set_option maxRecDepth 20000 in
theorem oc1T : ocW SK1 28 := by unfold ocW ocF ocL ocR; (and_intros <;> rfl)
set_option maxRecDepth 20000 in
theorem oc0N : ocW SK0 1 := by unfold ocW ocF ocL ocR; (and_intros <;> rfl)
set_option maxRecDepth 20000 in
theorem oc0T : ocW SK0 28 := by unfold ocW ocF ocL ocR; (and_intros <;> rfl)
set_option maxRecDepth 20000 in
theorem oc1S : ocS SK1 (some 106) := ⟨by (and_intros <;> rfl), oc1N, oc1T, by unfold ocP; (and_intros <;> rfl), by unfold ocT; (and_intros <;> rfl), ⟨by (and_intros <;> rfl), by unfold ocT; (and_intros <;> rfl), oc1N, oc1T⟩, by unfold ocC; (and_intros <;> rfl), by unfold ocY; (and_intros <;> rfl), by unfold ocO; (and_intros <;> rfl)⟩
set_option maxRecDepth 20000 in
theorem oc0S : ocS SK0 none := ⟨by (and_intros <;> rfl), oc0N, oc0T, by unfold ocP; (and_intros <;> rfl), by unfold ocT; (and_intros <;> rfl), ⟨by (and_intros <;> rfl), by unfold ocT; (and_intros <;> rfl), oc0N, oc0T⟩, by unfold ocC; (and_intros <;> rfl), by unfold ocY; (and_intros <;> rfl), by unfold ocO; (and_intros <;> rfl)⟩
theorem oc1M : ocM SK1 := by unfold ocM; (and_intros <;> rfl)
theorem oc0M : ocM SK0 := by unfold ocM; (and_intros <;> rfl)
def fX10_image1 (x1 : Int) (σ : Sg) : Option (Int × Sg) := if x1 = 0 then (fX9_copy 1 106 σ).bind fun s => some (1, wr s 55 3 0) else (fX9_copy 106 1 σ).bind fun s => some (1, s)
def fX10_image0 (σ : Sg) : Option Sg := (fiX9_init_106 (zr σ 106)).bind fun s => (fX9_copy 106 1 s).bind fun t => some t
theorem eX10_image1 {X : Cx} {ads : List Nat} {sk : List Sk} (hA : ads.length = sk.length ∧ sk.length ≤ 1000) (hp0 : ocS sk (some 106)) (hw : ocW sk 106) (x1 : Int) (σ : Sg) : CF X mX10_image ads sk [.inr (some 0), .inl x1] σ wE (fX10_image1 x1 σ) := by
  refine CF.of ⟨pX10_image_ok, tbG_ok, hA.1, hA.2⟩ (plainFor_of_name plX10) (Nat.le_of_ble_eq_true rfl) ?_
  unfold fX10_image1
  refine j_run 0 1 rfl ?_
  refine jc_if_eq 1 rfl rfl (fun _ => ?_) (fun _ => ?_)
  · refine j_run 18 1 rfl ?_
    refine j_gr 19 0 rfl rfl hp0.1 rfl ?_
    refine j_nnT 20 rfl rfl ?_
    refine j_run 23 1 rfl ?_
    refine j_gr 24 1 rfl rfl hp0.1 rfl ?_
    refine j_run 25 1 rfl ?_
    refine j_gr 26 0 rfl rfl hp0.1 rfl ?_
    refine j_cv 27 0 1 rfl rfl mwX9_copy hp0.2.1.1 rfl rfl (eX9_copy hA hp0.2.1 hw _) rfl rfl (rok rfl rfl) (Nat.le_of_ble_eq_true rfl) (fun s _ _ => ?_)
    refine j_run 28 1 rfl ?_
    refine j_gr 29 2 rfl rfl hp0.1 rfl ?_
    refine j_run 30 1 rfl ?_
    refine j_pf 31 3 rfl rfl hp0.2.2.2.1.1 rfl rfl (Or.inl rfl) ?_
    refine j_run 32 1 rfl ?_
    exact j_zret 33 rfl rfl (by decide) rfl
  · refine j_run 2 1 rfl ?_
    refine j_gr 3 0 rfl rfl hp0.1 rfl ?_
    refine j_nnT 4 rfl rfl ?_
    refine j_run 11 1 rfl ?_
    refine j_gr 12 0 rfl rfl hp0.1 rfl ?_
    refine j_run 13 1 rfl ?_
    refine j_gr 14 1 rfl rfl hp0.1 rfl ?_
    refine j_cv 15 0 1 rfl rfl mwX9_copy hw.1 rfl rfl (eX9_copy hA hw hp0.2.1 _) rfl rfl (rok rfl rfl) (Nat.le_of_ble_eq_true rfl) (fun s _ _ => ?_)
    refine j_run 16 1 rfl ?_
    exact j_zret 17 rfl rfl (by decide) rfl
theorem eX10_imageN {X : Cx} {ads : List Nat} {sk : List Sk} (hA : ads.length = sk.length ∧ sk.length ≤ 1000) (hp0 : ocS sk none) (σ : Sg) : CF X mX10_image ads sk [.inr (some 0), .inl 0] σ wE (some (0, σ)) := by
  refine CF.of ⟨pX10_image_ok, tbG_ok, hA.1, hA.2⟩ (plainFor_of_name plX10) (Nat.le_of_ble_eq_true rfl) ?_
  refine j_run 0 1 rfl ?_
  refine jb_if 1 ((0 : Int) = 0) rfl rfl Iff.rfl (fun _ => ?_) (fun h => absurd rfl h)
  refine j_run 18 1 rfl ?_
  refine j_gr 19 0 rfl rfl hp0.1 rfl ?_
  refine j_nnF 20 rfl ?_
  refine j_run 21 1 rfl ?_
  exact j_zret 22 rfl rfl (by decide) rfl
def QAi (X : Cx) (ads : List Nat) (n : Nat) (sk : List Sk) (σ : Sg) : Option Value → va_W → Prop := fun v ws => v = some (.int 1) ∧ ∃ new : List Nat, new.length = n ∧ ws = mkW X (ads ++ new) σ sk
def FAi (X : Cx) (ads : List Nat) (n : Nat) (sk : List Sk) (mc ms : Nat) (σ : Sg) : Prop × ZT := (True, ZM X (QAi X ads n sk σ) mc ms)
theorem j_iretA {X : Cx} {M : MM} {P : PG} {tb : TB} {EX : EXT} {ads : List Nat} {sk : List Sk} {L : List (Option PV)} {σ : Sg} {pc pc2 : Nat} (n : Nat) {d k mc ms : Nat} {ads0 new : List Nat} {sk0 : List Sk} (hn : P[n]? = some (.ireturn, pc, pc2)) (hr : M.2.2.2.1 = some .boolean) (hads : ads = ads0 ++ new) (hk : new.length = k) (hsk : sk = sk0) : J X M P tb (rmD d mc ms) mc ms EX (FAi X ads0 k sk0 mc ms) ads sk (pc, L, [.inl 1], σ) (some σ) := by
  intro ho a2 ha hq
  cases ha
  subst hads
  subst hsk
  obtain ⟨hd, rfl⟩ := okP_get ho.1 hn (by simp [lenI])
  refine ⟨trivial, ?_⟩
  intro p e s m args below meth cc H locs ls FF hE hP hD hS hl
  refine W.zret (ty := .boolean) FF.1 FF.2.1 (FF.2.2.2.1.trans hr) rfl (fun t ht hW => ?_) hS.2.2 hd FF.2.2.2.2.2.2.1
  exact ⟨⟨_, _, rfl, ⟨rfl, new, hk, rfl⟩, WD.here FF.2.2.2.2.2.2.2.2.1 FF.2.2.2.2.2.2.2.2.2.1 FF.2.2.2.2.2.2.2.2.2.2 hP hD hS ht hW⟩, hS.F ht⟩
set_option maxRecDepth 20000 in
theorem eX10_imageA {X : Cx} {ads : List Nat} (hA : ads.length = SK0.length) (σ τ : Sg) (hτ : fX10_image0 σ = some τ) : CI X mX10_image (([.inr (some 0), .inl 1] : List PV).map (em X ads)) (mkW X ads σ SK0) 27 1546 (QAi X ads 27 SK1 τ) := by
  refine CI.of (plainFor_of_name plX10) rfl (Nat.le_of_ble_eq_true rfl) ?_
  rw [← argP_em]
  have key : J X mX10_image pX10_image tbG (rmD 20 27 1546) 0 0 E0 (FAi X ads 27 SK1 27 1546) ads SK0 (0, [some (.inr (some 0)), some (.inl 1)], [], σ) (fX10_image0 σ) := by
    unfold fX10_image0
    refine j_run 0 1 rfl ?_
    refine jb_if 1 ((1 : Int) = 0) rfl rfl Iff.rfl (fun h => absurd h (by decide)) (fun _ => ?_)
    refine j_run 2 1 rfl ?_
    refine j_gr 3 0 rfl rfl oc0S.1 rfl ?_
    refine j_nnF 4 rfl ?_
    refine j_run 5 1 rfl ?_
    refine j_new 6 9 rfl rfl (by decide) (tw_of (i := 29) (by decide +kernel) rfl) (tw_of (i := 30) (by decide +kernel) rfl) (tw_of (i := 2) (by decide +kernel) rfl) rfl ⟨(Nat.le_of_ble_eq_true rfl), (Nat.le_of_ble_eq_true rfl)⟩ (Nat.le_of_ble_eq_true rfl) (fun a => ?_)
    refine j_run 7 2 rfl ?_
    refine J.okA (fun hA1 => ?_)
    refine j_ci 9 1 1 rfl rfl mwiX9_init (iX9_init_106 hA1.1 _) rfl rfl ⟨⟨(Nat.le_of_ble_eq_true rfl), (Nat.le_of_ble_eq_true rfl)⟩, (Nat.le_of_ble_eq_true rfl), (Nat.le_of_ble_eq_true rfl)⟩ (Nat.le_of_ble_eq_true rfl) rfl ⟨rfl, (Nat.le_of_ble_eq_true rfl)⟩ (fun n1 s1 hn1 _ => ?_)
    refine j_prf (sk2 := SK1) 10 0 rfl rfl rfl rfl rfl (Or.inl rfl) rfl (by decide +kernel) ?_
    refine j_run 11 1 rfl ?_
    refine j_gr 12 0 rfl rfl oc1S.1 rfl ?_
    refine j_run 13 1 rfl ?_
    refine j_gr 14 1 rfl rfl oc1S.1 rfl ?_
    refine J.okA (fun hA2 => ?_)
    refine j_cv 15 0 1 rfl rfl mwX9_copy oc1W.1 rfl rfl (eX9_copy hA2 oc1W oc1N _) rfl rfl ⟨⟨(Nat.le_of_ble_eq_true rfl), (Nat.le_of_ble_eq_true rfl)⟩, (Nat.le_of_ble_eq_true rfl), (Nat.le_of_ble_eq_true rfl)⟩ (Nat.le_of_ble_eq_true rfl) (fun t _ _ => ?_)
    refine j_run 16 1 rfl ?_
    exact j_iretA (new := [a] ++ n1) 17 rfl rfl (by simp only [List.append_assoc]) (by simp only [List.length_append, List.length_cons, List.length_nil, hn1]) rfl
  exact (key ⟨pX10_image_ok, tbG_ok, hA, Nat.le_of_ble_eq_true rfl⟩ τ hτ ⟨rfl, argP_nr (As := [.inr (some 0), .inl 1]) (n := 2) (by
    intro v hv
    simp only [List.mem_cons, List.not_mem_nil, or_false] at hv
    rcases hv with rfl | rfl
    · trivial
    · rfl), fun v hv => absurd hv List.not_mem_nil⟩).2
/-- the law's case of image -/
def fLI_b (sx : Int → Int) (LL : Int) (k : Int → Sg → Option Unit) (x3 r : Int) (σ : Sg) : Option Unit := grd ((0 : Int) ≤ bw (x3 + 1) ∧ bw (x3 + 1) < LL) ((fX11_image (if sx (bw (x3 + 1)) = 0 then 0 else 1) σ).bind fun q => if r = q.1 then k (bw (x3 + 6)) q.2 else none)
def kI1 (sx : Int → Int) (LL : Int) (rec : Int → Sg → Option Unit) (x3 : Int) (σ : Sg) : Option Unit := grd ((0 : Int) ≤ bw (x3 + 1) ∧ bw (x3 + 1) < LL) ((fX10_image1 (if sx (bw (x3 + 1)) = 0 then 0 else 1) σ).bind fun q => fLI_b sx LL rec x3 q.1 q.2)
def kI0 (sx : Int → Int) (LL : Int) (rec : Int → Sg → Option Unit) (x3 : Int) (σ : Sg) : Option Unit := grd ((0 : Int) ≤ bw (x3 + 1) ∧ bw (x3 + 1) < LL) (if sx (bw (x3 + 1)) = 0 then fLI_b sx LL rec x3 0 σ else (fX10_image0 σ).bind fun τ => fLI_b sx LL (fL_law sx LL (kI1 sx LL) FU) x3 1 τ)
section JI2
variable {X : Cx} {ads : List Nat} {sk : List Sk} {kc nc : Nat} {EX : EXT} {sx : Int → Int} {LL : Int}
abbrev L18 (x3 : Int) : List (Option PV) := [some (.inr (some 12000)), some (.inr (some 0)), some (.inr (some 84)), some (.inl x3)]
set_option maxRecDepth 40000 in
theorem JLI_b (hA : ads.length = sk.length ∧ sk.length ≤ 1000) (hk : kc ≤ 600000 ∧ nc ≤ 7302250) (hp2 : ocM sk) (hX : scrOK X EX sx LL) {k : Int → Sg → Option Unit} (h18 : ∀ (x3 : Int) (σ : Sg), jL X kc nc EX ads sk (18, L18 x3, [], σ) (k x3 σ)) (x3 r : Int) (σ : Sg) : jL X kc nc EX ads sk (1383, L18 x3, [.inl r], σ) (fLI_b sx LL k x3 r σ) := by
  have tail : ∀ y : Int, jL X kc nc EX ads sk (1397, L18 x3, [.inl y, .inr (some 84), .inl r], σ) ((fX11_image y σ).bind fun q => if r = q.1 then k (bw (x3 + 6)) q.2 else none) := by
    intro y
    refine j_cv 969 75 1 rfl rfl mwX11_image hp2.1 rfl rfl (eX11_image hA hp2 y _) rfl rfl (rokL hk rfl rfl) (Nat.le_of_ble_eq_true rfl) (fun q _ _ => ?_)
    refine jc_icmp_eq 970 rfl rfl (fun _ => ?_) (fun _ => ?_)
    · refine j_run 990 1 rfl ?_
      refine j_goto 991 rfl rfl ?_
      exact h18 _ _
    · refine j_run 971 1 rfl ?_
      exact j_none
  unfold fLI_b
  refine j_run 959 5 rfl ?_
  refine j_scr 964 rfl hX ?_
  refine jb_if 965 (sx (bw (x3 + 1)) = 0) rfl rfl Iff.rfl (fun h => ?_) (fun h => ?_)
  · rw [if_pos h]
    refine j_run 968 1 rfl ?_
    exact tail 0
  · rw [if_neg h]
    refine j_run 966 1 rfl ?_
    refine j_goto 967 rfl rfl ?_
    exact tail 1
set_option maxRecDepth 40000 in
theorem JkI1 (hA : ads.length = sk.length ∧ sk.length ≤ 1000) (hk : kc ≤ 600000 ∧ nc ≤ 7302250) (hp1 : ocS sk (some 106)) (hw : ocW sk 106) (hp2 : ocM sk) (hX : scrOK X EX sx LL) (rec : Int → Sg → Option Unit) (h18 : ∀ (x3 : Int) (σ : Sg), jL X kc nc EX ads sk (18, L18 x3, [], σ) (rec x3 σ)) (x3 : Int) (σ : Sg) : jL X kc nc EX ads sk (1366, L18 x3, [], σ) (kI1 sx LL rec x3 σ) := by
  have tail : ∀ y : Int, jL X kc nc EX ads sk (1380, L18 x3, [.inl y, .inr (some 0)], σ) ((fX10_image1 y σ).bind fun q => fLI_b sx LL rec x3 q.1 q.2) := by
    intro y
    refine j_cv 958 74 1 rfl rfl mwX10_image hp1.1 rfl rfl (eX10_image1 hA hp1 hw y _) rfl rfl (rokL hk rfl rfl) (Nat.le_of_ble_eq_true rfl) (fun q _ _ => ?_)
    exact JLI_b hA hk hp2 hX h18 x3 q.1 q.2
  unfold kI1
  refine j_run 948 5 rfl ?_
  refine j_scr 953 rfl hX ?_
  refine jb_if 954 (sx (bw (x3 + 1)) = 0) rfl rfl Iff.rfl (fun h => ?_) (fun h => ?_)
  · rw [if_pos h]
    refine j_run 957 1 rfl ?_
    exact tail 0
  · rw [if_neg h]
    refine j_run 955 1 rfl ?_
    refine j_goto 956 rfl rfl ?_
    exact tail 1
theorem j_cvA {α : Type} {M : MM} {P : PG} {tb : TB} {R : Room} {F : α → Prop × ZT} {L : List (Option PV)} {st : List PV} {σ : Sg} {pc pc2 : Nat} (n j ar : Nat) {N : MM} {idx c ci kk0 mc ms : Nat} {fs : List (Option (Option Nat))} {q : vw_C} {As st0 : List PV} {sk2 : List Sk} {r0 : Option Sg} {K : Sg → Option α} (hn : P[n]? = some (.invokevirtual idx, pc, pc2)) (hm : tb.2.2.1[j]? = some (idx, N.1)) (hw : MWV N ar) (hs : sk[c]? = some (.inl (ci, fs))) (hcl : vwCl[ci]? = some q) (hcn : q.1 = N.1.cls) (hC : ∀ τ, r0 = some τ → CI X N ((.inr (some c) :: As).map (em X ads)) (mkW X ads σ sk) mc ms (QAi X ads kk0 sk2 τ)) (hlen : As.length = ar) (hst : As.reverse ++ .inr (some c) :: st = st0) (hR : RoomOK R N kc nc mc ms) (h8 : st.length ≤ 8) (hok : vOK sk.length L st [] = true) (hsk2 : sk2.length = sk.length + kk0 ∧ sk2.length ≤ 1000)
    (kk : ∀ (new : List Nat) (τ : Sg), new.length = kk0 → r0 = some τ → J X M P tb R (kc + mc) (nc + ms) EX F (ads ++ new) sk2 (pc2, L, .inl 1 :: st, τ) (K τ)) : J X M P tb R kc nc EX F ads sk (pc, L, st0, σ) (r0.bind K) := by
  intro ho b hb hq
  obtain ⟨τ, h1, h2⟩ := Option.bind_eq_some_iff.mp hb
  obtain ⟨hd, rfl⟩ := okP_get ho.1 hn (by simp [lenI])
  subst hst
  have hl := ho.2.2.1
  obtain ⟨v1, v2, -⟩ := vOK_of hok
  have hA := nrS_rev (As := As) (st := .inr (some c) :: st) hq.2.2
  have c2 := hC τ h1
  have ho2 : ∀ new : List Nat, new.length = kk0 → okC M P tb (ads ++ new) sk2 := fun new hne => ⟨ho.1, ho.2.1, by simp [hl, hne, hsk2.1], hsk2.2⟩
  have hq2 : nrP M (pc + lenI (.invokevirtual idx), L, .inl 1 :: st, τ) := ⟨hq.1, hq.2.1, nrS_cons (rfl : bw 1 = 1) (nrS_tail hA.2)⟩
  refine ⟨(kk (List.replicate kk0 0) τ (by simp) h1 (ho2 _ (by simp)) b h2 hq2).1, ?_⟩
  rw [List.map_cons, sk_em ho hs] at c2
  show WZ _ _ _ _ _ _ _ _ _ (emS X ads (As.reverse ++ .inr (some c) :: st)) _
  have e1 : emS X ads (As.reverse ++ .inr (some c) :: st) = (As.map (em X ads)).reverse ++ .ref (ads.getD c 0) :: emS X ads st := by
    rw [emS_app]
    simp only [emS, List.map_cons, List.map_reverse, sk_em ho hs]
  rw [e1]
  refine w_callV hd (ho.2.1.2.2.1 _ (List.mem_of_getElem? hm)) hw (by simpa using hlen) c2 (mkW_get hs) hcl hcn hR (em_sum h8) ?_
  rintro r ws2 ⟨rfl, new, hne, rfl⟩
  have k2 := (kk new τ hne h1 (ho2 _ hne) b h2 hq2).2
  have eL : emL X (ads ++ new) L = emL X ads L := emL_new (by rw [hl]; exact v1)
  have eS : emS X (ads ++ new) st = emS X ads st := emS_new (by rw [hl]; exact v2)
  have k3 : WZ X M R (kc + mc) (nc + ms) EX (F b).2 (pc + 3) (emL X (ads ++ new) L) (.int 1 :: emS X (ads ++ new) st) (mkW X (ads ++ new) τ sk2) := k2
  rw [eL, eS] at k3
  exact k3
set_option maxRecDepth 40000 in
theorem JkI0 (hA : ads.length = SK0.length) (hk : kc ≤ 590000 ∧ nc ≤ 7000000) (hX : scrOK X EX sx LL) (rec : Int → Sg → Option Unit) (h18 : ∀ (x3 : Int) (σ : Sg), jL X kc nc EX ads SK0 (18, L18 x3, [], σ) (rec x3 σ)) (x3 : Int) (σ : Sg) : jL X kc nc EX ads SK0 (1366, L18 x3, [], σ) (kI0 sx LL rec x3 σ) := by
  have hA2 : ads.length = SK0.length ∧ SK0.length ≤ 1000 := ⟨hA, Nat.le_of_ble_eq_true rfl⟩
  have hk2 : kc ≤ 600000 ∧ nc ≤ 7302250 := ⟨by omega, by omega⟩
  unfold kI0
  refine j_run 948 5 rfl ?_
  refine j_scr 953 rfl hX ?_
  refine jc_if_eq 954 rfl rfl (fun h => ?_) (fun h => ?_)
  · refine j_run 957 1 rfl ?_
    refine j_cvT 958 74 1 rfl rfl mwX10_image oc0S.1 rfl rfl (eX10_imageN hA2 oc0S _) rfl rfl (rokL hk2 rfl rfl) (Nat.le_of_ble_eq_true rfl) (fun _ => ?_)
    exact JLI_b hA2 hk2 oc0M hX h18 x3 0 σ
  · refine j_run 955 1 rfl ?_
    refine j_goto 956 rfl rfl ?_
    refine j_cvA (As := [.inl 1]) 958 74 1 rfl rfl mwX10_image oc0S.1 rfl rfl (fun τ hτ => eX10_imageA hA σ τ hτ) rfl rfl ⟨⟨(Nat.le_of_ble_eq_true rfl), (Nat.le_of_ble_eq_true rfl)⟩, ?_, ?_⟩ (Nat.le_of_ble_eq_true rfl) rfl ⟨rfl, (Nat.le_of_ble_eq_true rfl)⟩ (fun new τ hne _ => ?_)
    · show kc + 27 ≤ 600000; omega
    · show nc + 1546 ≤ 7302250; omega
    · have hA3 : (ads ++ new).length = SK1.length ∧ SK1.length ≤ 1000 := ⟨by rw [List.length_append, hA, hne]; rfl, Nat.le_of_ble_eq_true rfl⟩
      have hk3 : kc + 27 ≤ 600000 ∧ nc + 1546 ≤ 7302250 := ⟨by omega, by omega⟩
      have loop := JL_law (X := X) (EX := EX) hA3 hk3 oc1S oc1M hX (kI1 sx LL) (fun rec h x y => JkI1 hA3 hk3 oc1S oc1W oc1M hX rec h x y) FU
      exact JLI_b hA3 hk3 oc1M hX loop x3 1 τ
end JI2
