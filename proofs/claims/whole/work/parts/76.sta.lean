/-! calls that tell one thing -/
theorem CG_sta {m : Int} {w w' : Int → Int} {g g' : Nat → Int → Int} (h : CG m w g) (hw : ∀ j : Int, j ≤ 81 ∨ 85 ≤ j → ¬ (103 ≤ j ∧ j < 127) → ¬ (139 ≤ j ∧ j < 151) → w' j = w j) (hg : ∀ k : Nat, k ≠ 0 → k ≠ 5 → k ≠ 6 → k ≠ 9 → ∀ i, g' k i = g k i) (h0 : ∀ i : Int, i ≠ 2 → i ≠ 3 → i ≠ 4 → g' 0 i = g 0 i) (b2 : 0 ≤ w' 82 ∧ w' 82 ≤ 3) (b3 : 1 ≤ w' 83 ∧ w' 83 ≤ 99) (b4 : 0 ≤ w' 84 ∧ w' 84 ≤ 1000) (bp : ∀ p, isP w p → (0 ≤ w' (103 + p) ∧ w' (103 + p) ≤ 9) ∧ (0 ≤ w' (115 + p) ∧ w' (115 + p) ≤ 9) ∧ (0 ≤ w' (139 + p) ∧ w' (139 + p) < 4096)) (r2 : g' 0 2 = w' 82) (r3 : g' 0 3 = w' 83) (r4 : g' 0 4 = if m = 0 then 0 else w' 84) (rp : ∀ p, isP w p → g' 5 p = w' (103 + p) ∧ g' 6 p = w' (115 + p) ∧ g' 9 p = w' (139 + p)) : CG m w' g' := by
  obtain ⟨⟨⟨a1, a2, a3, a4, a5, a6, a7, a8, a9⟩, hF, hP, hV, hY, hN, hZ⟩, hS, hRF, hRP, hT, hB, hL⟩ := h
  have hw' : ∀ j : Int, j ≤ 81 ∨ (85 ≤ j ∧ j < 103) ∨ (127 ≤ j ∧ j < 139) ∨ 151 ≤ j → w' j = w j := fun j hj => hw j (by omega) (by omega) (by omega)
  have e80 := hw' 80 (by omega)
  have e81 := hw' 81 (by omega)
  have e85 := hw' 85 (by omega)
  have e87 := hw' 87 (by omega)
  have e88 := hw' 88 (by omega)
  have e89 := hw' 89 (by omega)
  have e90 := hw' 90 (by omega)
  have e3 := hw' 3 (by omega)
  have eF : ∀ c, isF w' c ↔ isF w c := fun c => by unfold isF; rw [e80, e81]
  have eP : ∀ c, isP w' c ↔ isP w c := fun c => by unfold isP; rw [e85]
  have pr : ∀ p, isP w p → 0 ≤ p ∧ p < 12 := fun p hp => ⟨hp.1, by have := hp.2; omega⟩
  have gg : ∀ k : Nat, k = 1 ∨ k = 3 ∨ k = 4 ∨ k = 7 ∨ k = 8 ∨ 10 ≤ k → ∀ i, g' k i = g k i := fun k hk => hg k (by omega) (by omega) (by omega) (by omega)
  refine ⟨⟨⟨by rw [e80]; exact a1, by rw [e81]; exact a2, b2, b3, b4, by rw [e85]; exact a6, by rw [hw' 0 (by omega)]; exact a7, by rw [hw' 1 (by omega)]; exact a8, by rw [e3]; exact a9⟩, fun f hf => ?_, fun p hp => ?_, ⟨by rw [e87]; exact hV.1, fun i i0 i1 => ?_⟩, ⟨by rw [e88]; exact hY.1, fun i i0 i1 => ?_⟩, ⟨by rw [e89]; exact hN.1, fun i i0 i1 => ?_⟩, ⟨by rw [e90]; exact hZ.1, fun i i0 i1 => ?_⟩⟩, ?_, ⟨fun f hf => ?_, fun f f0 f1 => by rw [gg 1 (by omega)]; exact hRF.2 f f0 f1⟩, ⟨by rw [gg 3 (by omega), e85]; exact hRP.1, fun p hp => ?_⟩, ?_, RB_congr hB e3 a9.2 (fun j j0 j1 => hw' j (by omega)) (gg 25 (by omega)) (gg 26 (by omega)), LR_congr (hw' 86 (by omega)) (fun j hj => hw' j (by omega)) (fun k k1 k2 => gg k (by omega)) hL⟩
  · have hf' := (eF f).mp hf
    have := isF_b hf'
    rw [hw' (4 + f) (by omega)]
    exact hF f hf'
  · have hp' := (eP p).mp hp
    have hp2 := pr p hp'
    obtain ⟨p1, p2, p3, p4, p5, p6⟩ := hP p hp'
    obtain ⟨q1, q2, q3⟩ := bp p hp'
    rw [hw' (91 + p) (by omega), hw' (127 + p) (by omega), hw' (68 + p) (by omega)]
    exact ⟨p1, q1, q2, (eF _).mpr p4, p5.imp id (fun z => (eP _).mpr z), q3⟩
  · rw [e87] at i1
    obtain ⟨v1, v2, v3, v4, v5⟩ := hV.2 i i0 i1
    have v2' := pr _ v2
    have v3' := pr _ v3
    rw [hw' (151 + 4 * i) (by omega), hw' (152 + 4 * i) (by omega), hw' (153 + 4 * i) (by omega), hw' (154 + 4 * i) (by omega), hw' (91 + w (152 + 4 * i)) (by omega), hw' (91 + w (153 + 4 * i)) (by omega)]
    exact ⟨v1, (eP _).mpr v2, (eP _).mpr v3, v4, (eF _).mpr v5⟩
  · rw [e88] at i1
    rw [hw' (215 + 2 * i) (by omega), hw' (216 + 2 * i) (by omega)]
    exact hY.2 i i0 i1
  · rw [e89] at i1
    obtain ⟨v1, v2, v3⟩ := hN.2 i i0 i1
    rw [hw' (239 + 3 * i) (by omega), hw' (240 + 3 * i) (by omega), hw' (241 + 3 * i) (by omega)]
    exact ⟨(eF _).mpr v1, v2, v3⟩
  · rw [e90] at i1
    obtain ⟨v1, v2, v3⟩ := hZ.2 i i0 i1
    rw [hw' (275 + 3 * i) (by omega), hw' (276 + 3 * i) (by omega), hw' (277 + 3 * i) (by omega)]
    exact ⟨(eP _).mpr v1, v2, v3⟩
  · obtain ⟨s0, s1, -, -, -, s5, s6, s7⟩ := hS
    exact ⟨by rw [h0 0 (by omega) (by omega) (by omega), e80]; exact s0, by rw [h0 1 (by omega) (by omega) (by omega), e81]; exact s1, r2, r3, r4, by rw [h0 5 (by omega) (by omega) (by omega), hw' 1 (by omega)]; exact s5, by rw [h0 6 (by omega) (by omega) (by omega), hw' 0 (by omega)]; exact s6, by rw [h0 7 (by omega) (by omega) (by omega), hw' 2 (by omega)]; exact s7⟩
  · have hf' := (eF f).mp hf
    have := isF_b hf'
    rw [hw' (4 + f) (by omega), gg 1 (by omega)]
    exact hRF.1 f hf'
  · have hp' := (eP p).mp hp
    have hp2 := pr p hp'
    obtain ⟨p1, p2, p3, p4, p5, p6⟩ := hRP.2 p hp'
    obtain ⟨q1, q2, q3⟩ := rp p hp'
    rw [gg 4 (by omega), gg 7 (by omega), gg 8 (by omega), hw' (91 + p) (by omega), hw' (127 + p) (by omega), hw' (68 + p) (by omega)]
    exact ⟨p1, q1, q2, p4, p5, q3⟩
  · obtain ⟨⟨t1, t2, t3⟩, ⟨t4, t5, t6⟩, ⟨t7, t8, t9⟩, ⟨u1, u2, u3⟩⟩ := hT
    refine ⟨⟨by rw [gg 17 (by omega)]; exact t1, by rw [gg 17 (by omega), e87]; exact t2, fun i i0 i1 => ?_⟩, ⟨by rw [gg 19 (by omega)]; exact t4, by rw [gg 19 (by omega), e88]; exact t5, fun i i0 i1 => ?_⟩, ⟨by rw [gg 21 (by omega)]; exact t7, by rw [gg 21 (by omega), e89]; exact t8, fun i i0 i1 => ?_⟩, ⟨by rw [gg 23 (by omega)]; exact u1, by rw [gg 23 (by omega), e90]; exact u2, fun i i0 i1 => ?_⟩⟩
    · rw [e87] at i1
      rw [gg 18 (by omega), gg 18 (by omega), gg 18 (by omega), gg 18 (by omega), hw' (151 + 4 * i) (by omega), hw' (152 + 4 * i) (by omega), hw' (153 + 4 * i) (by omega), hw' (154 + 4 * i) (by omega)]
      exact t3 i i0 i1
    · rw [e88] at i1
      rw [gg 20 (by omega), gg 20 (by omega), hw' (215 + 2 * i) (by omega), hw' (216 + 2 * i) (by omega)]
      exact t6 i i0 i1
    · rw [e89] at i1
      rw [gg 22 (by omega), gg 22 (by omega), gg 22 (by omega), hw' (239 + 3 * i) (by omega), hw' (240 + 3 * i) (by omega), hw' (241 + 3 * i) (by omega)]
      exact t9 i i0 i1
    · rw [e90] at i1
      rw [gg 24 (by omega), gg 24 (by omega), gg 24 (by omega), hw' (275 + 3 * i) (by omega), hw' (276 + 3 * i) (by omega), hw' (277 + 3 * i) (by omega)]
      exact u3 i i0 i1
def nowC : List Nat := [1, 2, 3, 4, 5, 6, 7, 8, 9, 10, 11, 12, 13, 14, 15, 16, 17, 18, 19, 20, 21, 22, 23, 24, 25, 26, 27]
def restC : List Nat := [59, 60, 86, 92, 106, 107, 109, 110, 111, 112, 113, 114, 115, 116, 117, 118, 119, 120, 123, 124, 125, 126, 127, 128, 129, 130, 131, 132]
def restS : List (Nat × Int) := [(84, 5), (84, 16), (84, 23), (84, 25), (64, 0), (64, 1), (45, 1), (47, 1), (49, 1), (51, 1), (53, 1)]
def Rest (σ τ : Sg) : Prop := (∀ c ∈ restC, rd τ c = rd σ c) ∧ ∀ q ∈ restS, rd τ q.1 q.2 = rd σ q.1 q.2
theorem Rest.rf {σ : Sg} : Rest σ σ := ⟨fun _ _ => rfl, fun _ _ => rfl⟩
theorem Rest.tr {σ τ ρ : Sg} (h : Rest σ τ) (k : Rest τ ρ) : Rest σ ρ := ⟨fun c hc => (k.1 c hc).trans (h.1 c hc), fun q hq => (k.2 q hq).trans (h.2 q hq)⟩
theorem Rest.fr {l : List Nat} {σ τ : Sg} (h : Fr l σ τ) (h1 : ∀ c ∈ restC, c ∉ l) (h2 : ∀ q ∈ restS, q.1 ∉ l) : Rest σ τ := ⟨fun c hc => funext fun i => h c i (h1 c hc), fun q hq => h q.1 q.2 (h2 q hq)⟩
theorem rc106d : ∀ k : Nat, k < 27 → (k = 2 ∨ k = 15 ∨ k = 16 ∨ 106 + k ∈ restC) := by decide +kernel
/-- the invariant behind a call that told something -/
theorem Inv.rest {has : Bool} {N : Nat} {σ τ : Sg} (h : Inv has N σ) (hC : CW 150 (rd τ 85) τ 1) (h0 : rd τ 85 0 ≤ 9999) (h1 : rd τ 85 1 ≤ nbN (N + 1)) (hK : KS (rd τ 85)) (hP : PR (nbN (N + 1)) (rd τ 85) τ) (k : Rest σ τ) : Inv has (N + 1) τ := by
  obtain ⟨-, -, -, -, -, h6, h7, h8, h9⟩ := h
  have ek : vw τ 106 = vw σ 106 := vw_keep (fun j a b c d => k.1 _ ((((rc106d j a).resolve_left b).resolve_left c).resolve_left d))
  refine ⟨hC, h0, h1, hK, hP, ?_, ?_, ?_, KR_keep (k.2 (84, 5) (by decide)) (k.1 86 (by decide)) ek nbN_le h9⟩
  · have e1 : rd τ 45 1 = rd σ 45 1 := k.2 (45, 1) (by decide)
    have e2 : rd τ 47 1 = rd σ 47 1 := k.2 (47, 1) (by decide)
    have e3 : rd τ 49 1 = rd σ 49 1 := k.2 (49, 1) (by decide)
    have e4 : rd τ 51 1 = rd σ 51 1 := k.2 (51, 1) (by decide)
    have e5 : rd τ 53 1 = rd σ 53 1 := k.2 (53, 1) (by decide)
    unfold TC at h6 ⊢
    rw [e1, e2, e3, e4, e5]
    exact h6
  · have e84 : rd τ 84 16 = rd σ 84 16 := k.2 (84, 16) (by decide)
    unfold TR at h7 ⊢
    rw [k.1 59 (by decide), k.1 60 (by decide), k.1 92 (by decide), e84]
    exact h7
  · have e1 : rd τ 64 0 = rd σ 64 0 := k.2 (64, 0) (by decide)
    have e2 : rd τ 64 1 = rd σ 64 1 := k.2 (64, 1) (by decide)
    have e3 : rd τ 84 23 = rd σ 84 23 := k.2 (84, 23) (by decide)
    have e4 : rd τ 84 25 = rd σ 84 25 := k.2 (84, 25) (by decide)
    unfold FR0 at h8 ⊢
    rw [e1, e2, e3, e4]
    exact h8
theorem PR_0 {nb : Int} {w : Int → Int} {τ : Sg} (h4 : 0 ≤ rd τ 55 4 ∧ rd τ 55 4 < 6) (h3 : rd τ 55 3 = 0) (h84 : rd τ 84 4 = 0) : PR nb w τ :=
  ⟨h4, by omega, by omega, fun k k0 k1 => by omega⟩
theorem opE_wr {has : Bool} {N : Nat} {σ : Sg} {f g : Sg → Option (Int × Sg)} {v : Int} {w' : Int → Int} (h : Inv has N σ) (hd : w' 0 ≤ 9999) (hn1 : w' 1 ≤ nbN (N + 1)) (hK : KS w') (h1 : wp (f σ) (fun q => q.1 = v ∧ CW 150 w' q.2 1 ∧ rd q.2 55 3 = 0 ∧ rd q.2 55 4 = rd σ 55 4 ∧ Fr (55 :: nowC) σ q.2)) (h2 : ∀ τ, rd τ 85 = rd σ 85 → wp (g τ) (fun r => r.1 = v ∧ rd r.2 85 = w' ∧ rd r.2 84 4 = 0 ∧ (∀ i : Int, i ≠ 4 → i ≠ 26 → i ≠ 28 → rd r.2 84 i = rd τ 84 i) ∧ Fr [84, 85, 93, 94, 95] τ r.2)) : wp (f σ) (fun q => wp (g q.2) (fun r => q.1 = r.1 ∧ Inv has (N + 1) r.2)) := by
  refine wp_mono h1 (fun q hq => ?_)
  obtain ⟨a1, a2, a3, a4, a5⟩ := hq
  refine wp_mono (h2 q.2 (funext fun i => a5 85 i (by decide))) (fun r hr => ?_)
  obtain ⟨b1, b2, b3, b4, b5⟩ := hr
  refine ⟨a1.trans b1.symm, h.rest (by rw [b2]; exact a2.fr b5 (by decide)) (by rw [b2]; exact hd) (by rw [b2]; exact hn1) (by rw [b2]; exact hK) (PR_0 ?_ ?_ b3) ?_⟩
  · rw [b5 55 4 (by decide), a4]
    exact h.2.2.2.2.1.1
  · rw [b5 55 3 (by decide)]; exact a3
  · have hne : ∀ q' ∈ restS, q'.1 = 84 → q'.2 ≠ 4 ∧ q'.2 ≠ 26 ∧ q'.2 ≠ 28 := by decide
    have hn2 : ∀ q' ∈ restS, q'.1 ≠ 84 → q'.1 ∉ [84, 85, 93, 94, 95] := by decide
    refine (Rest.fr a5 (by decide) (by decide)).tr ⟨fun c hc => funext fun i => b5 c i ((by decide : ∀ c ∈ restC, c ∉ [84, 85, 93, 94, 95]) c hc), fun q' hq' => ?_⟩
    by_cases e : q'.1 = 84
    · have := hne q' hq' e
      rw [e]
      exact b4 q'.2 this.1 this.2.1 this.2.2
    · exact b5 q'.1 q'.2 (hn2 q' hq' e)
theorem forgets_m {τ : Sg} : fX11_forgets τ = some (wr τ 84 4 0) := rfl
theorem nb_ok {N : Nat} {x : Int} (h : x ≤ nbN N) : x ≤ nbN (N + 1) := by have := nbN_le (N := N); omega
theorem wr84_4 {τ : Sg} {v : Int} : ∀ i : Int, i ≠ 4 → i ≠ 26 → i ≠ 28 → rd (wr τ 84 4 v) 84 i = rd τ 84 i := fun i h _ _ => rq_i h
theorem op_state {has : Bool} {N : Nat} (hN : N ≤ 511) (x1 : Int) (h1 : bw x1 = x1) : OpE has N (fX10_state x1) (fX11_state x1) := by
  intro σ h
  have hC := h.1
  refine opE_wr (v := rd σ 85 2) (w' := upz (rd σ 85) 2 x1) h (by rw [upz_n (by decide)]; exact h.2.1) (by rw [upz_n (by decide)]; exact nb_ok h.2.2.1) ?_ ?_ (fun τ e85 => ?_)
  · intro a ha
    have := ha.1
    obtain ⟨k1, k2, k3⟩ := h.2.2.2.1 a ha
    unfold kinW at k2 k3 ⊢
    rw [upz_n (by omega), upz_n (by decide)]
    refine ⟨k1, k2, fun b hb => ?_⟩
    have := hb.1
    rw [upz_n (by omega)]
    exact k3 b hb
  · unfold fX10_state
    rw [wp_some]
    refine ⟨hC.2.1.2.2.2.2.2.2.2, (CW_draw hC h1).fr (Fr.wr (l := [55]) Fr.rf (by decide)) (by decide), rq_s, (rq_i (by decide)).trans (rq_c (by decide)), (Fr.rf.wr (by decide)).wr (by decide)⟩
  · unfold fX11_state
    rw [forgets_m, wp_bind, wp_some, wp_some]
    refine ⟨congrFun e85 2, ?_, rq_s, fun i h4 h26 h28 => (rq_i h4).trans (rq_c (by decide)), (Fr.rf.wr (by decide)).wr (by decide)⟩
    rw [wr_off _ _ (by decide), wr_row, e85, h1]
theorem KS_congr {w w' : Int → Int} (h : KS w) (h85 : w' 85 = w 85) (hk : ∀ j : Int, 139 ≤ j → j < 151 → w' j = w j) (h12 : w 85 ≤ 12) : KS w' := by
  intro a ha
  have ha' : isP w a := by unfold isP at ha ⊢; rw [← h85]; exact ha
  have a1 := ha'.1
  have a2 := ha'.2
  obtain ⟨k1, k2, k3⟩ := h a ha'
  unfold kinW at k2 k3 ⊢
  rw [h85, hk (139 + a) (by omega) (by omega)]
  refine ⟨k1, k2, fun b hb => ?_⟩
  have hb' : isP w b := by unfold isP at hb ⊢; rw [← h85]; exact hb
  have b1 := hb'.1
  have b2 := hb'.2
  rw [hk (139 + b) (by omega) (by omega)]
  exact k3 b hb'
/-- what 'set' changes -/
theorem set_row {has : Bool} {N : Nat} {σ : Sg} {f g : Sg → Option (Int × Sg)} {c : Nat} {i j v : Int} (h : Inv has N σ) (hv : bw v = v) (hc : c ∈ nowC) (hj : 4 ≤ j ∧ j < 127 ∧ j ≠ 85) (hC : CW 150 (upz (rd σ 85) j v) (wr σ c i v) 1) (h1 : f σ = some (1, wr (wr σ c i v) 55 3 0)) (h2 : ∀ τ, rd τ 85 = rd σ 85 → g τ = some (1, wr (wr τ 85 j v) 84 4 0)) : wp (f σ) (fun q => wp (g q.2) (fun r => q.1 = r.1 ∧ Inv has (N + 1) r.2)) := by
  have h12 := h.1.1.1.2.2.2.2.2.1
  refine opE_wr (v := 1) (w' := upz (rd σ 85) j v) h (by rw [upz_n (by omega)]; exact h.2.1) (by rw [upz_n (by omega)]; exact nb_ok h.2.2.1) (KS_congr h.2.2.2.1 (upz_n (by omega)) (fun k k1 k2 => upz_n (by omega)) h12.2) ?_ (fun τ e85 => ?_)
  · rw [h1, wp_some]
    have hn55 : c ≠ 55 := fun e => by rw [e] at hc; exact absurd hc (by decide)
    exact ⟨rfl, hC.fr (Fr.wr (l := [55]) Fr.rf (by decide)) (by decide), rq_s, (rq_i (by decide)).trans (rq_c (fun e => hn55 e.symm)), (Fr.rf.wr (List.mem_cons_of_mem _ hc)).wr (by decide)⟩
  · rw [h2 τ e85, wp_some]
    refine ⟨rfl, ?_, rq_s, fun i h4 h26 h28 => (rq_i h4).trans (rq_c (by decide)), (Fr.rf.wr (by decide)).wr (by decide)⟩
    rw [wr_off _ _ (by decide), wr_row, e85, hv]
theorem op_set {has : Bool} {N : Nat} (hN : N ≤ 511) (x1 x2 x3 : Int) (h1 : bw x1 = x1) (h2 : bw x2 = x2) (h3 : bw x3 = x3) : OpE has N (fX10_set x1 x2 x3) (fX11_set x1 x2 x3) := by
  intro σ h
  have hC := h.1
  have hW := hC.1
  have h12 := hW.1.2.2.2.2.2.1
  have bad : fX10_set x1 x2 x3 σ = some (0, σ) → fX11_set x1 x2 x3 σ = some (0, σ) → wp (fX10_set x1 x2 x3 σ) (fun q => wp (fX11_set x1 x2 x3 q.2) (fun r => q.1 = r.1 ∧ Inv has (N + 1) r.2)) := by
    intro a b
    rw [a, wp_some]
    show wp (fX11_set x1 x2 x3 σ) _
    rw [b, wp_some]
    exact ⟨rfl, h.keep Keep.rf⟩
  have j21 : ∀ τ, fX10_set_J21 1 τ = some (1, wr τ 55 3 0) := fun τ => by
    unfold fX10_set_J21
    rw [if_neg n10, grd_pos (Or.inr rfl)]
  have j20 : ∀ τ, fX10_set_J21 0 τ = some (0, τ) := fun τ => by
    unfold fX10_set_J21
    rw [if_pos p00, grd_pos (Or.inl rfl)]
  have sta : ∀ (c : Nat) (i j : Int), (c = 1 ∧ (i = 2 ∧ j = 82 ∧ 0 ≤ x3 ∧ x3 ≤ 3 ∨ i = 3 ∧ j = 83 ∧ 1 ≤ x3 ∧ x3 ≤ 99 ∨ i = 4 ∧ j = 84 ∧ 0 ≤ x3 ∧ x3 ≤ 1000)) ∨ (isP (rd σ 85) i ∧ (0 ≤ x3 ∧ x3 ≤ 9) ∧ (c = 6 ∧ j = 103 + i ∨ c = 7 ∧ j = 115 + i)) → CW 150 (upz (rd σ 85) j x3) (wr σ c i x3) 1 := by
    intro c i j hh
    have hr : ∀ (k : Nat) (y : Int), ¬ (k = 2 ∨ k = 15 ∨ k = 16 ∨ 27 ≤ k) → vw (wr σ c i x3) 1 k y = if 1 + k = c ∧ y = i then x3 else vw σ 1 k y := by
      intro k y hk
      unfold vw
      rw [if_neg hk, if_neg hk, rd_wr, h3]
    have off : ∀ (k : Nat) (y : Int), 1 + k ≠ c → vw (wr σ c i x3) 1 k y = vw σ 1 k y := by
      intro k y hk
      unfold vw
      split
      · rfl
      · exact rq_c hk
    have m0 : ¬ (150 : Int) = 0 := by decide
    have s4 : vw σ 1 0 4 = rd σ 85 84 := by
      have := hC.2.1.2.2.2.2.1
      rw [if_neg m0] at this
      exact this
    rcases hh with ⟨rfl, hh⟩ | ⟨hp, hx, hh⟩
    · refine CG_sta hC (fun k a b c => upz_n (by omega)) (fun k a b c d y => off k y (by omega)) (fun y a b c => ?_) ?_ ?_ ?_ (fun p hp => ?_) ?_ ?_ ?_ (fun p hp => ?_)
      · rw [hr 0 y (by decide), if_neg (by omega)]
      · by_cases e : j = 82
        · rw [e, upz_s]; omega
        · rw [upz_n (by omega)]; exact hW.1.2.2.1
      · by_cases e : j = 83
        · rw [e, upz_s]; omega
        · rw [upz_n (by omega)]; exact hW.1.2.2.2.1
      · by_cases e : j = 84
        · rw [e, upz_s]; omega
        · rw [upz_n (by omega)]; exact hW.1.2.2.2.2.1
      · have := hp.1
        rw [upz_n (by omega), upz_n (by omega), upz_n (by omega)]
        have := hW.2.2.1 p hp
        exact ⟨this.2.1, this.2.2.1, this.2.2.2.2.2⟩
      · rw [hr 0 2 (by decide)]
        by_cases e : j = 82
        · rw [e, upz_s, if_pos (by omega)]
        · rw [upz_n (by omega), if_neg (by omega)]; exact hC.2.1.2.2.1
      · rw [hr 0 3 (by decide)]
        by_cases e : j = 83
        · rw [e, upz_s, if_pos (by omega)]
        · rw [upz_n (by omega), if_neg (by omega)]; exact hC.2.1.2.2.2.1
      · rw [if_neg m0, hr 0 4 (by decide)]
        by_cases e : j = 84
        · rw [e, upz_s, if_pos (by omega)]
        · rw [upz_n (by omega), if_neg (by omega)]; exact s4
      · have := hp.1
        obtain ⟨-, q2, q3, -, -, q6⟩ := hC.2.2.2.1.2 p hp
        rw [off 5 p (by omega), off 6 p (by omega), off 9 p (by omega), upz_n (by omega), upz_n (by omega), upz_n (by omega)]
        exact ⟨q2, q3, q6⟩
    · have i0 := hp.1
      have i1 := hp.2
      refine CG_sta hC (fun k a b c => upz_n (by omega)) (fun k a b c d y => off k y (by omega)) (fun y a b c => off 0 y (by omega)) ?_ ?_ ?_ (fun p hp => ?_) ?_ ?_ ?_ (fun p hp => ?_)
      · rw [upz_n (by omega)]; exact hW.1.2.2.1
      · rw [upz_n (by omega)]; exact hW.1.2.2.2.1
      · rw [upz_n (by omega)]; exact hW.1.2.2.2.2.1
      · have p0 := hp.1
        have p1 := hp.2
        have hh2 := hW.2.2.1 p hp
        refine ⟨?_, ?_, ?_⟩
        · by_cases e : 103 + p = j
          · rw [e, upz_s]; exact hx
          · rw [upz_n e]; exact hh2.2.1
        · by_cases e : 115 + p = j
          · rw [e, upz_s]; exact hx
          · rw [upz_n e]; exact hh2.2.2.1
        · rw [upz_n (by omega)]; exact hh2.2.2.2.2.2
      · rw [off 0 2 (by omega), upz_n (by omega)]; exact hC.2.1.2.2.1
      · rw [off 0 3 (by omega), upz_n (by omega)]; exact hC.2.1.2.2.2.1
      · rw [if_neg m0, off 0 4 (by omega), upz_n (by omega)]; exact s4
      · have p0 := hp.1
        have p1 := hp.2
        obtain ⟨-, q2, q3, -, -, q6⟩ := hC.2.2.2.1.2 p hp
        refine ⟨?_, ?_, ?_⟩
        · rw [hr 5 p (by decide)]
          by_cases e : 103 + p = j
          · rw [e, upz_s, if_pos (by omega)]
          · rw [upz_n e, if_neg (by omega)]; exact q2
        · rw [hr 6 p (by decide)]
          by_cases e : 115 + p = j
          · rw [e, upz_s, if_pos (by omega)]
          · rw [upz_n e, if_neg (by omega)]; exact q3
        · rw [off 9 p (by omega), upz_n (by omega)]; exact q6
  have w0 : ∀ a, fX10_within x3 a = if 0 ≤ x3 ∧ x3 ≤ a then 1 else 0 := fun a => within_m
  have go : ∀ (c : Nat) (i j : Int), c ∈ nowC → (4 ≤ j ∧ j < 127 ∧ j ≠ 85) → CW 150 (upz (rd σ 85) j x3) (wr σ c i x3) 1 → fX10_set x1 x2 x3 σ = some (1, wr (wr σ c i x3) 55 3 0) → (∀ τ, rd τ 85 = rd σ 85 → fX11_canSet x1 x2 x3 τ = 1) → fX11_placeOf x1 x2 = j → wp (fX10_set x1 x2 x3 σ) (fun q => wp (fX11_set x1 x2 x3 q.2) (fun r => q.1 = r.1 ∧ Inv has (N + 1) r.2)) := by
    intro c i j hc hj hCW e1 e2 e3
    refine set_row (f := fX10_set x1 x2 x3) (g := fX11_set x1 x2 x3) h h3 hc hj hCW e1 (fun τ e85 => ?_)
    unfold fX11_set
    rw [e2 τ e85, if_neg n10, e3, grd_pos (by omega)]
    rfl
  have no : ∀ τ, fX11_canSet x1 x2 x3 τ = 0 → fX11_set x1 x2 x3 τ = some (0, τ) := fun τ e => by
    unfold fX11_set
    rw [e, if_pos p00]
  by_cases c0 : x1 = 0
  · by_cases b : 0 ≤ x3 ∧ x3 ≤ 3
    · refine go 1 2 82 (by decide) (by decide) (sta 1 2 82 (Or.inl ⟨rfl, Or.inl ⟨rfl, rfl, b⟩⟩)) ?_ (fun τ e85 => ?_) ?_
      · unfold fX10_set fX10_setValley
        rw [if_neg (by omega), if_pos c0, w0, if_pos b, if_neg n10]
        exact j21 _
      · unfold fX11_canSet
        rw [if_pos c0, isIn_m, if_pos b]
      · unfold fX11_placeOf
        rw [if_pos c0]
    · refine bad ?_ (no σ ?_)
      · unfold fX10_set fX10_setValley fX10_setValley_J22 fX10_setValley_J48
        rw [if_neg (by omega), if_pos c0, w0, if_neg b, if_pos p00, if_neg (by omega), if_neg (by omega)]
        exact j20 _
      · unfold fX11_canSet
        rw [if_pos c0, isIn_m, if_neg b]
  by_cases c1 : x1 = 1
  · by_cases b : 1 ≤ x3 ∧ x3 ≤ 99
    · refine go 1 3 83 (by decide) (by decide) (sta 1 3 83 (Or.inl ⟨rfl, Or.inr (Or.inl ⟨rfl, rfl, b⟩)⟩)) ?_ (fun τ e85 => ?_) ?_
      · unfold fX10_set fX10_setValley fX10_setValley_J22
        rw [if_neg (by omega), if_neg c0, if_pos c1, if_neg (by omega), if_neg (by omega)]
        exact j21 _
      · unfold fX11_canSet
        rw [if_neg c0, if_pos c1, isIn_m, if_pos b]
      · unfold fX11_placeOf
        rw [if_neg c0, if_pos c1]
    · refine bad ?_ (no σ ?_)
      · unfold fX10_set fX10_setValley fX10_setValley_J22 fX10_setValley_J48
        rw [if_neg (by omega), if_neg c0, if_pos c1, if_neg (show ¬ x1 = 2 by omega)]
        by_cases z : x3 < 1
        · rw [if_pos z]; exact j20 _
        · rw [if_neg z, if_pos (by omega)]; exact j20 _
      · unfold fX11_canSet
        rw [if_neg c0, if_pos c1, isIn_m, if_neg b]
  by_cases c2 : x1 = 2
  · by_cases b : 0 ≤ x3 ∧ x3 ≤ 1000
    · refine go 1 4 84 (by decide) (by decide) (sta 1 4 84 (Or.inl ⟨rfl, Or.inr (Or.inr ⟨rfl, rfl, b⟩)⟩)) ?_ (fun τ e85 => ?_) ?_
      · unfold fX10_set fX10_setValley fX10_setValley_J22 fX10_setValley_J48
        rw [if_neg (by omega), if_neg c0, if_neg c1, if_pos c2, w0, if_pos b, if_neg n10]
        exact j21 _
      · unfold fX11_canSet
        rw [if_neg c0, if_neg c1, if_pos c2, isIn_m, if_pos b]
      · unfold fX11_placeOf
        rw [if_neg c0, if_neg c1, if_pos c2]
    · refine bad ?_ (no σ ?_)
      · unfold fX10_set fX10_setValley fX10_setValley_J22 fX10_setValley_J48
        rw [if_neg (by omega), if_neg c0, if_neg c1, if_pos c2, w0, if_neg b, if_pos p00]
        exact j20 _
      · unfold fX11_canSet
        rw [if_neg c0, if_neg c1, if_pos c2, isIn_m, if_neg b]
  have hhas : fX1_has 4 x2 σ = if isP (rd σ 85) x2 then 1 else 0 := has_c hC x2
  by_cases c3 : x1 = 3
  · have j37 : fX10_setOne_J37 x1 x2 x3 σ = some (0, σ) := by
      unfold fX10_setOne_J37
      rw [hhas, w0]
      by_cases z1 : isP (rd σ 85) x2
      · by_cases z2 : 0 ≤ x3 ∧ x3 ≤ 9
        · rw [if_pos z1, if_neg n10, if_pos z2, if_neg n10, if_neg (by omega), if_neg (by omega)]
        · rw [if_pos z1, if_neg n10, if_neg z2, if_pos p00]
      · rw [if_neg z1, if_pos p00]
    by_cases f : isF (rd σ 85) x2
    · have fb := isF_b f
      by_cases b : 0 ≤ x3 ∧ x3 ≤ 99
      · refine go 2 x2 (4 + x2) (by decide) (by omega) (CW_snow hC f b) ?_ (fun τ e85 => ?_) ?_
        · unfold fX10_set fX10_setOne
          rw [if_pos (by omega), if_pos c3, hasField_c hC, if_pos f, if_neg n10, w0, if_pos b, if_neg n10, grd_pos fb]
          exact j21 _
        · unfold fX11_canSet
          rw [if_neg c0, if_neg c1, if_neg c2, if_pos c3, isField_m hW e85, if_pos f, if_neg n10, isIn_m, if_pos b, if_neg n10]
        · unfold fX11_placeOf
          rw [if_neg c0, if_neg c1, if_neg c2, if_pos c3, bw_id (by omega) (by omega)]
      · refine bad ?_ (no σ ?_)
        · unfold fX10_set fX10_setOne
          rw [if_pos (by omega), if_pos c3, hasField_c hC, if_pos f, if_neg n10, w0, if_neg b, if_pos p00, j37]
          exact j20 _
        · unfold fX11_canSet
          rw [if_neg c0, if_neg c1, if_neg c2, if_pos c3, isField_m hW rfl, if_pos f, if_neg n10, isIn_m, if_neg b, if_pos p00]
    · refine bad ?_ (no σ ?_)
      · unfold fX10_set fX10_setOne
        rw [if_pos (by omega), if_pos c3, hasField_c hC, if_neg f, if_pos p00, j37]
        exact j20 _
      · unfold fX11_canSet
        rw [if_neg c0, if_neg c1, if_neg c2, if_pos c3, isField_m hW rfl, if_neg f, if_pos p00]
  by_cases low : x1 < 0
  · refine bad ?_ (no σ ?_)
    · unfold fX10_set fX10_setValley fX10_setValley_J22 fX10_setValley_J48
      rw [if_neg (by omega), if_neg c0, if_neg c1, if_neg c2]
      exact j20 _
    · unfold fX11_canSet
      rw [if_neg c0, if_neg c1, if_neg c2, if_neg c3, if_neg (by omega), if_neg (by omega)]
  by_cases hi : 5 < x1
  · refine bad ?_ (no σ ?_)
    · unfold fX10_set fX10_setOne fX10_setOne_J37
      rw [if_pos (by omega), if_neg c3, hhas, w0]
      by_cases z1 : isP (rd σ 85) x2
      · by_cases z2 : 0 ≤ x3 ∧ x3 ≤ 9
        · rw [if_pos z1, if_neg n10, if_pos z2, if_neg n10, if_neg (by omega), if_neg (by omega)]
          exact j20 _
        · rw [if_pos z1, if_neg n10, if_neg z2, if_pos p00]
          exact j20 _
      · rw [if_neg z1, if_pos p00]
        exact j20 _
    · unfold fX11_canSet
      rw [if_neg c0, if_neg c1, if_neg c2, if_neg c3, if_neg (by omega), if_neg (by omega)]
  by_cases z1 : isP (rd σ 85) x2
  · have y0 := z1.1
    have y1 := z1.2
    by_cases z2 : 0 ≤ x3 ∧ x3 ≤ 9
    · by_cases c4 : x1 = 4
      · refine go 6 x2 (103 + x2) (by decide) (by omega) (sta 6 x2 (103 + x2) (Or.inr ⟨z1, z2, Or.inl ⟨rfl, rfl⟩⟩)) ?_ (fun τ e85 => ?_) ?_
        · unfold fX10_set fX10_setOne fX10_setOne_J37
          rw [if_pos (by omega), if_neg c3, hhas, w0, if_pos z1, if_neg n10, if_pos z2, if_neg n10, if_pos c4, grd_pos (by omega)]
          exact j21 _
        · unfold fX11_canSet
          rw [if_neg c0, if_neg c1, if_neg c2, if_neg c3, if_pos c4, isPerson_m hW e85, if_pos z1, if_neg n10, isIn_m, if_pos z2, if_neg n10]
        · unfold fX11_placeOf
          rw [if_neg c0, if_neg c1, if_neg c2, if_neg c3, if_pos c4, bw_id (by omega) (by omega)]
      · have c5 : x1 = 5 := by omega
        refine go 7 x2 (115 + x2) (by decide) (by omega) (sta 7 x2 (115 + x2) (Or.inr ⟨z1, z2, Or.inr ⟨rfl, rfl⟩⟩)) ?_ (fun τ e85 => ?_) ?_
        · unfold fX10_set fX10_setOne fX10_setOne_J37
          rw [if_pos (by omega), if_neg c3, hhas, w0, if_pos z1, if_neg n10, if_pos z2, if_neg n10, if_neg c4, if_pos c5, grd_pos (by omega)]
          exact j21 _
        · unfold fX11_canSet
          rw [if_neg c0, if_neg c1, if_neg c2, if_neg c3, if_neg c4, if_pos c5, isPerson_m hW e85, if_pos z1, if_neg n10, isIn_m, if_pos z2, if_neg n10]
        · unfold fX11_placeOf
          rw [if_neg c0, if_neg c1, if_neg c2, if_neg c3, if_neg c4, bw_id (by omega) (by omega)]
    · refine bad ?_ (no σ ?_)
      · unfold fX10_set fX10_setOne fX10_setOne_J37
        rw [if_pos (by omega), if_neg c3, hhas, w0, if_pos z1, if_neg n10, if_neg z2, if_pos p00]
        exact j20 _
      · unfold fX11_canSet
        rw [if_neg c0, if_neg c1, if_neg c2, if_neg c3, isPerson_m hW rfl, if_pos z1, isIn_m, if_neg z2, if_neg n10, if_pos p00]
        repeat' split
        all_goals rfl
  · refine bad ?_ (no σ ?_)
    · unfold fX10_set fX10_setOne fX10_setOne_J37
      rw [if_pos (by omega), if_neg c3, hhas, if_neg z1, if_pos p00]
      exact j20 _
    · unfold fX11_canSet
      rw [if_neg c0, if_neg c1, if_neg c2, if_neg c3, isPerson_m hW rfl, if_neg z1, if_pos p00]
      repeat' split
      all_goals rfl
