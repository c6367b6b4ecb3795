/-! cut: the model -/
def Fm (σ τ : Sg) : Prop := ∀ (c : Nat) (i : Int), c ∉ [101, 102, 103, 104] → ¬ (c = 84 ∧ i = 38) → rd τ c i = rd σ c i
theorem Fm.rf {σ : Sg} : Fm σ σ := fun _ _ _ _ => rfl
theorem Fm.tr {σ τ ρ : Sg} (h : Fm σ τ) (k : Fm τ ρ) : Fm σ ρ := fun c i a b => (k c i a b).trans (h c i a b)
theorem Fm.keep {σ τ : Sg} (h : Fm σ τ) : Keep σ τ := ⟨fun c hc => funext fun i => h c i ((by decide : ∀ c ∈ kcells, c ∉ [101, 102, 103, 104]) c hc) (fun z => (by decide : ∀ c ∈ kcells, c ≠ 84) c hc z.1), fun q hq => h q.1 q.2 ((by decide : ∀ q ∈ kslots, q.1 ∉ [101, 102, 103, 104]) q hq) ((by decide : ∀ q ∈ kslots, ¬ (q.1 = 84 ∧ q.2 = 38)) q hq)⟩
theorem Fm.w {σ τ : Sg} (h : Fm σ τ) {w : Int → Int} (hw : rd σ 85 = w) : rd τ 85 = w := (funext fun j => h 85 j (by decide) (fun z => absurd z.1 (by decide))).trans hw
/-- a search leaves the ways as they are -/
def Fb (σ τ : Sg) : Prop := Fm σ τ ∧ (∀ j, rd τ 103 j = rd σ 103 j) ∧ ∀ j, rd τ 104 j = rd σ 104 j
theorem Fb.rf {σ : Sg} : Fb σ σ := ⟨Fm.rf, fun _ => rfl, fun _ => rfl⟩
theorem Fb.tr {σ τ ρ : Sg} (h : Fb σ τ) (k : Fb τ ρ) : Fb σ ρ := ⟨h.1.tr k.1, fun j => (k.2.1 j).trans (h.2.1 j), fun j => (k.2.2 j).trans (h.2.2 j)⟩
def THm (ρ : Sg) (T : Tst) : Prop := (∀ f, 0 ≤ f → f < 64 → rd ρ 103 f = T.1 f) ∧ ∀ k, 0 ≤ k → k < 256 → rd ρ 104 k = T.2 k
theorem THm_fb {ρ τ : Sg} {T : Tst} (h : THm ρ T) (k : Fb ρ τ) : THm τ T := ⟨fun f x y => (k.2.1 f).trans (h.1 f x y), fun j x y => (k.2.2 j).trans (h.2 j x y)⟩
def CRm (ρ : Sg) (S : Cst) : Prop := (∀ x, 0 ≤ x → x < 128 → rd ρ 101 x = S.1 x) ∧ (∀ i, 0 ≤ i → i < S.2.2 → rd ρ 102 i = S.2.1 i) ∧ rd ρ 84 38 = S.2.2
def MIs (w : Int → Int) (S : Cst) : Prop := S.2.2 ≤ cnS S 128 ∧ 0 ≤ S.2.2 ∧ ∀ i, 0 ≤ i → i < S.2.2 → isF w (S.2.1 i / 2)
theorem MIs_rch {w : Int → Int} {x e : Int} {S : Cst} (h : MIs w S) (hx : isF w (x / 2)) (he : 0 ≤ e) : MIs w (rchS x e S) := by
  have xb := isF_b hx
  by_cases c : S.1 x = -1
  · have hup := cnS_up (S := S) (x := x) (e := e) (k := 128) (by omega) (by omega) c he
    obtain ⟨h1, h2, h3⟩ := h
    unfold rchS at hup ⊢
    rw [if_pos c] at hup ⊢
    refine ⟨by simp only; omega, by simp only; omega, fun i i0 i1 => ?_⟩
    simp only at i1 ⊢
    by_cases e1 : i = S.2.2
    · rw [e1, upz_s]; exact hx
    · rw [upz_n e1]; exact h3 i i0 (by omega)
  · unfold rchS
    rw [if_neg c]
    exact h
theorem come_m {w : Int → Int} {x e : Int} {ρ : Sg} {S : Cst} (hM : MIs w S) (hR : CRm ρ S) (hx : 0 ≤ x ∧ x < 112) (he : 0 ≤ e ∧ e < 112) : ∃ τ, fX11_isComeTo x e ρ = some τ ∧ Fb ρ τ ∧ CRm τ (rchS x e S) := by
  obtain ⟨r1, r2, r3⟩ := hR
  unfold fX11_isComeTo rchS
  rw [grd_pos (by omega), r1 x hx.1 (by omega)]
  by_cases c : S.1 x = -1
  · have hup := cnS_up (S := S) (x := x) (e := e) (k := 128) hx.1 (by omega) c he.1
    have hle := cnS_r (rchS x e S) 128
    have hn := hM.1
    have h0 := hM.2.1
    rw [if_pos c, if_pos c, grd_pos (by omega)]
    have e84 : ∀ v u : Int, rd (wr ρ 101 v u) 84 38 = S.2.2 := fun v u => (rq_c (by decide)).trans r3
    rw [e84, grd_pos (by omega)]
    have e842 : rd (wr (wr ρ 101 x e) 102 S.2.2 x) 84 38 = S.2.2 := (rq_c (by decide)).trans (e84 x e)
    rw [e842, bw_id (z := S.2.2 + 1) (by omega) (by omega)]
    refine ⟨_, rfl, ⟨fun cc i h1 h2 => ?_, fun j => ?_, fun j => ?_⟩, fun y y0 y1 => ?_, fun i i0 i1 => ?_, ?_⟩
    · have n1 : cc ≠ 101 := fun z => h1 (by rw [z]; decide)
      have n2 : cc ≠ 102 := fun z => h1 (by rw [z]; decide)
      rw [rd_wr, if_neg h2, rq_c n2, rq_c n1]
    · rw [rq_c (by decide), rq_c (by decide), rq_c (by decide)]
    · rw [rq_c (by decide), rq_c (by decide), rq_c (by decide)]
    · rw [rq_c (by decide), rq_c (by decide), wr_row, bw_id (z := e) (by omega) (by omega)]
      show upz _ _ _ y = upz _ _ _ y
      by_cases e1 : y = x
      · rw [e1, upz_s, upz_s]
      · rw [upz_n e1, upz_n e1]; exact r1 y y0 y1
    · simp only at i1
      rw [rq_c (by decide), wr_row, bw_id (z := x) (by omega) (by omega)]
      show upz _ _ _ i = upz _ _ _ i
      by_cases e1 : i = S.2.2
      · rw [e1, upz_s, upz_s]
      · rw [upz_n e1, upz_n e1, rq_c (by decide)]; exact r2 i i0 (by omega)
    · rw [rq_s, bw_id (by omega) (by omega)]
  · rw [if_neg c, if_neg c]
    exact ⟨ρ, rfl, Fb.rf, r1, r2, r3⟩
theorem gin_m {w : Int → Int} {T : Tst} {σ0 : Sg} {f : Int} (hW : Wf w) (hw : rd σ0 85 = w) (hT : THm σ0 T) (hf : isF w f) : ∀ (r n : Nat) (d : Int) (ρ : Sg) (S : Cst), d + r = 4 → 0 ≤ d → r < n → Fb σ0 ρ → CRm ρ S → MIs w S → wp (fX11_goesIn_L23 f n d ρ) (fun τ => Fb σ0 τ ∧ CRm τ (sidesS w T.2 (2 * f) r d S) ∧ MIs w (sidesS w T.2 (2 * f) r d S)) := by
  intro r
  induction r with
  | zero =>
    intro n d ρ S hd d0 hn hF hR hM
    cases n with
    | zero => omega
    | succ n =>
      rw [fX11_goesIn_L23, if_neg (by omega), wp_some]
      exact ⟨hF, hR, hM⟩
  | succ r ih =>
    intro n d ρ S hd d0 hn hF hR hM
    have fb := isF_b hf
    have hw2 : rd ρ 85 = w := hF.1.w hw
    have e2 : 2 * f / 2 = f := by omega
    have o2 : ¬ 2 * f % 2 = 1 := by omega
    cases n with
    | zero => omega
    | succ n =>
      rw [sidesS, fX11_goesIn_L23, if_pos (by omega), wentTo_m d hW hw2 (by omega), isSafe_m hW hw2, Option.bind_some, bw_id (z := d + 1) (by omega) (by omega)]
      by_cases c : isF w (goW w f d) ∧ w (4 + goW w f d) < w 83
      · have gb := isF_b c.1
        have e104 : rd ρ 104 (4 * goW w f d + (d + 2) % 4) = T.2 (4 * goW w f d + (d + 2) % 4) := (hF.2.2 _).trans (hT.2 _ (by omega) (by omega))
        rw [if_pos c, if_neg n10, bw_id (z := d + 2) (by omega) (by omega), trm_pos (by omega) (by omega) (by omega) (by omega), bw_id (z := 4 * goW w f d) (by omega) (by omega), bw_id (z := 4 * goW w f d + (d + 2) % 4) (by omega) (by omega), grd_pos (by omega), e104]
        by_cases g : T.2 (4 * goW w f d + (d + 2) % 4) = 1
        · have es : sideS w T.2 (2 * f) d S = rchS (2 * goW w f d + 1) (2 * f) S := by
            unfold sideS; rw [e2, if_pos c, if_neg o2, if_pos g]
          obtain ⟨τ, t1, t2, t3⟩ := come_m (x := 2 * goW w f d + 1) (e := 2 * f) hM hR (by omega) (by omega)
          rw [if_pos g, bw_id (z := 2 * goW w f d) (by omega) (by omega), bw_id (z := 2 * goW w f d + 1) (by omega) (by omega), bw_id (z := 2 * f) (by omega) (by omega), t1, Option.bind_some, es]
          exact ih n (d + 1) τ _ (by omega) (by omega) (by omega) (hF.tr t2) t3 (MIs_rch hM (by rw [show (2 * goW w f d + 1) / 2 = goW w f d by omega]; exact c.1) (by omega))
        · have es : sideS w T.2 (2 * f) d S = S := by
            unfold sideS; rw [e2, if_pos c, if_neg o2, if_neg g]
          rw [if_neg g, es]
          exact ih n (d + 1) ρ S (by omega) (by omega) (by omega) hF hR hM
      · have es : sideS w T.2 (2 * f) d S = S := by
          unfold sideS; rw [e2, if_neg c]
        rw [if_neg c, if_pos p00, es]
        exact ih n (d + 1) ρ S (by omega) (by omega) (by omega) hF hR hM
theorem gout_m {w : Int → Int} {T : Tst} {σ0 : Sg} {f : Int} (hW : Wf w) (hw : rd σ0 85 = w) (hT : THm σ0 T) (hf : isF w f) : ∀ (r n : Nat) (d : Int) (ρ : Sg) (S : Cst), d + r = 4 → 0 ≤ d → r < n → Fb σ0 ρ → CRm ρ S → MIs w S → wp (fX11_goesOut_L24 f n d ρ) (fun τ => Fb σ0 τ ∧ CRm τ (sidesS w T.2 (2 * f + 1) r d S) ∧ MIs w (sidesS w T.2 (2 * f + 1) r d S)) := by
  intro r
  induction r with
  | zero =>
    intro n d ρ S hd d0 hn hF hR hM
    cases n with
    | zero => omega
    | succ n =>
      rw [fX11_goesOut_L24, if_neg (by omega), wp_some]
      exact ⟨hF, hR, hM⟩
  | succ r ih =>
    intro n d ρ S hd d0 hn hF hR hM
    have fb := isF_b hf
    have hw2 : rd ρ 85 = w := hF.1.w hw
    have e2 : (2 * f + 1) / 2 = f := by omega
    have o2 : (2 * f + 1) % 2 = 1 := by omega
    cases n with
    | zero => omega
    | succ n =>
      rw [sidesS, fX11_goesOut_L24, if_pos (by omega), wentTo_m d hW hw2 (by omega), isSafe_m hW hw2, Option.bind_some, bw_id (z := d + 1) (by omega) (by omega)]
      by_cases c : isF w (goW w f d) ∧ w (4 + goW w f d) < w 83
      · have gb := isF_b c.1
        have e104 : rd ρ 104 (4 * f + d) = T.2 (4 * f + d) := (hF.2.2 _).trans (hT.2 _ (by omega) (by omega))
        rw [if_pos c, if_neg n10, bw_id (z := 4 * f) (by omega) (by omega), bw_id (z := 4 * f + d) (by omega) (by omega), grd_pos (by omega), e104]
        by_cases g : T.2 (4 * f + d) = 0
        · have es : sideS w T.2 (2 * f + 1) d S = rchS (2 * goW w f d) (2 * f + 1) S := by
            unfold sideS; rw [e2, if_pos c, if_pos o2, if_pos g]
          obtain ⟨τ, t1, t2, t3⟩ := come_m (x := 2 * goW w f d) (e := 2 * f + 1) hM hR (by omega) (by omega)
          rw [if_pos g, bw_id (z := 2 * goW w f d) (by omega) (by omega), bw_id (z := 2 * f) (by omega) (by omega), bw_id (z := 2 * f + 1) (by omega) (by omega), t1, Option.bind_some, es]
          exact ih n (d + 1) τ _ (by omega) (by omega) (by omega) (hF.tr t2) t3 (MIs_rch hM (by rw [show 2 * goW w f d / 2 = goW w f d by omega]; exact c.1) (by omega))
        · have es : sideS w T.2 (2 * f + 1) d S = S := by
            unfold sideS; rw [e2, if_pos c, if_pos o2, if_neg g]
          rw [if_neg g, es]
          exact ih n (d + 1) ρ S (by omega) (by omega) (by omega) hF hR hM
      · have es : sideS w T.2 (2 * f + 1) d S = S := by
          unfold sideS; rw [e2, if_neg c]
        rw [if_neg c, if_pos p00, es]
        exact ih n (d + 1) ρ S (by omega) (by omega) (by omega) hF hR hM
theorem exp_mm {w : Int → Int} {T : Tst} {ρ : Sg} {e : Int} {S : Cst} (hW : Wf w) (hw : rd ρ 85 = w) (hT : THm ρ T) (hef : isF w (e / 2)) (hR : CRm ρ S) (hM : MIs w S) : (e % 2 = 0 → wp (fX11_goesIn (e / 2) ρ) (fun τ => Fb ρ τ ∧ CRm τ (expS w T.1 T.2 e S) ∧ MIs w (expS w T.1 T.2 e S))) ∧ (e % 2 = 1 → wp (fX11_goesOut (e / 2) ρ) (fun τ => Fb ρ τ ∧ CRm τ (expS w T.1 T.2 e S) ∧ MIs w (expS w T.1 T.2 e S))) := by
  have fb := isF_b hef
  refine ⟨fun o => ?_, fun o => ?_⟩
  · have ee : 2 * (e / 2) = e := by omega
    have fin : ∀ τ, Fb ρ τ → CRm τ (ownS T.1 e S) → MIs w (ownS T.1 e S) → wp (fX11_goesIn_J21 (e / 2) τ) (fun τ => Fb ρ τ ∧ CRm τ (expS w T.1 T.2 e S) ∧ MIs w (expS w T.1 T.2 e S)) := by
      intro τ hτ h1 h2
      unfold fX11_goesIn_J21 expS
      have := gin_m hW (hτ.1.w hw) (THm_fb hT hτ) hef 4 FU 0 τ _ (by omega) (by omega) (by unfold FU; omega) Fb.rf h1 h2
      rw [ee] at this
      exact wp_mono this (fun q hq => ⟨hτ.tr hq.1, hq.2⟩)
    unfold fX11_goesIn
    rw [grd_pos (by omega), hT.1 _ fb.1 (by omega)]
    by_cases c : T.1 (e / 2) = 0
    · have eo : ownS T.1 e S = rchS (e + 1) e S := by unfold ownS; rw [if_pos (by omega), if_pos o]
      obtain ⟨τ, t1, t2, t3⟩ := come_m (x := e + 1) (e := e) hM hR (by omega) (by omega)
      rw [if_pos c, bw_id (z := 2 * (e / 2)) (by omega) (by omega), ee, bw_id (z := e + 1) (by omega) (by omega), t1, Option.bind_some]
      rw [eo] at fin
      exact fin τ t2 t3 (MIs_rch hM (by rw [show (e + 1) / 2 = e / 2 by omega]; exact hef) (by omega))
    · have eo : ownS T.1 e S = S := by unfold ownS; rw [if_neg (by omega)]
      rw [if_neg c]
      rw [eo] at fin
      exact fin ρ Fb.rf hR hM
  · have ee : 2 * (e / 2) + 1 = e := by omega
    have fin : ∀ τ, Fb ρ τ → CRm τ (ownS T.1 e S) → MIs w (ownS T.1 e S) → wp (fX11_goesOut_J22 (e / 2) τ) (fun τ => Fb ρ τ ∧ CRm τ (expS w T.1 T.2 e S) ∧ MIs w (expS w T.1 T.2 e S)) := by
      intro τ hτ h1 h2
      unfold fX11_goesOut_J22 expS
      have := gout_m hW (hτ.1.w hw) (THm_fb hT hτ) hef 4 FU 0 τ _ (by omega) (by omega) (by unfold FU; omega) Fb.rf h1 h2
      rw [ee] at this
      exact wp_mono this (fun q hq => ⟨hτ.tr hq.1, hq.2⟩)
    unfold fX11_goesOut
    rw [grd_pos (by omega), hT.1 _ fb.1 (by omega)]
    by_cases c : T.1 (e / 2) = 1
    · have eo : ownS T.1 e S = rchS (e - 1) e S := by unfold ownS; rw [if_pos (by omega), if_neg (by omega)]
      obtain ⟨τ, t1, t2, t3⟩ := come_m (x := e - 1) (e := e) hM hR (by omega) (by omega)
      rw [if_pos c, bw_id (z := 2 * (e / 2)) (by omega) (by omega), bw_id (z := 2 * (e / 2) + 1) (by omega) (by omega), ee, show 2 * (e / 2) = e - 1 by omega, t1, Option.bind_some]
      rw [eo] at fin
      exact fin τ t2 t3 (MIs_rch hM (by rw [show (e - 1) / 2 = e / 2 by omega]; exact hef) (by omega))
    · have eo : ownS T.1 e S = S := by unfold ownS; rw [if_neg (by omega)]
      rw [if_neg c]
      rw [eo] at fin
      exact fin ρ Fb.rf hR hM
