/-! cut, all of it -/
/-- nothing comes of the door in to the start -/
theorem dead_exp {w : Int → Int} {T : Tst} {a : Int} {S2 : Cst} (h80 : w 80 ≤ 8) (ha : isF w a) (hP : PIs w a T) (hs : S2.1 (2 * a + 1) ≠ -1) : expS w T.1 T.2 (2 * a) S2 = S2 := by
  have e2 : 2 * a / 2 = a := by omega
  have eo : ownS T.1 (2 * a) S2 = S2 := by
    unfold ownS
    split
    · rw [if_pos (by omega)]
      unfold rchS
      rw [if_neg hs]
    · rfl
  have go : ∀ (r : Nat) (d : Int), 0 ≤ d → d + r ≤ 4 → sidesS w T.2 (2 * a) r d S2 = S2 := by
    intro r
    induction r with
    | zero => intro d _ _; rfl
    | succ r ih =>
      intro d d0 d1
      have es : sideS w T.2 (2 * a) d S2 = S2 := by
        unfold sideS
        rw [e2]
        by_cases c : isF w (goW w a d) ∧ w (4 + goW w a d) < w 83
        · have := hP.1 (goW w a d) ((d + 2) % 4) c.1 (by omega) (by omega) (go_inv h80 ha ⟨d0, by omega⟩ c.1)
          rw [if_pos c, if_neg (by omega), if_neg (by rw [this]; decide)]
        · rw [if_neg c]
      rw [sidesS, es]
      exact ih (d + 1) (by omega) (by omega)
  unfold expS
  rw [eo]
  exact go 4 0 (by omega) (by omega)
theorem bfsD_m {w : Int → Int} {T : Tst} {σ0 : Sg} {a b : Int} {k107 : Sg → Option (Int × Sg)} {Q : Int × Sg → Prop} (hW : Wf w) (hw : rd σ0 85 = w) (hT : THm σ0 T) (hP : PIs w a T) (ha : isF w a) (hb : isF w b) (hab : a ≠ b) : ∀ (r2 m : Nat) (h2 : Int) (ρ : Sg) (S2 : Cst) (r : Nat) (h : Int) (S : Cst), h2 + r2 = 129 → 0 ≤ h2 → r2 < m → Fb σ0 ρ → CRm ρ S2 → MIs w S2 → h + r = 113 → 0 ≤ h → CIs w T.2 a S → S.1 (2 * a + 1) ≠ -1 → RelS a h h2 S S2 → (∀ τ S3, Fb σ0 τ → CRm τ S3 → (∀ x, x ≠ 2 * a → S3.1 x = (bfD w T.1 T.2 (2 * b) r h S).1 x) → wp (k107 τ) Q) → wp (fX11_hasWay_L43 k107 a b m h2 ρ) Q := by
  intro r2
  induction r2 with
  | zero =>
    intro m h2 ρ S2 r h S hh2 h20 hm hF hR hM hh h0 hI hs hRel hk
    have := cnS_r S2 128
    have := hM.1
    have := hRel.2.2.2.2
    omega
  | succ r2 ih =>
    intro m h2 ρ S2 r h S hh2 h20 hm hF hR hM hh h0 hI hs hRel hk
    have hW80 := hW.1.1.2
    have bb := isF_b hb
    have ab := isF_b ha
    have hw2 : rd ρ 85 = w := hF.1.w hw
    have hnn := CI_n hI
    have hc2 := cnS_r S2 128
    have hm1 := hM.1
    cases m with
    | zero => omega
    | succ m =>
      rw [fX11_hasWay_L43, hR.2.2]
      by_cases c1 : h2 < S2.2.2
      · rw [if_pos c1, bw_id (z := 2 * b) (by omega) (by omega), grd_pos (by omega), hR.1 _ (by omega) (by omega), hRel.1 (2 * b) (by omega)]
        have hef := hM.2.2 h2 h20 c1
        have eb := isF_b hef
        by_cases c2 : S.1 (2 * b) = -1
        · rw [if_pos c2, grd_pos (by omega), hR.2.1 h2 h20 c1, trm_pos (by omega) (by omega) (by omega) (by omega), tdv_pos (by omega) (by omega) (by omega) (by omega), bw_id (z := h2 + 1) (by omega) (by omega)]
          have ex := exp_mm (e := S2.2.1 h2) hW hw2 (THm_fb hT hF) hef hR hM
          have nx : ∀ τ, Fb ρ τ → CRm τ (expS w T.1 T.2 (S2.2.1 h2) S2) → MIs w (expS w T.1 T.2 (S2.2.1 h2) S2) → wp (fX11_hasWay_L43 k107 a b m (h2 + 1) τ) Q := by
            intro τ hτ hR3 hM3
            obtain ⟨l1, l2, l3, l4, l5⟩ := hRel
            by_cases d : S2.2.1 h2 = 2 * a
            · have hs2 : S2.1 (2 * a + 1) ≠ -1 := by rw [l1 _ (by omega)]; exact hs
              rw [d, dead_exp hW80 ha hP hs2] at hR3
              refine ih m (h2 + 1) τ S2 r h S (by omega) (by omega) (by omega) (hF.tr hτ) hR3 hM hh h0 hI hs ⟨l1, ?_, l3, l4, by omega⟩ hk
              rw [l2, pend_cons c1, d, List.filter_cons_of_neg (by simp)]
            · have hp := l2
              rw [pend_cons c1, List.filter_cons_of_pos (by simpa using d)] at hp
              have hlt : h < S.2.2 := by
                by_cases z : h < S.2.2
                · exact z
                · rw [pend_nil (by omega)] at hp
                  exact absurd hp (by simp)
              rw [pend_cons hlt] at hp
              have e1 := (List.cons.inj hp).1
              have e2 := (List.cons.inj hp).2
              obtain ⟨r', rfl⟩ : ∃ r', r = r' + 1 := ⟨r - 1, by omega⟩
              have eb2 : bfD w T.1 T.2 (2 * b) (r' + 1) h S = bfD w T.1 T.2 (2 * b) r' (h + 1) (expS w T.1 T.2 (S.2.1 h) S) := by rw [bfD, if_pos ⟨hlt, c2⟩]
              rw [eb2, e1] at hk
              have rel2 : RelS a (h + 1) (h2 + 1) S S2 := ⟨l1, e2, l3, by omega, by omega⟩
              have ci := CI_exp (th := T.1) hI ⟨h0, hlt⟩
              rw [e1] at ci
              have hs' : (expS w T.1 T.2 (S2.2.1 h2) S).1 (2 * a + 1) ≠ -1 := by
                obtain ⟨q1, -⟩ := ci.1.2.2.2.1
                have := (ci.1.1 0 (Int.le_refl _) ci.1.2.2.2.1.2).2.1
                rw [q1] at this
                exact this
              exact ih m (h2 + 1) τ _ r' (h + 1) _ (by omega) (by omega) (by omega) (hF.tr hτ) hR3 hM3 (by omega) (by omega) ci.1 hs' (Rel_exp rel2) hk
          by_cases o : S2.2.1 h2 % 2 = 0
          · rw [if_pos o, grd_pos (by omega), wp_bind]
            exact wp_mono (ex.1 o) (fun τ hτ => nx τ hτ.1 hτ.2.1 hτ.2.2)
          · rw [if_neg o, grd_pos (by omega), wp_bind]
            exact wp_mono (ex.2 (by omega)) (fun τ hτ => nx τ hτ.1 hτ.2.1 hτ.2.2)
        · rw [if_neg c2]
          refine hk ρ S2 hF hR (fun x hx => ?_)
          rw [hRel.1 x hx]
          have : bfD w T.1 T.2 (2 * b) r h S = S := by
            cases r with
            | zero => rfl
            | succ r => rw [bfD, if_neg (fun z => c2 z.2)]
          rw [this]
      · rw [if_neg c1]
        refine hk ρ S2 hF hR (fun x hx => ?_)
        rw [hRel.1 x hx]
        have hp := hRel.2.1
        rw [pend_nil (S := S2) (by omega)] at hp
        have : ¬ h < S.2.2 := fun z => by
          rw [pend_cons z] at hp
          exact absurd hp (by simp)
        have : bfD w T.1 T.2 (2 * b) r h S = S := by
          cases r with
          | zero => rfl
          | succ r => rw [bfD, if_neg (fun z => this z.1)]
        rw [this]
theorem wayTo_m {w : Int → Int} {ρ : Sg} {f g d : Int} (hW : Wf w) (hw : rd ρ 85 = w) (hf : isF w f) (hg : isF w g) (hd : 0 ≤ d ∧ d < 4) (h : goW w f d = g) : fX11_wayTo f g ρ = some d := by
  have fb := isF_b hf
  have gb := isF_b hg
  have hv := go_val hf hd (by omega)
  have go : ∀ (r n : Nat) (k : Int), k + r = d → 0 ≤ k → r < n → fX11_wayTo_L2 ρ f g n k = some d := by
    intro r
    induction r with
    | zero =>
      intro n k hk k0 hn
      cases n with
      | zero => omega
      | succ n =>
        rw [fX11_wayTo_L2, wentTo_m k hW hw (by omega), show k = d by omega, if_pos h]
    | succ r ih =>
      intro n k hk k0 hn
      cases n with
      | zero => omega
      | succ n =>
        have ne : ¬ goW w f k = g := fun z => by
          have hv2 := go_val hf (show 0 ≤ k ∧ k < 4 by omega) (by omega)
          have : dlW k = dlW d := by omega
          unfold dlW at this
          repeat' split at this
          all_goals omega
        rw [fX11_wayTo_L2, wentTo_m k hW hw (by omega), if_neg ne, bw_id (z := k + 1) (by omega) (by omega)]
        exact ih n (k + 1) (by omega) (by omega) (by omega)
  unfold fX11_wayTo
  exact go d.toNat FU 0 (by omega) (by omega) (by unfold FU; omega)
theorem turns_m {w gs : Int → Int} {ρ : Sg} {e x : Int} {T : Tst} (hW : Wf w) (hw : rd ρ 85 = w) (hT : THm ρ T) (he : isF w (e / 2)) (hx : isF w (x / 2)) (hE : Edge w gs e x) : ∃ τ, fX11_turns e x ρ = some τ ∧ Fm ρ τ ∧ (∀ j, rd τ 101 j = rd ρ 101 j) ∧ THm τ (tuS e x T) := by
  have eb := isF_b he
  have xb := isF_b hx
  have h80 := hW.1.1.2
  have f103 : ∀ i v, Fm ρ (wr ρ 103 i v) := fun i v c j hc _ => rq_c (fun z => hc (by rw [z]; decide))
  have f104 : ∀ i v, Fm ρ (wr ρ 104 i v) := fun i v c j hc _ => rq_c (fun z => hc (by rw [z]; decide))
  unfold fX11_turns tuS
  rw [tdv_pos (x := e) (by omega) (by omega) (by omega) (by omega), tdv_pos (x := x) (by omega) (by omega) (by omega) (by omega), trm_pos (x := e) (by omega) (by omega) (by omega) (by omega)]
  by_cases d : e / 2 = x / 2
  · have up : ∀ v : Int, v = 0 ∨ v = 1 → THm (wr ρ 103 (e / 2) v) (upz T.1 (e / 2) v, T.2) := by
      intro v hv
      refine ⟨fun f f0 f1 => ?_, fun k k0 k1 => ?_⟩
      · rw [wr_row, bw_id (z := v) (by omega) (by omega)]
        show upz _ _ _ f = upz _ _ _ f
        by_cases e1 : f = e / 2
        · rw [e1, upz_s, upz_s]
        · rw [upz_n e1, upz_n e1]; exact hT.1 f f0 f1
      · rw [rq_c (by decide)]; exact hT.2 k k0 k1
    rw [if_pos d, if_pos d]
    by_cases o : e % 2 = 0
    · rw [if_pos o, if_pos o, grd_pos (by omega)]
      exact ⟨_, rfl, f103 _ _, fun j => rq_c (by decide), up 1 (Or.inr rfl)⟩
    · rw [if_neg o, if_neg o, grd_pos (by omega)]
      exact ⟨_, rfl, f103 _ _, fun j => rq_c (by decide), up 0 (Or.inl rfl)⟩
  · have up : ∀ k v : Int, v = 0 ∨ v = 1 → THm (wr ρ 104 k v) (T.1, upz T.2 k v) := by
      intro k v hv
      refine ⟨fun f f0 f1 => ?_, fun l k0 k1 => ?_⟩
      · rw [rq_c (by decide)]; exact hT.1 f f0 f1
      · rw [wr_row, bw_id (z := v) (by omega) (by omega)]
        show upz _ _ _ l = upz _ _ _ l
        by_cases e1 : l = k
        · rw [e1, upz_s, upz_s]
        · rw [upz_n e1, upz_n e1]; exact hT.2 l k0 k1
    rw [if_neg d, if_neg d]
    rcases hE with z | ⟨z1, z2, k, k0, k1, k2, k3⟩ | ⟨z1, z2, k, k0, k1, k2⟩
    · exact absurd z.1.symm d
    · rw [if_pos z1, if_pos z1, wayTo_m hW hw he hx ⟨k0, k1⟩ k2, Option.bind_some, dir_val he hx ⟨k0, k1⟩ k2, bw_id (z := 4 * (e / 2)) (by omega) (by omega), bw_id (z := 4 * (e / 2) + k) (by omega) (by omega), grd_pos (by omega)]
      exact ⟨_, rfl, f104 _ _, fun j => rq_c (by decide), up _ 1 (Or.inr rfl)⟩
    · have iv := go_inv h80 he ⟨k0, k1⟩ (by rw [k2]; exact hx)
      rw [k2] at iv
      rw [if_neg (by omega), if_neg (by omega), wayTo_m hW hw hx he (show 0 ≤ (k + 2) % 4 ∧ (k + 2) % 4 < 4 by omega) iv, Option.bind_some, dir_val hx he (show 0 ≤ (k + 2) % 4 ∧ (k + 2) % 4 < 4 by omega) iv, bw_id (z := 4 * (x / 2)) (by omega) (by omega), bw_id (z := 4 * (x / 2) + (k + 2) % 4) (by omega) (by omega), grd_pos (by omega)]
      exact ⟨_, rfl, f104 _ _, fun j => rq_c (by decide), up _ 0 (Or.inl rfl)⟩
theorem way_m {w gs : Int → Int} {a : Int} {S : Cst} {σ0 : Sg} (hW : Wf w) (hw : rd σ0 85 = w) (ha : isF w a) (hS : CIs w gs a S) (h101 : ∀ x, 0 ≤ x → x < 128 → x ≠ 2 * a → rd σ0 101 x = S.1 x) : ∀ (r n : Nat) (i : Int) (ρ : Sg) (T : Tst), 0 ≤ i → i < S.2.2 → i ≤ r → r < n → Fm σ0 ρ → (∀ j, rd ρ 101 j = rd σ0 101 j) → THm ρ T → wp (fX11_hasWay_L125 a n (S.2.1 i) ρ) (fun q => q.1 = 1 ∧ Fm σ0 q.2 ∧ THm q.2 (pthS S.1 (2 * a + 1) r (S.2.1 i) T)) := by
  intro r
  induction r with
  | zero =>
    intro n i ρ T i0 i1 ir hn hF h1 hT
    have ab := isF_b ha
    cases n with
    | zero => omega
    | succ n =>
      have e : S.2.1 i = 2 * a + 1 := by rw [show i = 0 by omega]; exact hS.2.2.2.1.1
      rw [fX11_hasWay_L125, bw_id (z := 2 * a) (by omega) (by omega), bw_id (z := 2 * a + 1) (by omega) (by omega), if_pos e, wp_some]
      exact ⟨rfl, hF, hT⟩
  | succ r ih =>
    intro n i ρ T i0 i1 ir hn hF h1 hT
    have ab := isF_b ha
    have hw2 := hF.w hw
    cases n with
    | zero => omega
    | succ n =>
      rw [fX11_hasWay_L125, bw_id (z := 2 * a) (by omega) (by omega), bw_id (z := 2 * a + 1) (by omega) (by omega), pthS]
      by_cases c : S.2.1 i = 2 * a + 1
      · rw [if_pos c, if_pos c, wp_some]
        exact ⟨rfl, hF, hT⟩
      · have hi : 0 < i := by
          by_cases z : i = 0
          · rw [z, hS.2.2.2.1.1] at c; exact absurd rfl c
          · omega
        obtain ⟨j, j0, j1, j2, j3⟩ := hS.2.2.1 i hi i1
        obtain ⟨hx, -, hx2⟩ := hS.1 i i0 i1
        have he := (hS.1 j j0 (by omega)).1
        have xb := isF_b hx
        have e101 : rd ρ 101 (S.2.1 i) = S.2.1 j := (h1 _).trans ((h101 _ (by omega) (by omega) hx2).trans j2)
        obtain ⟨τ, t1, t2, t3, t4⟩ := turns_m hW hw2 hT he hx j3
        rw [if_neg c, if_neg c, grd_pos (by omega), e101, t1, Option.bind_some, grd_pos (by omega), t3, e101, j2]
        exact ih n j τ _ j0 (by omega) (by omega) (by omega) (hF.tr t2) (fun k => (t3 k).trans (h1 k)) t4
def S0m (a : Int) : Cst := (upz (fun _ => -1) (2 * a + 1) (2 * a + 1), upz (fun _ => 0) 0 (2 * a + 1), 1)
theorem S0_rel {a : Int} (h0 : 0 ≤ a) : RelS a 0 0 (S0c a) (S0m a) := by
  refine ⟨fun x hx => ?_, ?_, ?_, ?_, ?_⟩
  · show upz (fun _ => -1) (2 * a + 1) (2 * a + 1) x = upz (upz (fun _ => -1) (2 * a + 1) (2 * a + 1)) (2 * a) (2 * a + 1) x
    rw [upz_n hx]
  · show [2 * a + 1] = [2 * a + 1].filter _
    rw [List.filter_cons_of_pos (by simp; omega)]
    rfl
  · show upz (upz (fun _ => -1) (2 * a + 1) (2 * a + 1)) (2 * a) (2 * a + 1) (2 * a) ≠ -1
    rw [upz_s]; omega
  · show (0 : Int) ≤ 1; omega
  · show (0 : Int) ≤ 1; omega
theorem S0m_eq {a : Int} : rchS (2 * a + 1) (2 * a + 1) (fun _ => -1, fun _ => 0, 0) = S0m a := by
  unfold rchS S0m
  rw [if_pos rfl]
  rfl
theorem S0c_ne {a : Int} (h0 : 0 ≤ a) : (S0c a).1 (2 * a + 1) ≠ -1 := by
  show upz (upz (fun _ => -1) (2 * a + 1) (2 * a + 1)) (2 * a) (2 * a + 1) (2 * a + 1) ≠ -1
  rw [upz_n (by omega), upz_s]
  omega
theorem hasWay_m {w : Int → Int} {T : Tst} {σ : Sg} {a b : Int} (hW : Wf w) (hw : rd σ 85 = w) (hT : THm σ T) (hP : PIs w a T) (ha : isF w a) (hb : isF w b) (hab : a ≠ b) : wp (fX11_hasWay a b σ) (fun q => Fm σ q.2 ∧ ((srS w a b T).1 (2 * b) = -1 ∧ q.1 = 0 ∨ (srS w a b T).1 (2 * b) ≠ -1 ∧ q.1 = 1 ∧ THm q.2 (nxT w a b T))) := by
  have ab := isF_b ha
  have bb := isF_b hb
  unfold fX11_hasWay
  have go : ∀ (k22 : Sg → Option (Int × Sg)) (Q : Int × Sg → Prop), (∀ τ, Fr [101] σ τ → (∀ x, 0 ≤ x → x < 128 → rd τ 101 x = -1) → wp (k22 τ) Q) → ∀ (r n : Nat) (i : Int) (ρ : Sg), i + r = 128 → 0 ≤ i → r < n → Fr [101] σ ρ → (∀ j, 0 ≤ j → j < i → rd ρ 101 j = -1) → wp (fX11_hasWay_L2 k22 a b n i ρ) Q := by
    intro k22 Q hk r
    induction r with
    | zero =>
      intro n i ρ hi i0 hn hG hz
      cases n with
      | zero => omega
      | succ n =>
        rw [fX11_hasWay_L2, if_neg (by omega)]
        exact hk ρ hG (fun x x0 x1 => hz x x0 (by omega))
    | succ r ih =>
      intro n i ρ hi i0 hn hG hz
      cases n with
      | zero => omega
      | succ n =>
        rw [fX11_hasWay_L2, if_pos (by omega), grd_pos (by omega), bw_id (z := i + 1) (by omega) (by omega)]
        refine ih n (i + 1) _ (by omega) (by omega) (by omega) (hG.wr (by decide)) (fun j j0 j1 => ?_)
        by_cases e : j = i
        · rw [e, rq_s]; rfl
        · rw [rq_i e]; exact hz j j0 (by omega)
  refine go _ _ (fun τ hτ hz => ?_) 128 FU 0 σ (by omega) (by omega) (by unfold FU; omega) Fr.rf (fun j j0 j1 => by omega)
  rw [bw_id (z := 2 * a) (by omega) (by omega), bw_id (z := 2 * a + 1) (by omega) (by omega)]
  -- the start
  have hZ : CRm (wr τ 84 38 0) (fun _ => -1, fun _ => 0, 0) := ⟨fun x x0 x1 => (rq_c (by decide)).trans (hz x x0 x1), fun i i0 i1 => by simp only at i1; omega, by rw [rq_s]; rfl⟩
  have hMZ : MIs w (fun _ => -1, fun _ => 0, 0) := ⟨(cnS_r _ 128).1, by simp, fun i i0 i1 => by simp only at i1; omega⟩
  obtain ⟨s, s1, s2, s3⟩ := come_m (x := 2 * a + 1) (e := 2 * a + 1) hMZ hZ (by omega) (by omega)
  have hM1 := MIs_rch (x := 2 * a + 1) (e := 2 * a + 1) hMZ (by rw [show (2 * a + 1) / 2 = a by omega]; exact ha) (by omega)
  rw [S0m_eq] at hM1 s3
  have hFb : Fm σ s := fun c i h1 h2 => by
    rw [s2.1 c i h1 h2, rd_wr, if_neg h2]
    exact hτ c i (fun z => h1 (by
      simp only [List.mem_cons, List.not_mem_nil, or_false] at z
      rw [z]; decide))
  have hT1 : THm s T := ⟨fun f x y => by rw [s2.2.1, rq_c (by decide), hτ 103 f (by decide)]; exact hT.1 f x y, fun k x y => by rw [s2.2.2, rq_c (by decide), hτ 104 k (by decide)]; exact hT.2 k x y⟩
  have hw1 := hFb.w hw
  rw [s1, Option.bind_some]
  refine bfsD_m (T := T) hW hw1 hT1 hP ha hb hab 129 FU 0 s (S0m a) 113 0 (S0c a) (by omega) (by omega) (by unfold FU; omega) Fb.rf s3 hM1 (by omega) (by omega) (S0c_I ha) (S0c_ne ab.1) (S0_rel ab.1) (fun α S3 hα hR3 hx3 => ?_)
  have e2b : rd α 101 (2 * b) = (srS w a b T).1 (2 * b) := (hR3.1 _ (by omega) (by omega)).trans (hx3 _ (by omega))
  show wp (grd _ _) _
  rw [bw_id (z := 2 * b) (by omega) (by omega), grd_pos (by omega), e2b]
  have hFα : Fm σ α := hFb.tr hα.1
  by_cases c : (srS w a b T).1 (2 * b) = -1
  · rw [if_pos c, wp_some]
    exact ⟨hFα, Or.inl ⟨c, rfl⟩⟩
  · rw [if_neg c]
    obtain ⟨i, i0, i1, i2, i3⟩ := found_i ha hab c
    have wy := way_m (S := srS w a b T) (gs := T.2) hW (hFα.w hw) ha (srS_I ha) (fun x x0 x1 x2 => (hR3.1 x x0 x1).trans (hx3 x x2)) 111 FU i α T i0 i1 i3 (by unfold FU; omega) Fm.rf (fun _ => rfl) (THm_fb hT1 hα)
    rw [i2] at wy
    exact wp_mono wy (fun q hq => ⟨hFα.tr hq.2.1, Or.inr ⟨c, hq.1, hq.2.2⟩⟩)
theorem no_way {w : Int → Int} {T : Tst} {a b : Int} (ha : isF w a) (hab : a ≠ b) (hg : ∀ d, 0 ≤ d → d < 4 → T.2 (4 * a + d) = 1) : (srS w a b T).1 (2 * b) = -1 := by
  have ab := isF_b ha
  have e0 : (S0c a).2.1 0 = 2 * a + 1 := by show upz (fun _ => 0) 0 (2 * a + 1) 0 = 2 * a + 1; rw [upz_s]
  have ee : (2 * a + 1) / 2 = a := by omega
  have hd : (S0c a).1 (2 * a) ≠ -1 := by
    show upz (upz (fun _ => -1) (2 * a + 1) (2 * a + 1)) (2 * a) (2 * a + 1) (2 * a) ≠ -1
    rw [upz_s]; omega
  have eo : ownS T.1 (2 * a + 1) (S0c a) = S0c a := by
    unfold ownS
    split
    · rw [if_neg (by omega), show 2 * a + 1 - 1 = 2 * a by omega]
      unfold rchS
      rw [if_neg hd]
    · rfl
  have go : ∀ (r : Nat) (d : Int), 0 ≤ d → d + r ≤ 4 → sidesS w T.2 (2 * a + 1) r d (S0c a) = S0c a := by
    intro r
    induction r with
    | zero => intro d _ _; rfl
    | succ r ih =>
      intro d d0 d1
      have es : sideS w T.2 (2 * a + 1) d (S0c a) = S0c a := by
        unfold sideS
        rw [ee]
        split
        · rw [if_pos (by omega), if_neg (by rw [hg d d0 (by omega)]; decide)]
        · rfl
      rw [sidesS, es]
      exact ih (d + 1) (by omega) (by omega)
  have ex : expS w T.1 T.2 (2 * a + 1) (S0c a) = S0c a := by
    unfold expS
    rw [eo]
    exact go 4 0 (by omega) (by omega)
  have cb : (S0c a).1 (2 * b) = -1 := by
    show upz (upz (fun _ => -1) (2 * a + 1) (2 * a + 1)) (2 * a) (2 * a + 1) (2 * b) = -1
    rw [upz_n (by omega), upz_n (by omega)]
  unfold srS
  rw [bfD]
  by_cases c : (0 : Int) < (S0c a).2.2 ∧ (S0c a).1 (2 * b) = -1
  · rw [if_pos c, e0, ex, bfD, if_neg (show ¬ ((0 : Int) + 1 < (S0c a).2.2 ∧ (S0c a).1 (2 * b) = -1) from fun z => by
      have : (S0c a).2.2 = 1 := rfl
      omega)]
    exact cb
  · rw [if_neg c]; exact cb
theorem cutL_m {w : Int → Int} {σ0 : Sg} {a b : Int} (hW : Wf w) (hw : rd σ0 85 = w) (ha : isF w a) (hb : isF w b) (hab : a ≠ b) : ∀ (r n : Nat) (c : Int) (ρ : Sg) (T : Tst), c + r = 4 → 0 ≤ c → r + 1 < n → Fm σ0 ρ → THm ρ T → PIs w a T → g4S a T.2 = c → wp (fX11_cut_L72 a b n c ρ) (fun q => q.1 = ctS w a b r T c ∧ Fm σ0 q.2) := by
  have h80 := hW.1.1.2
  intro r
  induction r with
  | zero =>
    intro n c ρ T hc c0 hn hF hT hP h4
    cases n with
    | zero => omega
    | succ n =>
      have hall : ∀ d, 0 ≤ d → d < 4 → T.2 (4 * a + d) = 1 := fun d d0 d1 => by
        have h0 := hP.2.1 (4 * a)
        have h1 := hP.2.1 (4 * a + 1)
        have h2 := hP.2.1 (4 * a + 2)
        have h3 := hP.2.1 (4 * a + 3)
        unfold g4S at h4
        have hd4 : d = 0 ∨ d = 1 ∨ d = 2 ∨ d = 3 := by omega
        rcases hd4 with e | e | e | e <;> subst e
        · rw [Int.add_zero]; omega
        · omega
        · omega
        · omega
      have nw := no_way (b := b) (T := T) ha hab hall
      rw [fX11_cut_L72, wp_bind]
      refine wp_mono (hasWay_m hW (hF.w hw) hT hP ha hb hab) (fun q hq => ?_)
      rcases hq.2 with z | z
      · rw [z.2, if_pos p00, wp_some, ctS]
        exact ⟨rfl, hF.tr hq.1⟩
      · exact absurd nw z.1
  | succ r ih =>
    intro n c ρ T hc c0 hn hF hT hP h4
    cases n with
    | zero => omega
    | succ n =>
      rw [fX11_cut_L72, wp_bind]
      refine wp_mono (hasWay_m hW (hF.w hw) hT hP ha hb hab) (fun q hq => ?_)
      rw [ctS]
      rcases hq.2 with z | z
      · rw [z.2, if_pos p00, wp_some, if_pos z.1]
        exact ⟨rfl, hF.tr hq.1⟩
      · have np := nxT_P h80 ha hab hP z.1
        rw [z.2.1, if_neg n10, if_neg z.1, bw_id (z := c + 1) (by omega) (by omega)]
        exact ih n (c + 1) q.2 _ (by omega) (by omega) (by omega) (hF.tr hq.1) z.2.2 np.1 (by rw [np.2, h4])
theorem cut_m {w : Int → Int} {σ : Sg} {a b : Int} (hW : Wf w) (hw : rd σ 85 = w) (ha : isF w a) (hb : isF w b) (hab : a ≠ b) : wp (fX11_cut_L29 (fun s8 => fX11_cut_L50 (fun s10 => fX11_cut_L72 a b FU 0 s10) a b FU 0 s8) a b FU 0 σ) (fun q => q.1 = ctS w a b 4 T0c 0 ∧ Fm σ q.2) := by
  have go2 : ∀ (r n : Nat) (i : Int) (ρ : Sg), i + r = 256 → 0 ≤ i → r < n → Fr [103, 104] σ ρ → (∀ j, 0 ≤ j → j < 64 → rd ρ 103 j = 0) → (∀ j, 0 ≤ j → j < i → rd ρ 104 j = 0) → wp (fX11_cut_L50 (fun s10 => fX11_cut_L72 a b FU 0 s10) a b n i ρ) (fun q => q.1 = ctS w a b 4 T0c 0 ∧ Fm σ q.2) := by
    intro r
    induction r with
    | zero =>
      intro n i ρ hi i0 hn hG h3 hz
      cases n with
      | zero => omega
      | succ n =>
        have hF : Fm σ ρ := fun c j h1 h2 => hG c j (fun z => h1 (by
          simp only [List.mem_cons, List.not_mem_nil, or_false] at z
          rcases z with z | z <;> rw [z] <;> decide))
        rw [fX11_cut_L50, if_neg (by omega)]
        exact cutL_m hW hw ha hb hab 4 FU 0 ρ T0c (by omega) (by omega) (by unfold FU; omega) hF ⟨fun f x y => h3 f x y, fun k x y => hz k x (by omega)⟩ T0c_P rfl
    | succ r ih =>
      intro n i ρ hi i0 hn hG h3 hz
      cases n with
      | zero => omega
      | succ n =>
        rw [fX11_cut_L50, if_pos (by omega), grd_pos (by omega), bw_id (z := i + 1) (by omega) (by omega)]
        refine ih n (i + 1) _ (by omega) (by omega) (by omega) (hG.wr (by decide)) (fun j j0 j1 => (rq_c (by decide)).trans (h3 j j0 j1)) (fun j j0 j1 => ?_)
        by_cases e : j = i
        · rw [e, rq_s]; rfl
        · rw [rq_i e]; exact hz j j0 (by omega)
  have go1 : ∀ (r n : Nat) (i : Int) (ρ : Sg), i + r = 64 → 0 ≤ i → r < n → Fr [103, 104] σ ρ → (∀ j, 0 ≤ j → j < i → rd ρ 103 j = 0) → wp (fX11_cut_L29 (fun s8 => fX11_cut_L50 (fun s10 => fX11_cut_L72 a b FU 0 s10) a b FU 0 s8) a b n i ρ) (fun q => q.1 = ctS w a b 4 T0c 0 ∧ Fm σ q.2) := by
    intro r
    induction r with
    | zero =>
      intro n i ρ hi i0 hn hG hz
      cases n with
      | zero => omega
      | succ n =>
        rw [fX11_cut_L29, if_neg (by omega)]
        exact go2 256 FU 0 ρ (by omega) (by omega) (by unfold FU; omega) hG (fun j j0 j1 => hz j j0 (by omega)) (fun j j0 j1 => by omega)
    | succ r ih =>
      intro n i ρ hi i0 hn hG hz
      cases n with
      | zero => omega
      | succ n =>
        rw [fX11_cut_L29, if_pos (by omega), grd_pos (by omega), bw_id (z := i + 1) (by omega) (by omega)]
        refine ih n (i + 1) _ (by omega) (by omega) (by omega) (hG.wr (by decide)) (fun j j0 j1 => ?_)
        by_cases e : j = i
        · rw [e, rq_s]; rfl
        · rw [rq_i e]; exact hz j j0 (by omega)
  exact go1 64 FU 0 σ (by omega) (by omega) (by unfold FU; omega) Fr.rf (fun j j0 j1 => by omega)
theorem apW_self (a : Int) : apW a a = 0 := by
  unfold apW ab
  simp
theorem op_cut {has : Bool} {N : Nat} (hN : N ≤ 511) (x1 x2 : Int) (h1 : bw x1 = x1) (h2 : bw x2 = x2) : OpE has N (fX10_cut x1 x2) (fX11_cut x1 x2) := by
  intro σ h
  have hC := h.1
  have hW := hC.1
  by_cases c : (isF (rd σ 85) x1 ∧ rd σ 85 (4 + x1) < rd σ 85 83) ∧ (isF (rd σ 85) x2 ∧ rd σ 85 (4 + x2) < rd σ 85 83) ∧ ¬ apW x1 x2 < 2
  · obtain ⟨c1, c2, c3⟩ := c
    have b1 := isF_b c1.1
    have b2 := isF_b c2.1
    have hab : x1 ≠ x2 := fun z => c3 (by rw [z, apW_self]; decide)
    refine opE_ro (v := ctS (rd σ 85) x1 x2 4 T0c 0) h ?_ (fun τ hk => ?_)
    · show wp (fX10_cut x1 x2 σ) _
      unfold fX10_cut
      rw [hasField_c hC, if_pos c1.1, if_neg n10, hasField_c hC, if_pos c2.1, if_neg n10, steps_eq (by omega) (by omega), if_neg c3, isSteep_c hC c1.1, if_pos c1.2, Option.bind_some, if_pos p00, isSteep_c hC c2.1, if_pos c2.2, Option.bind_some, if_pos p00, wp_bind]
      refine wp_mono (cut_c hC c1.1 c2.1 hab) (fun q hq => ?_)
      rw [wp_some]
      exact ⟨hq.1, Keep.fr hq.2 (by decide) (by decide)⟩
    · have e85 : rd τ 85 = rd σ 85 := hk.1 85 (by decide)
      show wp (fX11_cut x1 x2 τ) _
      unfold fX11_cut
      rw [isSafe_m hW e85, if_pos c1, Option.bind_some, if_neg n10, isSafe_m hW e85, if_pos c2, Option.bind_some, if_neg n10, apart_eq (by omega) (by omega), if_neg c3]
      exact wp_mono (cut_m hW e85 c1.1 c2.1 hab) (fun q hq => ⟨hq.1, hq.2.keep⟩)
  · refine opE_no h (v := -1) ?_ ?_
    · unfold fX10_cut
      rw [hasField_c hC, hasField_c hC]
      by_cases c1 : isF (rd σ 85) x1
      · by_cases c2 : isF (rd σ 85) x2
        · have b1 := isF_b c1
          have b2 := isF_b c2
          rw [if_pos c1, if_neg n10, if_pos c2, if_neg n10, steps_eq (by omega) (by omega)]
          by_cases c3 : apW x1 x2 < 2
          · rw [if_pos c3]
          · rw [if_neg c3, isSteep_c hC c1, Option.bind_some]
            by_cases c4 : rd σ 85 (4 + x1) < rd σ 85 83
            · rw [if_pos c4, if_pos p00, isSteep_c hC c2, Option.bind_some]
              by_cases c5 : rd σ 85 (4 + x2) < rd σ 85 83
              · exact absurd ⟨⟨c1, c4⟩, ⟨c2, c5⟩, c3⟩ c
              · rw [if_neg c5, if_neg n10]
            · rw [if_neg c4, if_neg n10]
        · rw [if_pos c1, if_neg n10, if_neg c2, if_pos p00]
      · rw [if_neg c1, if_pos p00]
    · unfold fX11_cut
      rw [isSafe_m hW rfl, isSafe_m hW rfl, Option.bind_some, Option.bind_some]
      by_cases c1 : isF (rd σ 85) x1 ∧ rd σ 85 (4 + x1) < rd σ 85 83
      · by_cases c2 : isF (rd σ 85) x2 ∧ rd σ 85 (4 + x2) < rd σ 85 83
        · have b1 := isF_b c1.1
          have b2 := isF_b c2.1
          rw [if_pos c1, if_neg n10, if_pos c2, if_neg n10, apart_eq (by omega) (by omega)]
          by_cases c3 : apW x1 x2 < 2
          · rw [if_pos c3]
          · exact absurd ⟨c1, c2, c3⟩ c
        · rw [if_pos c1, if_neg n10, if_neg c2, if_pos p00]
      · rw [if_neg c1, if_pos p00]
