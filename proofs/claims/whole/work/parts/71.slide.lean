/-! avalanches -/
theorem CW_draw {m : Int} {w : Int → Int} {σ : Sg} {b : Nat} (h : CW m w σ b) {d : Int} (hd : bw d = d) : CW m (upz w 2 d) (wr σ b 7 d) b := by
  have h12 := h.1.1.2.2.2.2.2.1
  have lo : ∀ j : Int, j ≠ 2 → upz w 2 d j = w j := fun j hj => upz_n hj
  refine CG_dyn h (fun j hj => lo j (by omega)) (fun i i0 i1 i8 i25 i26 j => ?_) (fun i i0 i4 => rq_i (by omega)) (by rw [lo 0 (by decide)]; exact h.1.1.2.2.2.2.2.2.1) (by rw [lo 1 (by decide)]; exact h.1.1.2.2.2.2.2.2.2.1) (by rw [lo 3 (by decide)]; exact h.1.1.2.2.2.2.2.2.2.2) (fun f hf => ?_) (fun p hp => ?_) ?_ ?_ ?_ (fun f hf => ?_) (fun f a1 a2 => ?_) (fun p hp => ?_) ?_
  · unfold vw
    split
    · rfl
    · exact rq_c (by omega)
  · have hfb := isF_b hf
    rw [lo (4 + f) (by omega)]
    exact h.1.2.1 f hf
  · have := hp.1
    rw [lo (68 + p) (by omega)]
    exact (h.1.2.2.1 p hp).2.2.2.2.1
  · rw [lo 1 (by decide)]; exact (rq_i (by decide)).trans h.2.1.2.2.2.2.2.1
  · rw [lo 0 (by decide)]; exact (rq_i (by decide)).trans h.2.1.2.2.2.2.2.2.1
  · rw [upz_s]; exact rq_s.trans hd
  · have hfb := isF_b hf
    rw [lo (4 + f) (by omega)]
    exact (rq_c (by omega)).trans (h.2.2.1.1 f hf)
  · have h3 : 0 ≤ rd σ (b + 1) f ∧ rd σ (b + 1) f ≤ 99 := h.2.2.1.2 f a1 a2
    show 0 ≤ rd (wr σ b 7 d) (b + 1) f ∧ rd (wr σ b 7 d) (b + 1) f ≤ 99
    rw [rq_c (by omega)]
    exact h3
  · have := hp.1
    rw [lo (68 + p) (by omega)]
    exact (rq_c (by omega)).trans (h.2.2.2.1.2 p hp).2.2.2.2.1
  · exact RB_congr h.2.2.2.2.2.1 (lo 3 (by decide)) h.1.1.2.2.2.2.2.2.2.2.2 (fun j a1 a2 => lo j (by omega)) (fun i => rq_c (by omega)) (fun i => rq_c (by omega))
theorem CW_snow {m : Int} {w : Int → Int} {σ : Sg} {b : Nat} (h : CW m w σ b) {c v : Int} (hc : isF w c) (hv : 0 ≤ v ∧ v ≤ 99) : CW m (upz w (4 + c) v) (wr σ (b + 1) c v) b := by
  have hcb := isF_b hc
  have h12 := h.1.1.2.2.2.2.2.1
  have lo : ∀ j : Int, j ≠ 4 + c → upz w (4 + c) v j = w j := fun j hj => upz_n hj
  refine CG_dyn h (fun j hj => lo j (by omega)) (fun i i0 i1 i8 i25 i26 j => ?_) (fun i i0 i4 => rq_c (by omega)) (by rw [lo 0 (by omega)]; exact h.1.1.2.2.2.2.2.2.1) (by rw [lo 1 (by omega)]; exact h.1.1.2.2.2.2.2.2.2.1) (by rw [lo 3 (by omega)]; exact h.1.1.2.2.2.2.2.2.2.2) (fun f hf => ?_) (fun p hp => ?_) ?_ ?_ ?_ (fun f hf => ?_) (fun f a1 a2 => ?_) (fun p hp => ?_) ?_
  · unfold vw
    split
    · rfl
    · exact rq_c (by omega)
  · by_cases e : f = c
    · rw [e, upz_s]; exact hv
    · rw [lo (4 + f) (by omega)]
      exact h.1.2.1 f hf
  · have := hp.1
    rw [lo (68 + p) (by omega)]
    exact (h.1.2.2.1 p hp).2.2.2.2.1
  · rw [lo 1 (by omega)]; exact (rq_c (by omega)).trans h.2.1.2.2.2.2.2.1
  · rw [lo 0 (by omega)]; exact (rq_c (by omega)).trans h.2.1.2.2.2.2.2.2.1
  · rw [lo 2 (by omega)]; exact (rq_c (by omega)).trans h.2.1.2.2.2.2.2.2.2
  · show rd (wr σ (b + 1) c v) (b + 1) f = _
    by_cases e : f = c
    · rw [e, upz_s, rq_s, bw_id (by omega) (by omega)]
    · rw [lo (4 + f) (by omega), rq_i e]
      exact h.2.2.1.1 f hf
  · have h3 : 0 ≤ rd σ (b + 1) f ∧ rd σ (b + 1) f ≤ 99 := h.2.2.1.2 f a1 a2
    show 0 ≤ rd (wr σ (b + 1) c v) (b + 1) f ∧ rd (wr σ (b + 1) c v) (b + 1) f ≤ 99
    by_cases e : f = c
    · rw [e, rq_s, bw_id (by omega) (by omega)]; exact hv
    · rw [rq_i e]
      exact h3
  · have := hp.1
    rw [lo (68 + p) (by omega)]
    exact (rq_c (by omega)).trans (h.2.2.2.1.2 p hp).2.2.2.2.1
  · exact RB_congr h.2.2.2.2.2.1 (lo 3 (by omega)) h.1.1.2.2.2.2.2.2.2.2.2 (fun j a1 a2 => lo j (by omega)) (fun i => rq_c (by omega)) (fun i => rq_c (by omega))
def sdW (w : Int → Int) : Int := bw (bw (1664525 * w 2) + 1013904223)
def slU (w : Int → Int) (c : Int) : Int → Int := upz (upz w 2 (sdW w)) (4 + c) (w (4 + c) - w (4 + c) / 2)
def slT (w : Int → Int) (c : Int) : Int → Int := if goW w c 2 = -1 then slU w c else upz (slU w c) (4 + goW w c 2) (min 99 (slU w c (4 + goW w c 2) + w (4 + c) / 2))
def slS (t : Int) (w : Int → Int) (c : Int) : Int → Int :=
  if isF w c ∧ w 83 ≤ w (4 + c) then (if trm (bushr (sdW w) 8) 1000 < w 84 then noteW t (slT w c) 4 c (w (4 + c) / 2) else upz w 2 (sdW w)) else w
def slN (t : Int) (w : Int → Int) : Nat → Int → Int
  | 0 => w
  | n + 1 => slS t (slN t w n) n
theorem slU_F {w : Int → Int} (hW : Wf w) {c f : Int} (hc : isF w c) (hf : isF w f) : 0 ≤ slU w c (4 + f) ∧ slU w c (4 + f) ≤ 99 := by
  have h1 := hW.2.1 c hc
  have h2 := hW.2.1 f hf
  have hcb := isF_b hc
  have hfb := isF_b hf
  unfold slU
  by_cases e : f = c
  · rw [e, upz_s]; omega
  · rw [upz_n (by omega), upz_n (by omega)]; exact h2
theorem slS_lo {t : Int} {w : Int → Int} (hW : Wf w) {c j : Int} (hj : j = 0 ∨ j = 1 ∨ (68 ≤ j ∧ j < 311) ∨ 911 ≤ j) : slS t w c j = w j := by
  have hb3 := hW.1.2.2.2.2.2.2.2.2
  unfold slS
  split
  · next hc =>
    have hcb := isF_b hc.1
    have hU : ∀ i : Int, i ≠ 2 → ¬ (4 ≤ i ∧ i < 68) → slT w c i = w i := by
      intro i i2 i4
      have h1 : slU w c i = w i := by unfold slU; rw [upz_n (by omega), upz_n i2]
      unfold slT
      split
      · exact h1
      · next hg =>
        have hgb := isF_b ((goW_F hW.1.1.2 hW.1.2.1.2 c 2).resolve_left hg)
        rw [upz_n (by omega)]; exact h1
    split
    · have h3 := hU 3 (by decide) (by decide)
      rw [noteW_lo (by omega) (by omega) (by omega) (by omega)]
      exact hU j (by omega) (by omega)
    · rw [upz_n (by omega)]
  · rfl
theorem sdW_nr (w : Int → Int) : bw (sdW w) = sdW w := bw_bw _
theorem slS_c {m : Int} {w : Int → Int} {σ : Sg} {b : Nat} (hb : b = 1 ∧ m = 150 ∨ b = 28 ∧ m = 0) (hm : m ≠ 0) (h : CW m w σ b) {c : Int} (hc : 0 ≤ c ∧ c < 56) {n : Nat} {Q : Sg → Prop} (hk : ∀ τ, CW m (slS m w c) τ b → Fr (cellW b) σ τ → wp (fX9_slide_L2 b n (c + 1) τ) Q) : wp (fX9_slide_L2 b (n + 1) c σ) Q := by
  have e3 : rd σ b 3 = w 83 := h.2.1.2.2.2.1
  have e4 : rd σ b 4 = w 84 := by have := h.2.1.2.2.2.2.1; rw [if_neg hm] at this; exact this
  have e7 : rd σ b 7 = w 2 := h.2.1.2.2.2.2.2.2.2
  rw [fX9_slide_L2, if_pos hc.2, hasField_c h, bw_id (z := c + 1) (by omega) (by omega)]
  by_cases hf : isF w c
  · have e1 : rd σ (b + 1) c = w (4 + c) := h.2.2.1.1 c hf
    have hwc := h.1.2.1 c hf
    rw [if_pos hf, if_neg (by decide), grd_pos (by omega), e1, e3]
    by_cases hs : w (4 + c) < w 83
    · rw [if_pos hs]
      refine hk σ ?_ Fr.rf
      unfold slS
      rw [if_neg (by omega)]
      exact h
    · rw [if_neg hs]
      unfold fX9_draw
      have ed : bw (bw (1664525 * rd σ b 7) + 1013904223) = sdW w := by rw [e7]; rfl
      rw [if_pos (by decide), grd_pos (by decide), wp_bind, wp_some, ed, rq_s, sdW_nr]
      have h2 := CW_draw h (sdW_nr w)
      have hF2 : Fr (cellW b) σ (wr σ b 7 (sdW w)) := Fr.rf.wr (by simp [cellW])
      have e42 : rd (wr σ b 7 (sdW w)) b 4 = w 84 := (rq_i (by decide)).trans e4
      rw [e42]
      by_cases hd : trm (bushr (sdW w) 8) 1000 < w 84
      · have e12 : rd (wr σ b 7 (sdW w)) (b + 1) c = w (4 + c) := (rq_c (by omega)).trans e1
        have f2 : isF (upz w 2 (sdW w)) c := hf
        rw [if_pos hd, grd_pos (by omega), grd_pos (by omega), grd_pos (by omega), e12, tdv_pos (by omega) (by omega) (by omega) (by omega), bw_id (z := w (4 + c) - w (4 + c) / 2) (by omega) (by omega)]
        have h3 : CW m (slU w c) (wr (wr σ b 7 (sdW w)) (b + 1) c (w (4 + c) - w (4 + c) / 2)) b := CW_snow h2 f2 (by omega)
        have hF3 : Fr (cellW b) σ (wr (wr σ b 7 (sdW w)) (b + 1) c (w (4 + c) - w (4 + c) / 2)) := hF2.wr (by simp [cellW])
        have hbs : fX9_beside b c 2 (wr (wr σ b 7 (sdW w)) (b + 1) c (w (4 + c) - w (4 + c) / 2)) = goW w c 2 := beside_c 2 ((rq_c (by omega)).trans ((rq_i (by decide)).trans h.2.1.1)) ((rq_c (by omega)).trans ((rq_i (by decide)).trans h.2.1.2.1)) (by omega)
        have last : ∀ τ, CW m (slT w c) τ b → Fr (cellW b) σ τ → wp (fX9_slide_J96 b (fX9_slide_L2 b n) c (w (4 + c) / 2) τ) Q := by
          intro τ hτ hFτ
          unfold fX9_slide_J96
          rw [wp_bind, bw_id (z := c + 1) (by omega) (by omega)]
          refine wp_mono (CW_note hb hτ rfl (bw_id (by omega) (by omega)) (bw_id (by omega) (by omega))) (fun ρ hρ => ?_)
          refine hk ρ ?_ (hFτ.tr (hρ.2.mo (by simp [cellW])))
          unfold slS
          rw [if_pos ⟨hf, by omega⟩, if_pos hd]
          exact hρ.1
        rw [hbs]
        by_cases hg : goW w c 2 = -1
        · rw [if_pos hg]
          refine last _ ?_ hF3
          unfold slT
          rw [if_pos hg]
          exact h3
        · have hGF := (goW_F h.1.1.1.2 h.1.1.2.1.2 c 2).resolve_left hg
          have hGb := isF_b hGF
          have hur := slU_F h.1 hf hGF
          have eto : rd (wr (wr σ b 7 (sdW w)) (b + 1) c (w (4 + c) - w (4 + c) / 2)) (b + 1) (goW w c 2) = slU w c (4 + goW w c 2) := h3.2.2.1.1 (goW w c 2) (by unfold isF slU; rw [upz_n (by omega), upz_n (by omega), upz_n (by omega), upz_n (by omega)]; exact hGF)
          rw [if_neg hg, grd_pos (by omega), grd_pos (by omega), eto, min_eq, bw_id (z := slU w c (4 + goW w c 2) + w (4 + c) / 2) (by omega) (by omega), show min (slU w c (4 + goW w c 2) + w (4 + c) / 2) 99 = min 99 (slU w c (4 + goW w c 2) + w (4 + c) / 2) by omega]
          refine last _ ?_ (hF3.wr (by simp [cellW]))
          unfold slT
          rw [if_neg hg]
          exact CW_snow h3 (by unfold isF slU; rw [upz_n (by omega), upz_n (by omega), upz_n (by omega), upz_n (by omega)]; exact hGF) (by omega)
      · rw [if_neg hd]
        refine hk _ ?_ hF2
        unfold slS
        rw [if_pos ⟨hf, by omega⟩, if_neg hd]
        exact h2
  · rw [if_neg hf, if_pos rfl]
    refine hk σ ?_ Fr.rf
    unfold slS
    rw [if_neg (fun z => hf z.1)]
    exact h
theorem slS_off {t : Int} {w : Int → Int} {c : Int} (h : 56 ≤ c) : slS t w c = w := by
  unfold slS
  rw [if_neg (fun z => by have := isF_b z.1; omega)]
theorem slN_56 {t : Int} {w : Int → Int} : ∀ k : Nat, slN t w (56 + k) = slN t w 56
  | 0 => rfl
  | k + 1 => by rw [← Nat.add_assoc, slN, slS_off (by omega), slN_56 k]
theorem slide_c {m : Int} {w : Int → Int} {σ : Sg} {b : Nat} (hb : b = 1 ∧ m = 150 ∨ b = 28 ∧ m = 0) (hm : m ≠ 0) (h : CW m w σ b) : wp (fX9_slide b σ) (fun τ => CW m (slN m w 64) τ b ∧ Fr (cellW b) σ τ) := by
  unfold fX9_slide
  rw [show slN m w 64 = slN m w 56 from slN_56 8]
  have key : ∀ (r n i : Nat) (τ : Sg), i + r = 56 → r < n → CW m (slN m w i) τ b → Fr (cellW b) σ τ → wp (fX9_slide_L2 b n (i : Int) τ) (fun τ => CW m (slN m w 56) τ b ∧ Fr (cellW b) σ τ) := by
    intro r
    induction r with
    | zero =>
      intro n i τ hi hn hC hF
      cases n with
      | zero => omega
      | succ n =>
        rw [fX9_slide_L2, if_neg (by omega), wp_some]
        rw [show i = 56 by omega] at hC
        exact ⟨hC, hF⟩
    | succ r ih =>
      intro n i τ hi hn hC hF
      cases n with
      | zero => omega
      | succ n =>
        refine slS_c hb hm hC (by omega) (fun ρ h1 h2 => ?_)
        have := ih n (i + 1) ρ (by omega) (by omega) h1 (hF.tr h2)
        exact_mod_cast this
  exact key 56 FU 0 σ (by omega) (by unfold FU; omega) h Fr.rf
theorem OKw.sl {m : Int} {w : Int → Int} (h : OKw m w) (hm : m ≠ 0) : ∀ n : Nat, n ≤ 64 → OKw m (slN m w n) := by
  intro n hn
  obtain ⟨σ, b, hb, hC⟩ := h
  have key : ∀ n : Nat, n ≤ 56 → ∃ τ, CW m (slN m w n) τ b := by
    intro n
    induction n with
    | zero => exact fun _ => ⟨σ, hC⟩
    | succ n ih =>
      intro hn
      obtain ⟨τ, hτ⟩ := ih (by omega)
      rw [slN]
      unfold slS
      by_cases hf : isF (slN m w n) n ∧ slN m w n 83 ≤ slN m w n (4 + n)
      · have h2 := CW_draw hτ (sdW_nr (slN m w n))
        rw [if_pos hf]
        by_cases hd : trm (bushr (sdW (slN m w n)) 8) 1000 < slN m w n 84
        · have hwc := hτ.1.2.1 n hf.1
          have h3 : CW m (slU (slN m w n) n) _ b := CW_snow h2 (c := n) (v := slN m w n (4 + n) - slN m w n (4 + n) / 2) hf.1 (by omega)
          rw [if_pos hd]
          have last : ∀ ρ, CW m (slT (slN m w n) n) ρ b → ∃ τ, CW m (noteW m (slT (slN m w n) n) 4 n (slN m w n (4 + n) / 2)) τ b := by
            intro ρ hρ
            obtain ⟨κ, -, h4, -⟩ := CW_note hb hρ (x := 4) (y := n) (z := slN m w n (4 + n) / 2) rfl (bw_id (by omega) (by omega)) (bw_id (by omega) (by omega))
            exact ⟨κ, h4⟩
          by_cases hg : goW (slN m w n) n 2 = -1
          · exact last _ (by unfold slT; rw [if_pos hg]; exact h3)
          · have hGF := (goW_F hτ.1.1.1.2 hτ.1.1.2.1.2 n 2).resolve_left hg
            have hGb := isF_b hGF
            have hur := slU_F hτ.1 hf.1 hGF
            exact last _ (by
              unfold slT
              rw [if_neg hg]
              exact CW_snow h3 (by unfold isF slU; rw [upz_n (by omega), upz_n (by omega), upz_n (by omega), upz_n (by omega)]; exact hGF) (by omega))
        · rw [if_neg hd]
          exact ⟨_, h2⟩
      · rw [if_neg hf]
        exact ⟨τ, hτ⟩
  rcases Nat.lt_or_ge n 56 with h | h
  · obtain ⟨τ, hτ⟩ := key n (by omega)
    exact ⟨τ, b, hb, hτ⟩
  · obtain ⟨τ, hτ⟩ := key 56 (by omega)
    rw [show n = 56 + (n - 56) by omega, slN_56]
    exact ⟨τ, b, hb, hτ⟩
theorem slides_m {m : Int} {w : Int → Int} {σ : Sg} (h : OKw m w) (hw : rd σ 85 = w) (ht : rd σ 84 26 = 0 ↔ m = 0) : wp (fX11_slides σ) (fun τ => rd τ 85 = (if m ≠ 0 ∧ 0 < w 84 then slN m w 64 else w) ∧ Fr [85] σ τ) := by
  unfold fX11_slides
  by_cases hc : m ≠ 0 ∧ 0 < w 84
  · rw [if_pos hc]
    have key : ∀ (r n i : Nat) (τ : Sg), i + r = 64 → r < n → rd τ 85 = slN m w i → Fr [85] σ τ → wp (fX11_slides_L2 n (i : Int) τ) (fun τ => rd τ 85 = slN m w 64 ∧ Fr [85] σ τ) := by
      intro r
      induction r with
      | zero =>
        intro n i τ hi hn hC hF
        cases n with
        | zero => omega
        | succ n =>
          rw [fX11_slides_L2, if_neg (by omega), wp_some]
          rw [show i = 64 by omega] at hC
          exact ⟨hC, hF⟩
      | succ r ih =>
        intro n i τ hi hn hC hF
        cases n with
        | zero => omega
        | succ n =>
          have hok := h.sl hc.1 i (by omega)
          have hW := hok.wf
          have hst : ∀ j : Int, (68 ≤ j ∧ j < 311) → slN m w i j = w j := by
            intro j hj
            have : ∀ k : Nat, k ≤ 64 → slN m w k j = w j := by
              intro k
              induction k with
              | zero => exact fun _ => rfl
              | succ k ihk => intro hk; rw [slN, slS_lo (h.sl hc.1 k (by omega)).wf (by omega)]; exact ihk (by omega)
            exact this i (by omega)
          have h84 := hst 84 (by omega)
          have hgo := ih n (i + 1)
          rw [slN] at hgo
          generalize slN m w i = u at hC hok hW hst h84 hgo
          have e26 : ¬ rd τ 84 26 = 0 := by rw [hF 84 26 (by decide)]; exact fun z => hc.1 (ht.mp z)
          have hgo2 : ∀ ρ, rd ρ 85 = slS m u i → Fr [85] σ ρ → wp (fX11_slides_L2 n ((i : Int) + 1) ρ) (fun τ => rd τ 85 = slN m w 64 ∧ Fr [85] σ τ) := by
            intro ρ h1 h2
            have := hgo ρ (by omega) (by omega) h1 h2
            exact_mod_cast this
          rw [fX11_slides_L2, if_pos (by omega), if_neg e26, hC, h84, if_pos hc.2, isField_m hW hC, bw_id (z := (i : Int) + 1) (by omega) (by omega), bw_id (z := 4 + (i : Int)) (by omega) (by omega)]
          by_cases hf : isF u i
          · have hwc := hW.2.1 i hf
            have hib := isF_b hf
            rw [if_pos hf, if_neg (by decide), grd_pos (by omega)]
            by_cases hs : u (4 + i) < u 83
            · rw [if_pos hs]
              refine hgo2 τ ?_ hF
              unfold slS
              rw [if_neg (by omega)]
              exact hC
            · rw [if_neg hs]
              unfold fX11_draw
              have ed : bw (bw (1664525 * rd τ 85 2) + 1013904223) = sdW u := by rw [hC]; rfl
              rw [grd_pos (by decide), wp_bind, wp_some, ed, rq_s, sdW_nr]
              have hr2 : rd (wr τ 85 2 (sdW u)) 85 = upz u 2 (sdW u) := by rw [wr_row, hC, sdW_nr]
              rw [hr2, upz_n (j := 84) (by decide)]
              by_cases hd : trm (bushr (sdW u) 8) 1000 < w 84
              · have hb3 := hW.1.2.2.2.2.2.2.2.2
                have hday := hW.1.2.2.2.2.2.2.1
                have hgw : fX11_wentTo i 2 (wr τ 85 2 (sdW u)) = goW u i 2 := by
                  have on : ∀ a c : Int, fX11_isOn a c (wr τ 85 2 (sdW u)) = fX11_isOn a c τ := by
                    intro a c
                    unfold fX11_isOn
                    rw [hr2, hC, upz_n (j := 80) (by decide), upz_n (j := 81) (by decide)]
                  have : fX11_wentTo i 2 (wr τ 85 2 (sdW u)) = fX11_wentTo i 2 τ := by
                    unfold fX11_wentTo fX11_wentTo_J23 fX11_wentTo_J47
                    simp only [on]
                  rw [this]
                  exact wentTo_m 2 hW hC (by omega)
                rw [if_pos (by rw [h84]; exact hd), grd_pos (by omega), grd_pos (by omega), grd_pos (by omega), upz_n (j := 4 + (i : Int)) (by omega), tdv_pos (by omega) (by omega) (by omega) (by omega), bw_id (z := u (4 + i) - u (4 + i) / 2) (by omega) (by omega), hgw]
                have hr3 : rd (wr (wr τ 85 2 (sdW u)) 85 (4 + i) (u (4 + i) - u (4 + i) / 2)) 85 = slU u i := by rw [wr_row, hr2, bw_id (by omega) (by omega)]; rfl
                have last : ∀ ρ, rd ρ 85 = slT u i → Fr [85] σ ρ → wp (fX11_slides_J129 (fX11_slides_L2 n) i (u (4 + i) / 2) ρ) (fun τ => rd τ 85 = slN m w 64 ∧ Fr [85] σ τ) := by
                  intro ρ h1 h2
                  have hT : ∀ j : Int, j = 0 ∨ j = 3 → slT u i j = u j := by
                    intro j hj
                    unfold slT
                    split
                    · unfold slU; rw [upz_n (by omega), upz_n (by omega)]
                    · next hg =>
                      have hgb := isF_b ((goW_F hW.1.1.2 hW.1.2.1.2 i 2).resolve_left hg)
                      rw [upz_n (by omega)]
                      unfold slU
                      rw [upz_n (by omega), upz_n (by omega)]
                  unfold fX11_slides_J129
                  rw [wp_bind, bw_id (z := (i : Int) + 1) (by omega) (by omega)]
                  refine wp_mono (notes_m h1 (by rw [hT 3 (by omega)]; exact hb3) (by rw [hT 0 (by omega)]; exact bw_id (by omega) (by omega)) (x := 4) rfl (bw_id (by omega) (by omega)) (bw_id (by omega) (by omega))) (fun κ hκ => ?_)
                  refine hgo2 κ ?_ (h2.tr hκ.2)
                  rw [hκ.1, noteW_t (m := m) (by rw [h2 84 26 (by decide)]; exact ht)]
                  unfold slS
                  rw [if_pos ⟨hf, by omega⟩, if_pos (by rw [h84]; exact hd)]
                by_cases hg : goW u i 2 = -1
                · rw [if_pos hg]
                  refine last _ ?_ ((hF.wr (by decide)).wr (by decide))
                  rw [hr3]
                  unfold slT
                  rw [if_pos hg]
                · have hGF := (goW_F hW.1.1.2 hW.1.2.1.2 i 2).resolve_left hg
                  have hGb := isF_b hGF
                  have hur := slU_F hW hf hGF
                  rw [if_neg hg, bw_id (z := 4 + goW u i 2) (by omega) (by omega), grd_pos (by omega), grd_pos (by omega), hr3, les_eq, bw_id (z := slU u i (4 + goW u i 2) + u (4 + i) / 2) (by omega) (by omega)]
                  refine last _ ?_ (((hF.wr (by decide)).wr (by decide)).wr (by decide))
                  rw [wr_row, hr3, bw_id (z := min 99 (slU u i (4 + goW u i 2) + u (4 + i) / 2)) (by omega) (by omega)]
                  unfold slT
                  rw [if_neg hg]
              · rw [if_neg (by rw [h84]; exact hd)]
                refine hgo2 _ ?_ (hF.wr (by decide))
                rw [hr2]
                unfold slS
                rw [if_pos ⟨hf, by omega⟩, if_neg (by rw [h84]; exact hd)]
          · rw [if_neg hf, if_pos rfl]
            refine hgo2 τ ?_ hF
            unfold slS
            rw [if_neg (fun z => hf z.1)]
            exact hC
    exact key 64 FU 0 σ (by omega) (by unfold FU; omega) hw Fr.rf
  · rw [if_neg hc]
    have : fX11_slides_L2 FU 0 σ = some σ := by
      unfold FU
      rw [fX11_slides_L2, if_pos (by decide)]
      by_cases h0 : rd σ 84 26 = 0
      · rw [if_pos h0]
      · rw [if_neg h0, hw, if_neg (fun z => hc ⟨fun e => h0 (ht.mpr e), z⟩)]
    rw [this, wp_some]
    exact ⟨hw, Fr.rf⟩
