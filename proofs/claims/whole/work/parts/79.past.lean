/-! what can be undone: the ring and the row of rows -/
theorem rd_cpy (σ : Sg) (c0 : Nat) (sp : Int) (c1 : Nat) (dp n : Int) (c : Nat) (i : Int) : rd (cpy σ c0 sp c1 dp n) c i = if c = c1 ∧ dp ≤ i ∧ i < dp + n then rd σ c0 (sp + (i - dp)) else rd σ c i := by
  unfold rd cpy
  split <;> rfl
theorem rc_o {σ : Sg} {c0 : Nat} {sp : Int} {c1 : Nat} {dp n : Int} {c : Nat} {i : Int} (h : c ≠ c1) : rd (cpy σ c0 sp c1 dp n) c i = rd σ c i := by
  rw [rd_cpy, if_neg (fun z => h z.1)]
theorem Fr.cp {l : List Nat} {σ τ : Sg} {c0 : Nat} {sp : Int} {c1 : Nat} {dp n : Int} (h : Fr l σ τ) (hc : c1 ∈ l) : Fr l σ (cpy τ c0 sp c1 dp n) := fun c i hi => (rc_o (fun e : c = c1 => hi (by rw [e]; exact hc))).trans (h c i hi)
def PC (n : Nat) (E : Nat → Int → Int) (w : Int → Int) (σ : Sg) : Prop :=
  (0 ≤ rd σ 55 4 ∧ rd σ 55 4 < 6) ∧ (rd σ 55 3 = n ∧ n ≤ 6) ∧ ∀ k : Nat, k < n →
    (∀ f, isF w f → rd σ 56 (56 * ((rd σ 55 4 - n + k) % 6) + f) = E k (4 + f)) ∧
    (∀ f : Int, 0 ≤ f → f < 56 → 0 ≤ rd σ 56 (56 * ((rd σ 55 4 - n + k) % 6) + f) ∧ rd σ 56 (56 * ((rd σ 55 4 - n + k) % 6) + f) ≤ 99) ∧
    (∀ p, isP w p → rd σ 57 (12 * ((rd σ 55 4 - n + k) % 6) + p) = E k (68 + p)) ∧
    rd σ 58 (4 * ((rd σ 55 4 - n + k) % 6)) = E k 1 ∧ rd σ 58 (4 * ((rd σ 55 4 - n + k) % 6) + 1) = E k 0 ∧ rd σ 58 (4 * ((rd σ 55 4 - n + k) % 6) + 2) = E k 2 ∧ rd σ 58 (4 * ((rd σ 55 4 - n + k) % 6) + 3) = E k 3
def PM (n : Nat) (E : Nat → Int → Int) (σ : Sg) : Prop := (rd σ 84 4 = n ∧ n ≤ 6) ∧ ∀ k : Nat, k < n → ∀ j : Int, 0 ≤ j → j < 80 → rd σ 87 (80 * (k : Int) + j) = E k j
def PX (nb : Int) (w : Int → Int) (n : Nat) (E : Nat → Int → Int) : Prop := ∀ k : Nat, k < n →
    (∀ f, isF w f → 0 ≤ E k (4 + f) ∧ E k (4 + f) ≤ 99) ∧ (∀ p, isP w p → E k (68 + p) = -1 ∨ isP w (E k (68 + p))) ∧ (0 ≤ E k 0 ∧ E k 0 ≤ 9999) ∧ (0 ≤ E k 1 ∧ E k 1 ≤ nb) ∧ 0 ≤ E k 3 ∧ E k 3 ≤ w 3 ∧ ∀ k2 : Nat, k ≤ k2 → k2 < n → E k 3 ≤ E k2 3
theorem PR_to {nb : Int} {w : Int → Int} {σ : Sg} (h12 : w 85 ≤ 12) (h : PR nb w σ) : ∃ (n : Nat) (E : Nat → Int → Int), PC n E w σ ∧ PM n E σ ∧ PX nb w n E := by
  obtain ⟨h1, h2, h3, h4⟩ := h
  refine ⟨(rd σ 55 3).toNat, fun k j => rd σ 87 (80 * (k : Int) + j), ⟨h1, ⟨by omega, by omega⟩, fun k hk => ?_⟩, ⟨⟨by omega, by omega⟩, fun k hk j j0 j1 => rfl⟩, fun k hk => ?_⟩
  · obtain ⟨⟨a1, a2, a3, ⟨a4, a5, a6, a7⟩, -⟩, -⟩ := h4 k (by omega) (by omega)
    rw [show (((rd σ 55 3).toNat : Nat) : Int) = rd σ 55 3 by omega]
    refine ⟨fun f hf => (a1 f hf).1, a2, fun p hp => (a3 p hp).1, a4, ?_, a6, a7⟩
    show rd σ 58 (4 * ((rd σ 55 4 - rd σ 55 3 + k) % 6) + 1) = rd σ 87 (80 * (k : Int) + 0)
    rw [a5, Int.add_zero]
  · obtain ⟨⟨a1, a2, a3, -, a5, a6, a7⟩, a8, a9⟩ := h4 k (by omega) (by omega)
    refine ⟨fun f hf => (a1 f hf).2, fun p hp => (a3 p hp).2, ?_, a6, a7, a9, fun k2 h5 h6 => a8 k2 (by omega) (by omega)⟩
    simp only [Int.add_zero]
    exact a5
theorem PR_of {nb : Int} {w : Int → Int} {σ : Sg} {n : Nat} {E : Nat → Int → Int} (h12 : w 85 ≤ 12) (hC : PC n E w σ) (hM : PM n E σ) (hX : PX nb w n E) : PR nb w σ := by
  obtain ⟨c1, ⟨c2, c3⟩, c4⟩ := hC
  obtain ⟨⟨m1, m2⟩, m3⟩ := hM
  refine ⟨c1, by omega, by omega, fun k k0 k1 => ?_⟩
  have hk : k.toNat < n := by omega
  have ek : ((k.toNat : Nat) : Int) = k := by omega
  obtain ⟨a1, a2, a3, a4, a5, a6, a7⟩ := c4 k.toNat hk
  obtain ⟨x1, x2, x3, x4, x5, x6, x7⟩ := hX k.toNat hk
  have mm := m3 k.toNat hk
  rw [ek] at a1 a2 a3 a4 a5 a6 a7 mm
  rw [c2]
  have e0 : rd σ 87 (80 * k) = E k.toNat 0 := by have := mm 0 (by omega) (by omega); rw [Int.add_zero] at this; exact this
  refine ⟨⟨fun f hf => ?_, a2, fun p hp => ?_, ⟨?_, ?_, ?_, ?_⟩, by rw [e0]; exact x3, by rw [mm 1 (by omega) (by omega)]; exact x4, by rw [mm 3 (by omega) (by omega)]; exact x5⟩, fun k2 h5 h6 => ?_, by rw [mm 3 (by omega) (by omega)]; exact x6⟩
  · have := isF_b hf
    rw [mm (4 + f) (by omega) (by omega)]
    exact ⟨a1 f hf, x1 f hf⟩
  · have := hp.1
    have := hp.2
    rw [mm (68 + p) (by omega) (by omega)]
    exact ⟨a3 p hp, x2 p hp⟩
  · rw [mm 1 (by omega) (by omega)]; exact a4
  · rw [e0]; exact a5
  · rw [mm 2 (by omega) (by omega)]; exact a6
  · rw [mm 3 (by omega) (by omega)]; exact a7
  · have mm2 := m3 k2.toNat (by omega) 3 (by omega) (by omega)
    rw [show ((k2.toNat : Nat) : Int) = k2 by omega] at mm2
    rw [mm 3 (by omega) (by omega), mm2]
    exact x7 k2.toNat (by omega) (by omega)
def pn (n : Nat) : Nat := min (n + 1) 6
def pE (n : Nat) (E : Nat → Int → Int) (w : Int → Int) : Nat → Int → Int := fun k => if n < 6 then (if k = n then w else E k) else (if k = 5 then w else E (k + 1))
theorem pkeep_c {n : Nat} {E : Nat → Int → Int} {w : Int → Int} {σ : Sg} (hC : CW 150 w σ 1) (hP : PC n E w σ) : wp (fX3_keep 1 σ) (fun τ => PC (pn n) (pE n E w) w τ ∧ Fr [55, 56, 57, 58] σ τ) := by
  obtain ⟨p1, ⟨p2, p3⟩, p4⟩ := hP
  have h12 := hC.1.1.2.2.2.2.2.1
  unfold fX3_keep
  generalize hs : rd σ 55 4 = s at p1 p4
  simp (disch := first | decide | omega) only [rc_o, rq_c, hs, bw_id]
  rw [grd_pos (by omega), grd_pos (by omega), grd_pos (by omega), grd_pos (by omega), grd_pos (by omega), grd_pos (by omega), wp_some]
  have e5 : rd σ 1 5 = w 1 := hC.2.1.2.2.2.2.2.1
  have e6 : rd σ 1 6 = w 0 := hC.2.1.2.2.2.2.2.2.1
  have e7 : rd σ 1 7 = w 2 := hC.2.1.2.2.2.2.2.2.2
  have e3 : rd σ 26 2 = w 3 := by
    rcases hC.2.2.2.2.2.1.2 with ⟨z, -⟩ | ⟨-, r2, -⟩
    · omega
    · exact r2
  simp (disch := first | decide | omega) only [rq_i, rc_o, rq_c, p2, min_eq, trm_pos, bw_id]
  refine ⟨?_, (((((((Fr.rf.cp (by decide)).cp (by decide)).wr (by decide)).wr (by decide)).wr (by decide)).wr (by decide)).wr (by decide)).wr (by decide)⟩
  generalize hτ : wr _ 55 3 (min ((n : Int) + 1) 6) = τ
  have q554 : rd τ 55 4 = (s + 1) % 6 := by
    rw [← hτ, rq_i (by decide), rq_s, bw_id (by omega) (by omega)]
  have q553 : rd τ 55 3 = (pn n : Int) := by
    rw [← hτ, rq_s, bw_id (by omega) (by omega)]
    unfold pn; omega
  have q56 : ∀ i : Int, rd τ 56 i = if s * 56 ≤ i ∧ i < s * 56 + 56 then rd σ 2 (i - s * 56) else rd σ 56 i := by
    intro i
    rw [← hτ, rq_c (by decide), rq_c (by decide), rq_c (by decide), rq_c (by decide), rq_c (by decide), rq_c (by decide), rc_o (by decide), rd_cpy]
    by_cases h : s * 56 ≤ i ∧ i < s * 56 + 56
    · rw [if_pos ⟨rfl, h⟩, if_pos h, Int.zero_add]
    · rw [if_neg (fun z => h z.2), if_neg h]
  have q57 : ∀ i : Int, rd τ 57 i = if s * 12 ≤ i ∧ i < s * 12 + 12 then rd σ 9 (i - s * 12) else rd σ 57 i := by
    intro i
    rw [← hτ, rq_c (by decide), rq_c (by decide), rq_c (by decide), rq_c (by decide), rq_c (by decide), rq_c (by decide), rd_cpy]
    by_cases h : s * 12 ≤ i ∧ i < s * 12 + 12
    · rw [if_pos ⟨rfl, h⟩, if_pos h, Int.zero_add]
      exact rc_o (by decide)
    · rw [if_neg (fun z => h z.2), if_neg h]
      exact rc_o (by decide)
  have q58 : ∀ i : Int, rd τ 58 i = if i = s * 4 + 3 then w 3 else if i = s * 4 + 2 then w 2 else if i = s * 4 + 1 then w 0 else if i = s * 4 then w 1 else rd σ 58 i := by
    intro i
    have n5 : bw (w 1) = w 1 := by rw [← e5, rd_bw]
    have n6 : bw (w 0) = w 0 := by rw [← e6, rd_bw]
    have n7 : bw (w 2) = w 2 := by rw [← e7, rd_bw]
    have n3 : bw (w 3) = w 3 := by rw [← e3, rd_bw]
    rw [← hτ, rq_c (by decide), rq_c (by decide)]
    show rd (wr (wr (wr (wr _ 58 (s * 4) (rd σ 1 5)) 58 (s * 4 + 1) (rd σ 1 6)) 58 (s * 4 + 2) (rd σ 1 7)) 58 (s * 4 + 3) (rd σ 26 2)) 58 i = _
    rw [e5, e6, e7, e3, wr_row, wr_row, wr_row, wr_row, n3, n5, n6, n7]
    simp only [upz]
    repeat' split
    all_goals first | rfl | exact (rc_o (by decide)).trans (rc_o (by decide))
  have old : ∀ pos : Int, 0 ≤ pos → pos < 6 → pos ≠ s → (∀ f : Int, 0 ≤ f → f < 56 → rd τ 56 (56 * pos + f) = rd σ 56 (56 * pos + f)) ∧ (∀ p : Int, 0 ≤ p → p < 12 → rd τ 57 (12 * pos + p) = rd σ 57 (12 * pos + p)) ∧ (∀ j : Int, 0 ≤ j → j < 4 → rd τ 58 (4 * pos + j) = rd σ 58 (4 * pos + j)) := by
    intro pos a b c
    refine ⟨fun f f0 f1 => ?_, fun p p0 p1 => ?_, fun j j0 j1 => ?_⟩
    · rw [q56, if_neg (by omega)]
    · rw [q57, if_neg (by omega)]
    · rw [q58, if_neg (by omega), if_neg (by omega), if_neg (by omega), if_neg (by omega)]
  have oldE : ∀ (k : Nat) (pos : Int), k < n → pos = (s - n + k) % 6 → pos ≠ s → (∀ f, isF w f → rd τ 56 (56 * pos + f) = E k (4 + f)) ∧ (∀ f : Int, 0 ≤ f → f < 56 → 0 ≤ rd τ 56 (56 * pos + f) ∧ rd τ 56 (56 * pos + f) ≤ 99) ∧ (∀ p, isP w p → rd τ 57 (12 * pos + p) = E k (68 + p)) ∧ rd τ 58 (4 * pos) = E k 1 ∧ rd τ 58 (4 * pos + 1) = E k 0 ∧ rd τ 58 (4 * pos + 2) = E k 2 ∧ rd τ 58 (4 * pos + 3) = E k 3 := by
    intro k pos hk hpos hne
    obtain ⟨a1, a2, a3, a4, a5, a6, a7⟩ := p4 k hk
    rw [← hpos] at a1 a2 a3 a4 a5 a6 a7
    obtain ⟨o1, o2, o3⟩ := old pos (by omega) (by omega) hne
    refine ⟨fun f hf => ?_, fun f f0 f1 => ?_, fun p hp => ?_, ?_, ?_, ?_, ?_⟩
    · have := isF_b hf
      rw [o1 f (by omega) (by omega)]; exact a1 f hf
    · rw [o1 f f0 f1]; exact a2 f f0 f1
    · have := hp.1
      have := hp.2
      rw [o2 p (by omega) (by omega)]; exact a3 p hp
    · have := o3 0 (by omega) (by omega)
      rw [Int.add_zero] at this
      rw [this]; exact a4
    · rw [o3 1 (by omega) (by omega)]; exact a5
    · rw [o3 2 (by omega) (by omega)]; exact a6
    · rw [o3 3 (by omega) (by omega)]; exact a7
  have newE : (∀ f, isF w f → rd τ 56 (56 * s + f) = w (4 + f)) ∧ (∀ f : Int, 0 ≤ f → f < 56 → 0 ≤ rd τ 56 (56 * s + f) ∧ rd τ 56 (56 * s + f) ≤ 99) ∧ (∀ p, isP w p → rd τ 57 (12 * s + p) = w (68 + p)) ∧ rd τ 58 (4 * s) = w 1 ∧ rd τ 58 (4 * s + 1) = w 0 ∧ rd τ 58 (4 * s + 2) = w 2 ∧ rd τ 58 (4 * s + 3) = w 3 := by
    refine ⟨fun f hf => ?_, fun f f0 f1 => ?_, fun p hp => ?_, ?_, ?_, ?_, ?_⟩
    · have := isF_b hf
      rw [q56, if_pos (by omega), show 56 * s + f - s * 56 = f by omega]; exact hC.2.2.1.1 f hf
    · rw [q56, if_pos (by omega), show 56 * s + f - s * 56 = f by omega]; exact hC.2.2.1.2 f f0 f1
    · have := hp.1
      have := hp.2
      rw [q57, if_pos (by omega), show 12 * s + p - s * 12 = p by omega]; exact (hC.2.2.2.1.2 p hp).2.2.2.2.1
    · rw [q58, if_neg (by omega), if_neg (by omega), if_neg (by omega), if_pos (by omega)]
    · rw [q58, if_neg (by omega), if_neg (by omega), if_pos (by omega)]
    · rw [q58, if_neg (by omega), if_pos (by omega)]
    · rw [q58, if_pos (by omega)]
  refine ⟨by rw [q554]; omega, ⟨q553, by unfold pn; omega⟩, fun k hk => ?_⟩
  rw [q554]
  unfold pn at hk ⊢
  by_cases hn : n < 6
  · rw [show min (n + 1) 6 = n + 1 by omega] at hk ⊢
    by_cases e : k = n
    · have : pE n E w k = w := by unfold pE; rw [if_pos hn, if_pos e]
      rw [this, show ((s + 1) % 6 - ((n + 1 : Nat) : Int) + (k : Int)) % 6 = s by omega]
      exact newE
    · have : pE n E w k = E k := by unfold pE; rw [if_pos hn, if_neg e]
      rw [this]
      exact oldE k _ (by omega) (by omega) (by omega)
  · rw [show min (n + 1) 6 = 6 by omega] at hk ⊢
    by_cases e : k = 5
    · have : pE n E w k = w := by unfold pE; rw [if_neg hn, if_pos e]
      rw [this, show ((s + 1) % 6 - ((6 : Nat) : Int) + (k : Int)) % 6 = s by omega]
      exact newE
    · have : pE n E w k = E (k + 1) := by unfold pE; rw [if_neg hn, if_neg e]
      rw [this]
      exact oldE (k + 1) _ (by omega) (by omega) (by omega)
/-- the model's -/
theorem pkeep_m {n : Nat} {E : Nat → Int → Int} {w : Int → Int} {σ : Sg} (hw : rd σ 85 = w) (hP : PM n E σ) : wp (fX11_keeps σ) (fun τ => PM (pn n) (pE n E w) τ ∧ Fr [84, 87] σ τ ∧ ∀ i : Int, i ≠ 4 → rd τ 84 i = rd σ 84 i) := by
  obtain ⟨⟨p1, p2⟩, p3⟩ := hP
  have last : ∀ (c : Nat) (τ : Sg), c ≤ 5 → rd τ 84 4 = c → rd τ 85 = w → Fr [84, 87] σ τ → (∀ i : Int, i ≠ 4 → rd τ 84 i = rd σ 84 i) → (∀ k : Nat, k < c → ∀ j : Int, 0 ≤ j → j < 80 → rd τ 87 (80 * (k : Int) + j) = pE n E w k j) → pn n = c + 1 → pE n E w c = w → wp (fX11_keeps_J49 τ) (fun τ => PM (pn n) (pE n E w) τ ∧ Fr [84, 87] σ τ ∧ ∀ i : Int, i ≠ 4 → rd τ 84 i = rd σ 84 i) := by
    intro c τ hc h4 h85 hF hs hold hpn hlast
    unfold fX11_keeps_J49
    refine loopM (F := fun n s => fX11_keeps_L51 n s.1 s.2) (fun s : Int × Sg => (0 ≤ s.1 ∧ s.1 ≤ 80) ∧ Fr [87] τ s.2 ∧ ∀ i : Int, rd s.2 87 i = if 80 * (c : Int) ≤ i ∧ i < 80 * (c : Int) + s.1 then w (i - 80 * (c : Int)) else rd τ 87 i) (fun s => (80 - s.1).toNat) ?_ FU (0, τ) (by unfold FU; simp only; omega) ⟨by simp only; omega, Fr.rf, fun i => by simp only; rw [if_neg (by omega)]⟩
    rintro m ⟨i, ρ⟩ ⟨hi, hG, hy⟩ ih
    show wp (fX11_keeps_L51 (m + 1) i ρ) _
    simp only at hi hG hy
    have g4 : rd ρ 84 4 = c := (hG 84 4 (by decide)).trans h4
    have g85 : rd ρ 85 = w := (funext fun j => hG 85 j (by decide)).trans h85
    have nw : ∀ j, bw (w j) = w j := fun j => by rw [← h85, rd_bw]
    rw [fX11_keeps_L51, g4, g85]
    by_cases h80 : i < 80
    · rw [if_pos h80, bw_id (z := 80 * (c : Int)) (by omega) (by omega), bw_id (z := 80 * (c : Int) + i) (by omega) (by omega), grd_pos (by omega), grd_pos (by omega), bw_id (z := i + 1) (by omega) (by omega)]
      refine ih (i + 1, wr ρ 87 (80 * (c : Int) + i) (w i)) ⟨by simp only; omega, hG.wr (by decide), fun j => ?_⟩ (by simp only; omega)
      show rd (wr ρ 87 (80 * (c : Int) + i) (w i)) 87 j = if 80 * (c : Int) ≤ j ∧ j < 80 * (c : Int) + (i + 1) then _ else _
      rw [wr_row, nw]
      by_cases e : j = 80 * (c : Int) + i
      · rw [e, upz_s, if_pos (by omega), show 80 * (c : Int) + i - 80 * (c : Int) = i by omega]
      · rw [upz_n e, hy]
        by_cases e3 : 80 * (c : Int) ≤ j ∧ j < 80 * (c : Int) + i
        · rw [if_pos e3, if_pos (by omega)]
        · rw [if_neg e3, if_neg (by omega)]
    · rw [if_neg h80, wp_some, bw_id (z := (c : Int) + 1) (by omega) (by omega)]
      refine ⟨⟨⟨?_, by rw [hpn]; omega⟩, fun k hk j j0 j1 => ?_⟩, (hF.tr (hG.mo (by decide))).wr (by decide), fun j hj => ?_⟩
      · rw [rq_s, bw_id (by omega) (by omega), hpn]; omega
      · rw [rq_c (by decide), hy]
        by_cases e : k = c
        · rw [e, hlast, if_pos (by omega), show 80 * (c : Int) + j - 80 * (c : Int) = j by omega]
        · rw [if_neg (by omega)]
          exact hold k (by omega) j j0 j1
      · rw [rq_i hj, hG 84 j (by decide)]; exact hs j hj
  unfold fX11_keeps
  by_cases hn : n < 6
  · rw [p1, if_neg (by omega)]
    refine last n σ (by omega) p1 hw Fr.rf (fun _ _ => rfl) (fun k hk j j0 j1 => ?_) (by unfold pn; omega) (by unfold pE; rw [if_pos hn, if_pos rfl])
    unfold pE
    rw [if_pos hn, if_neg (by omega)]
    exact p3 k hk j j0 j1
  · rw [p1, if_pos (by omega)]
    refine loopM (F := fun n s => fX11_keeps_L11 fX11_keeps_J49 n s.1 s.2) (fun s : Int × Sg => (0 ≤ s.1 ∧ s.1 ≤ 400) ∧ Fr [87] σ s.2 ∧ ∀ i : Int, rd s.2 87 i = if 0 ≤ i ∧ i < s.1 then rd σ 87 (i + 80) else rd σ 87 i) (fun s => (400 - s.1).toNat) ?_ FU (0, σ) (by unfold FU; simp only; omega) ⟨by simp only; omega, Fr.rf, fun i => by simp only; rw [if_neg (by omega)]⟩
    rintro m ⟨i, ρ⟩ ⟨hi, hG, hy⟩ ih
    show wp (fX11_keeps_L11 fX11_keeps_J49 (m + 1) i ρ) _
    simp only at hi hG hy
    rw [fX11_keeps_L11]
    by_cases h400 : i < 400
    · rw [if_pos h400, bw_id (z := i + 80) (by omega) (by omega), grd_pos (by omega), grd_pos (by omega), bw_id (z := i + 1) (by omega) (by omega)]
      refine ih (i + 1, wr ρ 87 i (rd ρ 87 (i + 80))) ⟨by simp only; omega, hG.wr (by decide), fun j => ?_⟩ (by simp only; omega)
      show rd (wr ρ 87 i (rd ρ 87 (i + 80))) 87 j = if 0 ≤ j ∧ j < i + 1 then _ else _
      rw [wr_row, rd_bw]
      by_cases e : j = i
      · rw [e, upz_s, if_pos (by omega), hy, if_neg (by omega)]
      · rw [upz_n e, hy]
        by_cases e3 : 0 ≤ j ∧ j < i
        · rw [if_pos e3, if_pos (by omega)]
        · rw [if_neg e3, if_neg (by omega)]
    · have g4 : rd ρ 84 4 = n := (hG 84 4 (by decide)).trans p1
      have n6 : n = 6 := by omega
      rw [if_neg h400, g4, bw_id (z := (n : Int) - 1) (by omega) (by omega)]
      refine last 5 (wr ρ 84 4 ((n : Int) - 1)) (by omega) ?_ ?_ ((hG.mo (by decide)).wr (by decide)) (fun j hj => (rq_i hj).trans (hG 84 j (by decide))) (fun k hk j j0 j1 => ?_) (by unfold pn; omega) (by unfold pE; rw [if_neg hn, if_pos rfl])
      · rw [rq_s, bw_id (by omega) (by omega)]; omega
      · rw [wr_off _ _ (by decide)]; exact (funext fun j => hG 85 j (by decide)).trans hw
      · rw [rq_c (by decide), hy, if_pos (by omega)]
        unfold pE
        rw [if_neg hn, if_neg (by omega), ← p3 (k + 1) (by omega) j j0 j1]
        congr 1
        omega
theorem PX_push {nb nb' : Int} {w w' : Int → Int} {n : Nat} {E : Nat → Int → Int} (hW : Wf w) (h : PX nb w n E) (hnb : nb ≤ nb') (h0 : w 0 ≤ 9999) (h1 : w 1 ≤ nb') (h3 : w 3 ≤ w' 3) (h80 : w' 80 = w 80) (h81 : w' 81 = w 81) (h85 : w' 85 = w 85) : PX nb' w' (pn n) (pE n E w) := by
  have eF : ∀ c, isF w' c ↔ isF w c := fun c => by unfold isF; rw [h80, h81]
  have eP : ∀ c, isP w' c ↔ isP w c := fun c => by unfold isP; rw [h85]
  have a7 := hW.1.2.2.2.2.2.2.1
  have a8 := hW.1.2.2.2.2.2.2.2.1
  have a9 := hW.1.2.2.2.2.2.2.2.2
  -- every entry is an old one or w
  have cases : ∀ k : Nat, k < pn n → pE n E w k = w ∧ k = pn n - 1 ∨ ∃ j : Nat, j < n ∧ pE n E w k = E j ∧ (n < 6 ∧ j = k ∨ ¬ n < 6 ∧ j = k + 1) := by
    intro k hk
    unfold pn at hk ⊢
    unfold pE
    by_cases hn : n < 6
    · by_cases e : k = n
      · exact Or.inl ⟨by rw [if_pos hn, if_pos e], by omega⟩
      · exact Or.inr ⟨k, by omega, by rw [if_pos hn, if_neg e], Or.inl ⟨hn, rfl⟩⟩
    · by_cases e : k = 5
      · exact Or.inl ⟨by rw [if_neg hn, if_pos e], by omega⟩
      · exact Or.inr ⟨k + 1, by omega, by rw [if_neg hn, if_neg e], Or.inr ⟨hn, rfl⟩⟩
  intro k hk
  rcases cases k hk with ⟨e, ek⟩ | ⟨j, hj, e, ej⟩
  · rw [e]
    refine ⟨fun f hf => hW.2.1 f ((eF f).mp hf), fun p hp => ((hW.2.2.1 p ((eP p).mp hp)).2.2.2.2.1).imp id (fun z => (eP _).mpr z), ⟨a7.1, h0⟩, ⟨a8.1, h1⟩, a9.1, h3, fun k2 b1 b2 => ?_⟩
    have : k2 = k := by omega
    rw [this, e]
    exact Int.le_refl _
  · obtain ⟨x1, x2, x3, x4, x5, x6, x7⟩ := h j hj
    rw [e]
    refine ⟨fun f hf => x1 f ((eF f).mp hf), fun p hp => (x2 p ((eP p).mp hp)).imp id (fun z => (eP _).mpr z), x3, ⟨x4.1, by omega⟩, x5, by omega, fun k2 b1 b2 => ?_⟩
    rcases cases k2 b2 with ⟨e2, -⟩ | ⟨j2, hj2, e2, ej2⟩
    · rw [e2]; exact x6
    · rw [e2]; exact x7 j2 (by omega) hj2
theorem PC_w {n : Nat} {E : Nat → Int → Int} {w w' : Int → Int} {σ τ : Sg} (h : PC n E w σ) (h80 : w' 80 = w 80) (h81 : w' 81 = w 81) (h85 : w' 85 = w 85) (k : ∀ c : Nat, 55 ≤ c → c ≤ 58 → rd τ c = rd σ c) : PC n E w' τ := by
  have eF : ∀ c, isF w' c ↔ isF w c := fun c => by unfold isF; rw [h80, h81]
  have eP : ∀ c, isP w' c ↔ isP w c := fun c => by unfold isP; rw [h85]
  obtain ⟨a, b, c⟩ := h
  unfold PC
  rw [k 55 (by omega) (by omega), k 56 (by omega) (by omega), k 57 (by omega) (by omega), k 58 (by omega) (by omega)]
  refine ⟨a, b, fun j hj => ?_⟩
  obtain ⟨c1, c2, c3, c4⟩ := c j hj
  exact ⟨fun f hf => c1 f ((eF f).mp hf), c2, fun p hp => c3 p ((eP p).mp hp), c4⟩
theorem PM_w {n : Nat} {E : Nat → Int → Int} {σ τ : Sg} (h : PM n E σ) (h4 : rd τ 84 4 = rd σ 84 4) (h87 : rd τ 87 = rd σ 87) : PM n E τ := by
  unfold PM at h ⊢
  rw [h4, h87]
  exact h
