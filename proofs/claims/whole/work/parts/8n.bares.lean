/-! bares: the way, the class -/
def upL : Nat → Int → List Int
  | 0, _ => []
  | n + 1, i => i :: upL n (i + 1)
theorem upL_snoc : ∀ (n : Nat) (i : Int), upL (n + 1) i = upL n i ++ [i + n]
  | 0, i => by simp [upL]
  | n + 1, i => by
    have h := upL_snoc n (i + 1)
    rw [upL, h, upL]
    simp
    omega
theorem frL_eq {w : Int → Int} {s : Int} : ∀ n : Nat, frL w s n = (upL n 0).filter (fun p => decide (w (68 + p) = -1 ∧ w (91 + p) = s))
  | 0 => rfl
  | n + 1 => by
    rw [frL, frL_eq n, upL_snoc, List.filter_append, Int.zero_add]
    by_cases c : w (68 + (n : Int)) = -1 ∧ w (91 + (n : Int)) = s
    · rw [if_pos c, List.filter_cons_of_pos (by simp [c])]
      rfl
    · rw [if_neg c, List.filter_cons_of_neg (by simpa using c)]
      rfl
theorem upL_mem : ∀ (n : Nat) (i a : Int), a ∈ upL n i ↔ i ≤ a ∧ a < i + n
  | 0, i, a => by simp [upL]
  | n + 1, i, a => by
    rw [upL, List.mem_cons, upL_mem n (i + 1) a]
    omega
theorem frL_mem {w : Int → Int} {s a : Int} {n : Nat} : a ∈ frL w s n ↔ (0 ≤ a ∧ a < n) ∧ w (68 + a) = -1 ∧ w (91 + a) = s := by
  rw [frL_eq, List.mem_filter, upL_mem, decide_eq_true_eq, Int.zero_add]
theorem find_filter {α : Type} {P : Int → Bool} {F : Int → Option α} : ∀ l : List Int, (l.filter P).findSome? F = l.findSome? (fun a => if P a then F a else none)
  | [] => rfl
  | a :: t => by
    have h := find_filter (P := P) (F := F) t
    by_cases c : P a = true
    · rw [List.filter_cons_of_pos c, List.findSome?_cons, List.findSome?_cons, h, if_pos c]
    · rw [List.filter_cons_of_neg c, List.findSome?_cons, h, if_neg c]
def barF (w : Int → Int) (p q x : Int) : Nat → Int → Int
  | 0, _ => -1
  | n + 1, f => if isF w f ∧ w (4 + x) ≤ liftW w p q (foundW w p q) (apW f x) (w (4 + x)) then f else barF w p q x n (f + 1)
theorem barF_r {w : Int → Int} {p q x : Int} : ∀ (n : Nat) (f : Int), barF w p q x n f = -1 ∨ isF w (barF w p q x n f)
  | 0, _ => Or.inl rfl
  | n + 1, f => by
    rw [barF]
    by_cases c : isF w f ∧ w (4 + x) ≤ liftW w p q (foundW w p q) (apW f x) (w (4 + x))
    · rw [if_pos c]; exact Or.inr c.1
    · rw [if_neg c]; exact barF_r n (f + 1)
def bG (w : Int → Int) (x p q : Int) : Option (Int × Int × Int) := if 6 ≤ foundW w p q ∧ barF w p q x 56 0 ≠ -1 then some (p, q, barF w p q x 56 0) else none
theorem firstL_c {m : Int} {w : Int → Int} {p q x F : Int} (hp : isP w p) (hq : isP w q) (hx : isF w x) (hF : F = foundW w p q) : ∀ (r n : Nat) (f : Int) (ρ : Sg), f + r = 56 → 0 ≤ f → r < n → CW m w ρ 1 → (∀ j, 0 ≤ j → j ≤ 13 → rd ρ 72 j = -1 ∨ rd ρ 72 j = liftW w p q F j (w (4 + x))) → wp (fX0_firstBaring_L27 1 p q F x n f ρ) (fun r' => r'.1 = barF w p q x r f ∧ Fr [16, 17, 72] ρ r'.2)
  | 0, n, f, ρ, hi, i0, hn, hC, h72 => by
    cases n with
    | zero => omega
    | succ n =>
      rw [fX0_firstBaring_L27, if_neg (by omega), wp_some]
      exact ⟨rfl, Fr.rf⟩
  | r + 1, n, f, ρ, hi, i0, hn, hC, h72 => by
    cases n with
    | zero => omega
    | succ n =>
      rw [fX0_firstBaring_L27, if_pos (by omega), hasField_c hC f, bw_id (z := f + 1) (by omega) (by omega)]
      by_cases c : isF w f
      · have fb := isF_b c
        have xb := isF_b hx
        have ha := apW_r fb xb
        have hy := hC.1.2.1 x hx
        have hl := liftW_r w p q F (apW f x) (w (4 + x))
        rw [if_pos c, if_neg n10, steps_eq (by omega) (by omega), if_neg (by omega), grd_pos (by omega)]
        have tl : ∀ τ, Fr [16, 17, 72] ρ τ → rd τ 72 (apW f x) = liftW w p q F (apW f x) (w (4 + x)) → (∀ j, 0 ≤ j → j ≤ 13 → rd τ 72 j = -1 ∨ rd τ 72 j = liftW w p q F j (w (4 + x))) → wp (fX0_firstBaring_J97 1 (fX0_firstBaring_L27 1 p q F x n) p q F x f (apW f x) τ) (fun r' => r'.1 = barF w p q x (r + 1) f ∧ Fr [16, 17, 72] ρ r'.2) := by
          intro τ hG he hj
          have hC2 : CW m w τ 1 := hC.fr hG (by decide)
          have e2 : rd τ 2 x = w (4 + x) := hC2.2.2.1.1 x hx
          unfold fX0_firstBaring_J97
          rw [grd_pos (by omega), grd_pos (by omega), he, show rd τ (1 + 1) x = w (4 + x) from e2, bw_id (z := f + 1) (by omega) (by omega), barF]
          by_cases g : liftW w p q F (apW f x) (w (4 + x)) < w (4 + x)
          · rw [if_pos g, if_neg (fun z => by have := z.2; rw [← hF] at this; omega)]
            exact wp_mono (firstL_c hp hq hx hF r n (f + 1) τ (by omega) (by omega) (by omega) hC2 hj) (fun r' hr' => ⟨hr'.1, hG.tr hr'.2⟩)
          · rw [if_neg g, if_pos (show _ from ⟨c, by rw [← hF]; omega⟩), wp_some]
            exact ⟨rfl, hG⟩
        by_cases e : rd ρ 72 (apW f x) = -1
        · have e2 : rd ρ 2 x = w (4 + x) := hC.2.2.1.1 x hx
          rw [if_pos e, grd_pos (by omega), show rd ρ (1 + 1) x = w (4 + x) from e2, wp_bind]
          refine wp_mono (liftOf_c hC hp hq (by rw [hF]; exact foundW_r w p q) (by omega) hy) (fun r' hr' => ?_)
          rw [grd_pos (by omega)]
          have eb : bw r'.1 = liftW w p q F (apW f x) (w (4 + x)) := by rw [hr'.1, bw_id (by omega) (by omega)]
          refine tl _ (Fr.wr (hr'.2.mo (by decide)) (by decide)) (by rw [rq_s, eb]) (fun j j0 j1 => ?_)
          by_cases z : j = apW f x
          · rw [z, rq_s, eb]; exact Or.inr rfl
          · rw [rq_i z, hr'.2 72 j (by decide)]
            exact h72 j j0 j1
        · rw [if_neg e]
          exact tl ρ Fr.rf ((h72 _ ha.1 ha.2).resolve_left e) h72
      · rw [if_neg c, if_pos p00, barF, if_neg (fun z => c z.1)]
        exact firstL_c hp hq hx hF r n (f + 1) ρ (by omega) (by omega) (by omega) hC h72
theorem firstB_c {m : Int} {w : Int → Int} {σ : Sg} {p q x F : Int} (hC : CW m w σ 1) (hp : isP w p) (hq : isP w q) (hx : isF w x) (hF : F = foundW w p q) : wp (fX0_firstBaring 1 p q F x σ) (fun r' => r'.1 = barF w p q x 56 0 ∧ Fr [16, 17, 72] σ r'.2) := by
  have go : ∀ (r n : Nat) (i : Int) (ρ : Sg), i + r = 14 → 0 ≤ i → r < n → Fr [72] σ ρ → (∀ j, 0 ≤ j → j < i → rd ρ 72 j = -1) → wp (fX0_firstBaring_L3 1 (fun s2 => fX0_firstBaring_L27 1 p q F x FU 0 s2) p q F x n i ρ) (fun r' => r'.1 = barF w p q x 56 0 ∧ Fr [16, 17, 72] σ r'.2) := by
    intro r
    induction r with
    | zero =>
      intro n i ρ hi i0 hn hG hz
      cases n with
      | zero => omega
      | succ n =>
        rw [fX0_firstBaring_L3, if_pos (by omega)]
        exact wp_mono (firstL_c hp hq hx hF 56 FU 0 ρ (by omega) (by omega) (by unfold FU; omega) (hC.fr hG (by decide)) (fun j j0 j1 => Or.inl (hz j j0 (by omega)))) (fun r' hr' => ⟨hr'.1, (hG.mo (by decide)).tr hr'.2⟩)
    | succ r ih =>
      intro n i ρ hi i0 hn hG hz
      cases n with
      | zero => omega
      | succ n =>
        rw [fX0_firstBaring_L3, if_neg (by omega), grd_pos (by omega), bw_id (z := i + 1) (by omega) (by omega)]
        refine ih n (i + 1) _ (by omega) (by omega) (by omega) (hG.wr (by decide)) (fun j j0 j1 => ?_)
        by_cases e : j = i
        · rw [e, rq_s]; rfl
        · rw [rq_i e]; exact hz j j0 (by omega)
  unfold fX0_firstBaring
  exact go 14 FU 0 σ (by omega) (by omega) (by unfold FU; omega) Fr.rf (fun j j0 j1 => by omega)
theorem barIn_c {m : Int} {w : Int → Int} {p x i : Int} {σ0 : Sg} {k10 : Int → Sg → Option (Int × Sg)} {k89 : Int → Int → Int → Sg → Option (Int × Sg)} {Q : Int × Sg → Prop} (hC : CW m w σ0 1) (hp : isP w p) (hx : isF w x) (hi : 0 ≤ i ∧ i < 12) (h69 : rd σ0 69 i = p) : ∀ (l : List Int) (j : Int) (n : Nat) (ρ : Sg), (∀ q ∈ l, isP w q) → rd σ0 65 6 = j + l.length → (∀ k : Nat, k < l.length → rd σ0 70 (j + k) = l.getD k 0) → 0 ≤ j → j + l.length ≤ 12 → l.length < n → Fr [16, 17, 72] σ0 ρ → (l.findSome? (bG w x p) = none → ∀ τ, Fr [16, 17, 72] σ0 τ → wp (k10 (i + 1) τ) Q) → (∀ v, l.findSome? (bG w x p) = some v → ∀ τ jj, Fr [16, 17, 72] σ0 τ → 0 ≤ jj → jj < 12 → rd σ0 70 jj = v.2.1 → v.1 = p → isP w v.2.1 → isF w v.2.2 → wp (k89 i jj v.2.2 τ) Q) → wp (fX0_baring_L21 1 k10 k89 x i n j ρ) Q
  | [], j, n, ρ, hl, h6, h70, j0, j1, hn, hG, hN, hS => by
    cases n with
    | zero => exact absurd hn (by simp)
    | succ n =>
      simp only [List.length_nil] at h6
      rw [fX0_baring_L21, hG 65 6 (by decide), h6, if_neg (by omega), bw_id (z := i + 1) (by omega) (by omega)]
      exact hN rfl ρ hG
  | q :: t, j, n, ρ, hl, h6, h70, j0, j1, hn, hG, hN, hS => by
    cases n with
    | zero => exact absurd hn (by simp)
    | succ n =>
      simp only [List.length_cons] at h6 j1 hn
      have hq : isP w q := hl q (by simp)
      have e70 : rd σ0 70 j = q := by
        have := h70 0 (by simp)
        rw [show j + ((0 : Nat) : Int) = j by omega] at this
        exact this
      have hC2 : CW m w ρ 1 := hC.fr hG (by decide)
      have nx : ∀ τ, Fr [16, 17, 72] σ0 τ → bG w x p q = none → wp (fX0_baring_J81 1 (fX0_baring_L21 1 k10 k89 x i n) k89 x i j (-1) τ) Q := by
        intro τ hτ hb
        unfold fX0_baring_J81
        rw [if_pos rfl, bw_id (z := j + 1) (by omega) (by omega)]
        refine barIn_c hC hp hx hi h69 t (j + 1) n τ (fun a ha => hl a (by simp [ha])) (by omega) (fun k hk => ?_) (by omega) (by omega) (by omega) hτ (fun h => hN (by rw [List.findSome?_cons, hb]; exact h)) (fun v h => hS v (by rw [List.findSome?_cons, hb]; exact h))
        have := h70 (k + 1) (by simp; omega)
        rw [show j + 1 + (k : Int) = j + ((k + 1 : Nat) : Int) by omega]
        exact this
      rw [fX0_baring_L21, hG 65 6 (by decide), h6, if_pos (by omega), grd_pos hi, grd_pos (by omega), hG 69 i (by decide), hG 70 j (by decide), h69, e70, wp_bind]
      refine wp_mono (foundOf_c hC2 hp hq) (fun r hr => ?_)
      have g2 : Fr [16, 17, 72] σ0 r.2 := hG.tr (hr.2.mo (by decide))
      rw [hr.1]
      by_cases c : foundW w p q < 6
      · rw [if_pos c]
        exact nx r.2 g2 (by unfold bG; rw [if_neg (fun z => by omega)])
      · rw [if_neg c, grd_pos hi, grd_pos (by omega), g2 69 i (by decide), g2 70 j (by decide), h69, e70, wp_bind]
        refine wp_mono (firstB_c (hC.fr g2 (by decide)) hp hq hx rfl) (fun r2 hr2 => ?_)
        have g3 : Fr [16, 17, 72] σ0 r2.2 := g2.tr hr2.2
        rw [hr2.1]
        by_cases d : barF w p q x 56 0 = -1
        · rw [d]
          exact nx r2.2 g3 (by unfold bG; rw [if_neg (fun z => z.2 d)])
        · have hb : bG w x p q = some (p, q, barF w p q x 56 0) := by unfold bG; rw [if_pos ⟨by omega, d⟩]
          unfold fX0_baring_J81
          rw [if_neg d]
          exact hS (p, q, barF w p q x 56 0) (by rw [List.findSome?_cons, hb]) r2.2 j g3 j0 (by omega) e70 rfl hq ((barF_r 56 0).resolve_left d)
def barV (w : Int → Int) (x : Int) : Option (Int × Int × Int) := (frL w 0 (w 85).toNat).findSome? (fun p => (frL w 1 (w 85).toNat).findSome? (bG w x p))
def barI : Option (Int × Int × Int) → Int
  | none => -1
  | some v => (12 * v.1 + v.2.1) * 56 + v.2.2
theorem barOut_c {m : Int} {w : Int → Int} {x : Int} {σ0 : Sg} {k89 : Int → Int → Int → Sg → Option (Int × Sg)} {Q : Int × Sg → Prop} (hC : CW m w σ0 1) (hx : isF w x) {L : List Int} (hL : ∀ q ∈ L, isP w q) (hL2 : L.length ≤ 12) (h6 : rd σ0 65 6 = L.length) (h70 : ∀ k : Nat, k < L.length → rd σ0 70 k = L.getD k 0) : ∀ (l : List Int) (i : Int) (n : Nat) (ρ : Sg), (∀ q ∈ l, isP w q) → rd σ0 65 5 = i + l.length → (∀ k : Nat, k < l.length → rd σ0 69 (i + k) = l.getD k 0) → 0 ≤ i → i + l.length ≤ 12 → l.length < n → Fr [16, 17, 72] σ0 ρ → (l.findSome? (fun p => L.findSome? (bG w x p)) = none → ∀ τ, Fr [16, 17, 72] σ0 τ → Q (-1, τ)) → (∀ v, l.findSome? (fun p => L.findSome? (bG w x p)) = some v → ∀ τ ii jj, Fr [16, 17, 72] σ0 τ → 0 ≤ ii → ii < 12 → 0 ≤ jj → jj < 12 → rd σ0 69 ii = v.1 → rd σ0 70 jj = v.2.1 → isP w v.1 → isP w v.2.1 → isF w v.2.2 → wp (k89 ii jj v.2.2 τ) Q) → wp (fX0_baring_L10 1 k89 x n i ρ) Q
  | [], i, n, ρ, hl, h5, h69, i0, i1, hn, hG, hN, hS => by
    cases n with
    | zero => exact absurd hn (by simp)
    | succ n =>
      simp only [List.length_nil] at h5
      rw [fX0_baring_L10, hG 65 5 (by decide), h5, if_neg (by omega), wp_some]
      exact hN rfl ρ hG
  | p :: t, i, n, ρ, hl, h5, h69, i0, i1, hn, hG, hN, hS => by
    cases n with
    | zero => exact absurd hn (by simp)
    | succ n =>
      simp only [List.length_cons] at h5 i1 hn
      have hp : isP w p := hl p (by simp)
      have e69 : rd σ0 69 i = p := by
        have := h69 0 (by simp)
        rw [show i + ((0 : Nat) : Int) = i by omega] at this
        exact this
      rw [fX0_baring_L10, hG 65 5 (by decide), h5, if_pos (by omega)]
      refine barIn_c hC hp hx (by omega) e69 L 0 FU ρ hL (by omega) (fun k hk => by rw [Int.zero_add]; exact h70 k hk) (by omega) (by omega) (by unfold FU; omega) hG (fun hb τ hτ => ?_) (fun v hv τ jj hτ q0 q1 q2 q3 q4 q5 => ?_)
      · refine barOut_c hC hx hL hL2 h6 h70 t (i + 1) n τ (fun a ha => hl a (by simp [ha])) (by omega) (fun k hk => ?_) (by omega) (by omega) (by omega) hτ (fun h => hN (by rw [List.findSome?_cons, hb]; exact h)) (fun v h => hS v (by rw [List.findSome?_cons, hb]; exact h))
        have := h69 (k + 1) (by simp; omega)
        rw [show i + 1 + (k : Int) = i + ((k + 1 : Nat) : Int) by omega]
        exact this
      · exact hS v (by rw [List.findSome?_cons, hv]) τ i jj hτ i0 (by omega) q0 q1 (by rw [q3]; exact e69) q2 (by rw [q3]; exact hp) q4 q5
theorem baring_c {w : Int → Int} {σ : Sg} {x : Int} (hC : CW 150 w σ 1) (hx : isF w x) : wp (fX0_baring 1 x σ) (fun r => r.1 = barI (barV w x) ∧ Fr [16, 17, 65, 66, 67, 69, 70, 72] σ r.2) := by
  have h12 := hC.1.1.2.2.2.2.2.1
  unfold fX0_baring
  rw [wp_bind]
  refine wp_mono (gather_c hC) (fun s hs => ?_)
  obtain ⟨g1, g5, g6, g69, g70, -⟩ := hs
  have n0 := frL_len (w := w) (s := 0) (w 85).toNat
  have n1 := frL_len (w := w) (s := 1) (w 85).toNat
  have hm : ∀ (z q : Int), q ∈ frL w z (w 85).toNat → isP w q := fun z q hq => by
    have := (frL_mem.mp hq).1
    exact ⟨this.1, by omega⟩
  refine barOut_c (hC.fr g1 (by decide)) hx (L := frL w 1 (w 85).toNat) (hm 1) (by omega) g6 g70 (frL w 0 (w 85).toNat) 0 FU s (hm 0) (by omega) (fun k hk => by rw [Int.zero_add]; exact g69 k hk) (by omega) (by omega) (by unfold FU; omega) Fr.rf (fun hb τ hτ => ?_) (fun v hv τ ii jj hτ i0 i1 j0 j1 e1 e2 p1 p2 f1 => ?_)
  · refine ⟨?_, (g1.mo (by decide)).tr (hτ.mo (by decide))⟩
    unfold barV
    rw [hb]; rfl
  · have fb := isF_b f1
    have a0 := p1.1
    have a1 := p1.2
    have b0 := p2.1
    have b1 := p2.2
    show wp (grd _ _) _
    rw [grd_pos (by omega), grd_pos (by omega), hτ 69 ii (by decide), hτ 70 jj (by decide), e1, e2, bw_id (z := 12 * v.1) (by omega) (by omega), bw_id (z := 12 * v.1 + v.2.1) (by omega) (by omega), bw_id (z := (12 * v.1 + v.2.1) * 56) (by omega) (by omega), bw_id (by omega) (by omega), wp_some]
    refine ⟨?_, (g1.mo (by decide)).tr (hτ.mo (by decide))⟩
    unfold barV
    rw [hv]; rfl
