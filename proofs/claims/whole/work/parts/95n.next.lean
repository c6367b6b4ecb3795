/-! the model's next token -/
def mkX (k c : Int) : Int := if k = 0 then (if c = 3 then 20 else if c = 4 then 21 else if c = 5 then 22 else if c = 6 then 3 else if c = 7 then 4 else if c = 8 then 5 else if c = 9 then 6 else if 10 ≤ c ∧ c ≤ 19 then 31 + c else 1) else if k = 1 then (if c = 20 then 7 else if c = 8 then 5 else if c = 21 then 8 else 1) else if k = 2 then (if c = 22 then 9 else if c = 17 then 10 else 1) else (if c = 23 then 11 else if c = 20 then 7 else if c = 24 then 12 else 1)
def mkK (k c : Int) : Int := if c = 0 then 0 else if c = 1 then 2 else if c = 2 then 1 else if 40 ≤ c then 100 + c else mkX k c
/-- all but the token's four slots stay -/
def Fx (σ τ : Sg) : Prop := ∀ (c : Nat) (i : Int), ¬ (c = 84 ∧ 17 ≤ i ∧ i ≤ 20) → rd τ c i = rd σ c i
theorem Fx.rf {σ : Sg} : Fx σ σ := fun _ _ _ => rfl
theorem Fx.tr {σ τ ρ : Sg} (h : Fx σ τ) (k : Fx τ ρ) : Fx σ ρ := fun c i a => (k c i a).trans (h c i a)
theorem Fx.wr {σ τ : Sg} (h : Fx σ τ) {i v : Int} (hi : 17 ≤ i ∧ i ≤ 20) : Fx σ (wr τ 84 i v) := fun c j a => by
  rw [rd_wr, if_neg (fun q => a ⟨q.1, by rw [q.2]; exact hi⟩)]
  exact h c j a
def TPm (t : Int → Int) (z k : Int) (σ : Sg) : Prop := rd σ 84 16 = z ∧ rd σ 84 12 = k ∧ ∀ i, 0 ≤ i → i < z → rd σ 92 i = t i
theorem TPm_fx {t : Int → Int} {z k : Int} {σ τ : Sg} (h : TPm t z k σ) (f : Fx σ τ) : TPm t z k τ := ⟨(f 84 16 (by omega)).trans h.1, (f 84 12 (by omega)).trans h.2.1, fun i a b => (f 92 i (by omega)).trans (h.2.2 i a b)⟩
def TKm (t : Int → Int) (z k p : Int) (σ : Sg) : Prop := rd σ 84 17 = tE t z p ∧ rd σ 84 18 = mkK k (tK t z p) ∧ rd σ 84 19 = tP t z p ∧ (tK t z p = 1 → rd σ 84 20 = tV t z p)
theorem see_m {t : Int → Int} {z k i : Int} {σ : Sg} (hO : TO t z) (h : TPm t z k σ) (h0 : 0 ≤ i) : fX11_see i σ = some (sgT t z i) := by
  unfold fX11_see
  have hz := hO.1
  rw [h.1]
  by_cases c : i < z
  · rw [if_pos c, grd_pos (by omega), h.2.2 i h0 c, sg_at h0 c]
  · rw [if_neg c, sg_no (by omega)]
theorem isL_m (c : Int) : fX11_isLetter c = if isL c then 1 else 0 := by
  unfold fX11_isLetter
  rw [isIn_m, isIn_m]
  by_cases h1 : 97 ≤ c ∧ c ≤ 122
  · rw [if_pos h1, if_neg n10, if_pos (Or.inl h1)]
  · by_cases h2 : 65 ≤ c ∧ c ≤ 90
    · rw [if_neg h1, if_pos p00, if_pos h2, if_neg n10, if_pos (Or.inr h2)]
    · rw [if_neg h1, if_pos p00, if_neg h2, if_pos p00, if_neg (fun q => q.elim h1 h2)]
theorem isD_m (c : Int) : fX11_isDigit c = if isD c then 1 else 0 := by
  unfold fX11_isDigit
  rw [isIn_m]
theorem is_m {t : Int → Int} {z k s e : Int} {σ : Sg} {q : Nat} (hO : TO t z) (h : TPm t z k σ) (h17 : rd σ 84 17 = e) (h19 : rd σ 84 19 = s) (hs : 0 ≤ s ∧ s < e ∧ e ≤ z) (hq : q < 22) : isWd t z s e q ∧ fX11_is (cid q) σ = some 1 ∨ ¬ isWd t z s e q ∧ fX11_is (cid q) σ = some 0 := by
  obtain ⟨w1, w2, w3, w4⟩ := w_ok q hq
  have wb := w_bnd q hq
  have hz := hO.1
  unfold fX11_is
  rw [h17, h19, bw_id (z := e - s) (by omega) (by omega), w1]
  have no : ∀ (n : Nat) (j : Int), fX11_is_L24 (cid q) σ (n + 1) 0 j = some 0 := by
    intro n j
    rw [fX11_is_L24, w1]
    by_cases c : j < ((wLn q : Nat) : Int)
    · rw [if_pos c, if_pos p00]; rfl
    · rw [if_neg c]; rfl
  by_cases c : e - s = ((wLn q : Nat) : Int)
  · rw [if_pos c]
    have go : ∀ (r n j : Nat), j + r = wLn q → r + 1 < n → (∀ i : Nat, i < j → sCh (cid q) (i : Int) = sgT t z (s + i)) → isWd t z s e q ∧ fX11_is_L24 (cid q) σ n 1 (j : Int) = some 1 ∨ ¬ isWd t z s e q ∧ fX11_is_L24 (cid q) σ n 1 (j : Int) = some 0 := by
      intro r
      induction r with
      | zero =>
        intro n j hj hn hi
        cases n with
        | zero => omega
        | succ n =>
          left
          refine ⟨⟨c, fun i hl => hi i (by omega)⟩, ?_⟩
          rw [fX11_is_L24, w1, if_neg (by omega)]; rfl
      | succ r ih =>
        intro n j hj hn hi
        cases n with
        | zero => omega
        | succ n =>
          rw [fX11_is_L24, w1, if_pos (by omega), if_neg n10, h19, bw_id (z := s + (j : Int)) (by omega) (by omega), grd_pos (by omega), grd_pos (by omega), h.2.2 (s + (j : Int)) (by omega) (by omega), bw_id (z := (j : Int) + 1) (by omega) (by omega), show (j : Int) + 1 = ((j + 1 : Nat) : Int) by omega]
          have sg := sg_at (t := t) (z := z) (i := s + (j : Int)) (by omega) (by omega)
          by_cases d : t (s + (j : Int)) = sCh (cid q) (j : Int)
          · rw [if_pos d]
            refine ih n (j + 1) (by omega) (by omega) (fun i hl => ?_)
            by_cases e2 : i = j
            · rw [e2, sg, d]
            · exact hi i (by omega)
          · rw [if_neg d]
            refine Or.inr ⟨fun q2 => d (sg.symm.trans (q2.2 j (by omega)).symm), ?_⟩
            cases n with
            | zero => omega
            | succ n => exact no n _
    unfold fX11_is_J21
    exact go (wLn q) FU 0 (by omega) (by unfold FU; omega) (fun i hi => by omega)
  · rw [if_neg c]
    unfold fX11_is_J21
    exact Or.inr ⟨fun q2 => c q2.1, no _ _⟩
def isq (q0 q : Nat) : Int := if q = q0 then 1 else 0
theorem q23 {q : Nat} (h : q < 23) : q = 0 ∨ q = 1 ∨ q = 2 ∨ q = 3 ∨ q = 4 ∨ q = 5 ∨ q = 6 ∨ q = 7 ∨ q = 8 ∨ q = 9 ∨ q = 10 ∨ q = 11 ∨ q = 12 ∨ q = 13 ∨ q = 14 ∨ q = 15 ∨ q = 16 ∨ q = 17 ∨ q = 18 ∨ q = 19 ∨ q = 20 ∨ q = 21 ∨ q = 22 := by omega
theorem lawW_m {σ : Sg} {q0 : Nat} (h0 : q0 < 23) (hs : ∀ q : Nat, q < 22 → fX11_is (cid q) σ = some (isq q0 q)) : fX11_lawWord σ = some (mkX 0 (if q0 < 22 then 3 + (q0 : Int) else 2)) := by
  unfold fX11_lawWord fX11_asked
  rw [show fX11_is 1002 σ = _ from hs 3 (by decide), show fX11_is 1003 σ = _ from hs 4 (by decide), show fX11_is 1004 σ = _ from hs 5 (by decide), show fX11_is 1005 σ = _ from hs 6 (by decide), show fX11_is 1006 σ = _ from hs 0 (by decide), show fX11_is 1007 σ = _ from hs 1 (by decide), show fX11_is 1008 σ = _ from hs 2 (by decide), show fX11_is 1009 σ = _ from hs 7 (by decide), show fX11_is 1010 σ = _ from hs 8 (by decide), show fX11_is 1011 σ = _ from hs 9 (by decide), show fX11_is 1012 σ = _ from hs 10 (by decide), show fX11_is 1013 σ = _ from hs 11 (by decide), show fX11_is 1014 σ = _ from hs 12 (by decide), show fX11_is 1015 σ = _ from hs 13 (by decide), show fX11_is 1016 σ = _ from hs 14 (by decide), show fX11_is 1017 σ = _ from hs 15 (by decide), show fX11_is 1018 σ = _ from hs 16 (by decide)]
  rcases q23 h0 with rfl | rfl | rfl | rfl | rfl | rfl | rfl | rfl | rfl | rfl | rfl | rfl | rfl | rfl | rfl | rfl | rfl | rfl | rfl | rfl | rfl | rfl | rfl <;> rfl
theorem vowW_m {σ : Sg} {q0 : Nat} (h0 : q0 < 23) (hs : ∀ q : Nat, q < 22 → fX11_is (cid q) σ = some (isq q0 q)) : fX11_vowWord σ = some (mkX 1 (if q0 < 22 then 3 + (q0 : Int) else 2)) := by
  unfold fX11_vowWord
  rw [show fX11_is 1019 σ = _ from hs 17 (by decide), show fX11_is 1004 σ = _ from hs 5 (by decide), show fX11_is 1020 σ = _ from hs 18 (by decide)]
  rcases q23 h0 with rfl | rfl | rfl | rfl | rfl | rfl | rfl | rfl | rfl | rfl | rfl | rfl | rfl | rfl | rfl | rfl | rfl | rfl | rfl | rfl | rfl | rfl | rfl <;> rfl
theorem weaW_m {σ : Sg} {q0 : Nat} (h0 : q0 < 23) (hs : ∀ q : Nat, q < 22 → fX11_is (cid q) σ = some (isq q0 q)) : fX11_weatherWord σ = some (mkX 2 (if q0 < 22 then 3 + (q0 : Int) else 2)) := by
  unfold fX11_weatherWord
  rw [show fX11_is 1021 σ = _ from hs 19 (by decide), show fX11_is 1016 σ = _ from hs 14 (by decide)]
  rcases q23 h0 with rfl | rfl | rfl | rfl | rfl | rfl | rfl | rfl | rfl | rfl | rfl | rfl | rfl | rfl | rfl | rfl | rfl | rfl | rfl | rfl | rfl | rfl | rfl <;> rfl
theorem wanW_m {σ : Sg} {q0 : Nat} (h0 : q0 < 23) (hs : ∀ q : Nat, q < 22 → fX11_is (cid q) σ = some (isq q0 q)) : fX11_wantWord σ = some (mkX 3 (if q0 < 22 then 3 + (q0 : Int) else 2)) := by
  unfold fX11_wantWord
  rw [show fX11_is 1022 σ = _ from hs 20 (by decide), show fX11_is 1019 σ = _ from hs 17 (by decide), show fX11_is 1023 σ = _ from hs 21 (by decide)]
  rcases q23 h0 with rfl | rfl | rfl | rfl | rfl | rfl | rfl | rfl | rfl | rfl | rfl | rfl | rfl | rfl | rfl | rfl | rfl | rfl | rfl | rfl | rfl | rfl | rfl <;> rfl
theorem word_m {t : Int → Int} {z k s e : Int} {σ : Sg} (hO : TO t z) (h : TPm t z k σ) (hk : 0 ≤ k ∧ k ≤ 3) (h17 : rd σ 84 17 = e) (h19 : rd σ 84 19 = s) (hs : 0 ≤ s ∧ s < e ∧ e ≤ z) : fX11_word σ = some (mkX k (wdS t z s e 22 0)) := by
  have key : ∃ q0 : Nat, q0 < 23 ∧ (∀ q : Nat, q < 22 → fX11_is (cid q) σ = some (isq q0 q)) ∧ wdS t z s e 22 0 = if q0 < 22 then 3 + (q0 : Int) else 2 := by
    by_cases c : ∃ q, q < 22 ∧ isWd t z s e q
    · obtain ⟨q0, c1, c2⟩ := c
      refine ⟨q0, by omega, fun q hq => ?_, ?_⟩
      · rcases is_m hO h h17 h19 hs hq with ⟨d1, d2⟩ | ⟨d1, d2⟩
        · rw [d2, isq, if_pos (isWd_one hq c1 d1 c2)]
        · rw [d2, isq, if_neg (fun q2 => d1 (by rw [q2]; exact c2))]
      · rw [if_pos c1, wdS_at c1 c2 22 0 (by omega) (by omega)]
    · refine ⟨22, by omega, fun q hq => ?_, ?_⟩
      · rcases is_m hO h h17 h19 hs hq with ⟨d1, d2⟩ | ⟨d1, d2⟩
        · exact absurd ⟨q, hq, d1⟩ c
        · rw [d2, isq, if_neg (by omega)]
      · rw [if_neg (by omega), wdS_no 22 0 (fun q a b d => c ⟨q, by omega, d⟩)]
  obtain ⟨q0, k1, k2, k3⟩ := key
  rw [k3]
  unfold fX11_word
  rw [h.2.1]
  by_cases e0 : k = 0
  · rw [if_pos e0, lawW_m k1 k2, e0]; rfl
  rw [if_neg e0]
  by_cases e1 : k = 1
  · rw [if_pos e1, vowW_m k1 k2, e1]; rfl
  rw [if_neg e1]
  by_cases e2 : k = 2
  · rw [if_pos e2, weaW_m k1 k2, e2]; rfl
  rw [if_neg e2, wanW_m k1 k2, show k = 3 by omega]; rfl
theorem skip_m {t : Int → Int} {z k : Int} {k39 : Sg → Option Sg} {Q : Sg → Prop} (hO : TO t z) : ∀ (r n : Nat) (i : Int) (σ : Sg), TPm t z k σ → rd σ 84 17 = i → 0 ≤ i → i ≤ z → z - i ≤ r → r < n → (∀ τ, Fx σ τ → rd τ 84 17 = skS t z r i → wp (k39 τ) Q) → wp (fX11_next0_L0 k39 n σ) Q
  | 0, n, i, σ, hT, ha, h0, h1, hr, hn, hk => by
    cases n with
    | zero => omega
    | succ n =>
      rw [fX11_next0_L0, ha, see_m hO hT h0, Option.bind_some, sg_no (by omega), if_neg (by omega), Option.bind_some, if_neg (by omega)]
      exact hk σ Fx.rf ha
  | r + 1, n, i, σ, hT, ha, h0, h1, hr, hn, hk => by
    have hz := hO.1
    cases n with
    | zero => omega
    | succ n =>
      have nx : (sgT t z i = 32 ∨ sgT t z i = 10) → wp (fX11_next0_L0 k39 n (wr σ 84 17 (bw (i + 1)))) Q := by
        intro c
        have hi : i < z := by
          by_cases d : i < z
          · exact d
          · rw [sg_no (by omega)] at c; omega
        have fx : Fx σ (wr σ 84 17 (bw (i + 1))) := Fx.rf.wr (by omega)
        refine skip_m hO r n (i + 1) _ (TPm_fx hT fx) (by rw [rq_s, bw_bw, bw_id (by omega) (by omega)]) (by omega) (by omega) (by omega) (by omega) (fun τ f2 ha2 => hk τ (fx.tr f2) ?_)
        rw [skS, if_pos c]; exact ha2
      rw [fX11_next0_L0, ha, see_m hO hT h0, Option.bind_some]
      by_cases c1 : sgT t z i = 32
      · rw [if_pos c1]; exact nx (Or.inl c1)
      rw [if_neg c1, Option.bind_some]
      by_cases c2 : sgT t z i = 10
      · rw [if_pos c2]; exact nx (Or.inr c2)
      rw [if_neg c2]
      refine hk σ Fx.rf ?_
      rw [skS, if_neg (fun q => q.elim c1 c2)]; exact ha
theorem lets_m {t : Int → Int} {z k : Int} {k103 : Sg → Option Sg} {Q : Sg → Prop} (hO : TO t z) : ∀ (r n : Nat) (i : Int) (σ : Sg), TPm t z k σ → rd σ 84 17 = i → 0 ≤ i → i ≤ z → z - i ≤ r → r < n → (∀ τ, Fx σ τ → rd τ 84 19 = rd σ 84 19 → rd τ 84 17 = leE t z r i → wp (k103 τ) Q) → wp (fX11_next0_L76 k103 n σ) Q
  | 0, n, i, σ, hT, ha, h0, h1, hr, hn, hk => by
    cases n with
    | zero => omega
    | succ n =>
      rw [fX11_next0_L76, ha, see_m hO hT h0, Option.bind_some, isL_m, sg_no (by omega), if_neg (show ¬ isL (-1) by decide), if_pos p00]
      exact hk σ Fx.rf rfl ha
  | r + 1, n, i, σ, hT, ha, h0, h1, hr, hn, hk => by
    have hz := hO.1
    cases n with
    | zero => omega
    | succ n =>
      rw [fX11_next0_L76, ha, see_m hO hT h0, Option.bind_some, isL_m]
      by_cases c : isL (sgT t z i)
      · have hi := sg_L c
        rw [if_pos c, if_neg n10]
        have fx : Fx σ (wr σ 84 17 (bw (i + 1))) := Fx.rf.wr (by omega)
        refine lets_m hO r n (i + 1) _ (TPm_fx hT fx) (by rw [rq_s, bw_bw, bw_id (by omega) (by omega)]) (by omega) (by omega) (by omega) (by omega) (fun τ f2 h19 ha2 => hk τ (fx.tr f2) (h19.trans (rq_i (by decide))) ?_)
        rw [leE, if_pos c]; exact ha2
      · rw [if_neg c, if_pos p00]
        refine hk σ Fx.rf rfl ?_
        rw [leE, if_neg c]; exact ha
theorem digs_m {t : Int → Int} {z k s : Int} {k189 : Sg → Option Sg} {Q : Sg → Prop} (hO : TO t z) (hs : 0 ≤ s ∧ s ≤ z) : ∀ (r n : Nat) (i v : Int) (σ : Sg), TPm t z k σ → rd σ 84 17 = i → rd σ 84 19 = s → rd σ 84 20 = v → s ≤ i → i ≤ z → z - i ≤ r → r < n → (∀ τ, Fx σ τ → rd τ 84 19 = s → rd τ 84 17 = dgE t z r i → (dgE t z r i - s ≤ 4 → rd τ 84 20 = vlS t z (dgE t z r i) r i v) → wp (k189 τ) Q) → wp (fX11_next0_L126 k189 n σ) Q
  | 0, n, i, v, σ, hT, ha, h19, h20, h0, h1, hr, hn, hk => by
    cases n with
    | zero => omega
    | succ n =>
      rw [fX11_next0_L126, ha, see_m hO hT (by omega), Option.bind_some, isD_m, sg_no (by omega), if_neg (show ¬ isD (-1) by decide), if_pos p00]
      exact hk σ Fx.rf h19 ha (fun _ => h20)
  | r + 1, n, i, v, σ, hT, ha, h19, h20, h0, h1, hr, hn, hk => by
    have hz := hO.1
    cases n with
    | zero => omega
    | succ n =>
      rw [fX11_next0_L126, ha, see_m hO hT (by omega), Option.bind_some, isD_m]
      by_cases c : isD (sgT t z i)
      · have hi := sg_D c
        have e1 : dgE t z (r + 1) i = dgE t z r (i + 1) := by rw [dgE, if_pos c]
        have e2 := dgE_r (t := t) (z := z) r (i + 1) (by omega) (by omega)
        rw [if_pos c, if_neg n10, h19, bw_id (z := s + 4) (by omega) (by omega)]
        by_cases d : i < s + 4
        · rw [if_pos d, Option.bind_some, rq_i (by decide), ha, h20]
          have fx : Fx σ (wr (wr σ 84 20 (bw (bw (bw (10 * v) + sgT t z i) - 48))) 84 17 (bw (i + 1))) := (Fx.rf.wr (by omega)).wr (by omega)
          refine digs_m hO hs r n (i + 1) (bw (bw (bw (10 * v) + sgT t z i) - 48)) _ (TPm_fx hT fx) (by rw [rq_s, bw_bw, bw_id (by omega) (by omega)]) (by rw [rq_i (by decide), rq_i (by decide)]; exact h19) (by rw [rq_i (by decide), rq_s, bw_bw]) (by omega) (by omega) (by omega) (by omega) (fun τ f2 k19 k17 k20 => hk τ (fx.tr f2) k19 (by rw [e1]; exact k17) (fun q => ?_))
          rw [e1] at q ⊢
          rw [vlS, if_pos (by omega)]
          exact k20 q
        · rw [if_neg d]
          have fx : Fx σ (wr σ 84 17 (bw (i + 1))) := Fx.rf.wr (by omega)
          refine digs_m hO hs r n (i + 1) v _ (TPm_fx hT fx) (by rw [rq_s, bw_bw, bw_id (by omega) (by omega)]) (by rw [rq_i (by decide)]; exact h19) (by rw [rq_i (by decide)]; exact h20) (by omega) (by omega) (by omega) (by omega) (fun τ f2 k19 k17 k20 => hk τ (fx.tr f2) k19 (by rw [e1]; exact k17) (fun q => ?_))
          rw [e1] at q
          omega
      · rw [if_neg c, if_pos p00]
        refine hk σ Fx.rf h19 (by rw [dgE, if_neg c]; exact ha) (fun _ => ?_)
        rw [dgE, if_neg c, vlS, if_neg (by omega)]
        exact h20
theorem nxt_m {t : Int → Int} {z k p : Int} {σ : Sg} (hO : TO t z) (hT : TPm t z k σ) (hk : 0 ≤ k ∧ k ≤ 3) (ha : rd σ 84 17 = p) (h0 : 0 ≤ p) (h1 : p ≤ z) : wp (fX11_next0 σ) (fun τ => Fx σ τ ∧ TKm t z k p τ) := by
  have hz := hO.1
  have te := tE_r (t := t) h0 h1
  unfold fX11_next0
  refine skip_m hO 400 FU p σ hT ha h0 h1 (by omega) (by unfold FU; omega) (fun τ f1 a1 => ?_)
  have a1 : rd τ 84 17 = tP t z p := a1
  have fx : Fx τ (wr τ 84 19 (rd τ 84 17)) := Fx.rf.wr (by omega)
  have hT1 : TPm t z k (wr τ 84 19 (rd τ 84 17)) := TPm_fx hT (f1.tr fx)
  rw [a1] at fx hT1
  simp only [a1]
  rw [rq_i (show (17 : Int) ≠ 19 by decide), a1, see_m hO hT1 (by omega), Option.bind_some]
  by_cases c : tP t z p < z
  · have sg := sg_at (t := t) (z := z) (i := tP t z p) (by omega) c
    have tr := hO.2 (tP t z p) (by omega) c
    rw [sg, if_neg (by omega), isL_m]
    by_cases cL : isL (t (tP t z p))
    · have eE : tE t z p = leE t z 400 (tP t z p) := by unfold tE; rw [if_pos c, if_pos cL]
      have eK : tK t z p = wdS t z (tP t z p) (tE t z p) 22 0 := by unfold tK; rw [if_pos c, if_pos cL]
      rw [if_pos cL, if_neg n10]
      refine lets_m hO 400 FU (tP t z p) _ hT1 (by rw [rq_i (by decide)]; exact a1) (by omega) te.2.1 (by omega) (by unfold FU; omega) (fun ρ f2 r19 r17 => ?_)
      rw [rq_s, bw_id (by omega) (by omega)] at r19
      rw [← eE] at r17
      have hw := wdS_r (t := t) (z := z) (s := tP t z p) (e := tE t z p) 22 0 (by omega)
      rw [word_m hO (TPm_fx hT1 f2) hk r17 r19 ⟨by omega, te.2.2.2.2 c, te.2.2.2.1⟩, Option.bind_some, wp_some]
      refine ⟨((f1.tr fx).tr f2).wr (by omega), by rw [rq_i (by decide)]; exact r17, ?_, by rw [rq_i (by decide)]; exact r19, fun q => ?_⟩
      · rw [rq_s, ← eK]
        rw [← eK] at hw
        have mb : ∀ c : Int, bw (mkX k c) = mkX k c := fun c => by
          apply bw_id <;> unfold mkX <;> (repeat' split) <;> omega
        rw [mb]
        unfold mkK
        by_cases q2 : tK t z p = 2
        · rw [if_neg (show ¬ tK t z p = 0 by omega), if_neg (show ¬ tK t z p = 1 by omega), if_pos q2, q2]
          have : ∀ k : Int, mkX k 2 = 1 := fun k => by unfold mkX; (repeat' split) <;> omega
          exact this k
        · rw [if_neg (show ¬ tK t z p = 0 by omega), if_neg (show ¬ tK t z p = 1 by omega), if_neg q2, if_neg (show ¬ 40 ≤ tK t z p by omega)]
      · rw [← eK] at hw
        omega
    · rw [if_neg cL, if_pos p00, isD_m]
      by_cases cD : isD (t (tP t z p))
      · have eE : tE t z p = dgE t z 400 (tP t z p) := by unfold tE; rw [if_pos c, if_neg cL, if_pos cD]
        have eK : tK t z p = if tE t z p - tP t z p ≤ 4 then 1 else 2 := by unfold tK; rw [if_pos c, if_neg cL, if_pos cD]
        rw [if_pos cD, if_neg n10]
        have fx2 : Fx τ (wr (wr τ 84 19 (tP t z p)) 84 20 0) := fx.wr (by omega)
        refine digs_m hO (s := tP t z p) ⟨by omega, te.2.1⟩ 400 FU (tP t z p) 0 _ (TPm_fx hT (f1.tr fx2)) (by rw [rq_i (by decide), rq_i (by decide)]; exact a1) (by rw [rq_i (by decide), rq_s, bw_id (by omega) (by omega)]) (by rw [rq_s]; rfl) (Int.le_refl _) te.2.1 (by omega) (by unfold FU; omega) (fun ρ f2 r19 r17 r20 => ?_)
        rw [← eE] at r17 r20
        rw [r17, r19, bw_id (z := tE t z p - tP t z p) (by omega) (by omega)]
        by_cases c4 : tE t z p - tP t z p < 5
        · rw [if_pos c4, wp_some]
          have e1 : tK t z p = 1 := by rw [eK, if_pos (by omega)]
          refine ⟨((f1.tr fx2).tr f2).wr (by omega), by rw [rq_i (by decide)]; exact r17, ?_, by rw [rq_i (by decide)]; exact r19, fun _ => ?_⟩
          · rw [rq_s, e1]; rfl
          · rw [rq_i (by decide), r20 (by omega)]; rfl
        · rw [if_neg c4, wp_some]
          have e1 : tK t z p = 2 := by rw [eK, if_neg (by omega)]
          refine ⟨((f1.tr fx2).tr f2).wr (by omega), by rw [rq_i (by decide)]; exact r17, ?_, by rw [rq_i (by decide)]; exact r19, fun q => ?_⟩
          · rw [rq_s, e1]; rfl
          · omega
      · have eE : tE t z p = tP t z p + 1 := by unfold tE; rw [if_pos c, if_neg cL, if_neg cD]
        have eK : tK t z p = if isS (t (tP t z p)) then t (tP t z p) else 2 := by unfold tK; rw [if_pos c, if_neg cL, if_neg cD]
        rw [if_neg cD, if_pos p00, bw_id (z := tP t z p + 1) (by omega) (by omega)]
        have fx2 : Fx τ (wr (wr τ 84 19 (tP t z p)) 84 17 (tP t z p + 1)) := fx.wr (by omega)
        have w17 : rd (wr (wr τ 84 19 (tP t z p)) 84 17 (tP t z p + 1)) 84 17 = tE t z p := by rw [rq_s, bw_id (by omega) (by omega), eE]
        have w19 : rd (wr (wr τ 84 19 (tP t z p)) 84 17 (tP t z p + 1)) 84 19 = tP t z p := by rw [rq_i (by decide), rq_s, bw_id (by omega) (by omega)]
        have yes : isS (t (tP t z p)) → wp (fX11_next0_J284 (fX11_next0_J289 (t (tP t z p))) (t (tP t z p)) (wr (wr τ 84 19 (tP t z p)) 84 17 (tP t z p + 1))) (fun τ => Fx σ τ ∧ TKm t z k p τ) := by
          intro cS
          have e1 : tK t z p = t (tP t z p) := by rw [eK, if_pos cS]
          unfold fX11_next0_J284 fX11_next0_J289
          rw [if_neg n10, wp_some, bw_id (z := 100 + t (tP t z p)) (by omega) (by omega)]
          refine ⟨(f1.tr fx2).wr (by omega), by rw [rq_i (by decide)]; exact w17, ?_, by rw [rq_i (by decide)]; exact w19, fun q => ?_⟩
          · rw [rq_s, bw_id (by omega) (by omega), e1]
            unfold mkK
            rw [if_neg (by omega), if_neg (by omega), if_neg (by omega), if_pos (by omega)]
          · omega
        by_cases s1 : t (tP t z p) = 59
        · rw [if_pos s1]; exact yes (by omega)
        rw [if_neg s1]
        by_cases s2 : t (tP t z p) = 43
        · rw [if_pos s2]; exact yes (by omega)
        rw [if_neg s2]
        by_cases s3 : t (tP t z p) = 45
        · rw [if_pos s3]; exact yes (by omega)
        rw [if_neg s3]
        by_cases s4 : t (tP t z p) = 42
        · rw [if_pos s4]; exact yes (by omega)
        rw [if_neg s4]
        by_cases s5 : t (tP t z p) = 47
        · rw [if_pos s5]; exact yes (by omega)
        rw [if_neg s5]
        by_cases s6 : t (tP t z p) = 40
        · rw [if_pos s6]; exact yes (by omega)
        rw [if_neg s6]
        by_cases s7 : t (tP t z p) = 41
        · rw [if_pos s7]; exact yes (by omega)
        rw [if_neg s7]
        by_cases s8 : t (tP t z p) = 60
        · rw [if_pos s8]; exact yes (by omega)
        rw [if_neg s8]
        by_cases s9 : t (tP t z p) = 61
        · rw [if_pos s9]; exact yes (by omega)
        rw [if_neg s9]
        by_cases s0 : t (tP t z p) = 62
        · rw [if_pos s0]; exact yes (by omega)
        rw [if_neg s0]
        have e1 : tK t z p = 2 := by rw [eK, if_neg (by omega)]
        unfold fX11_next0_J289
        rw [if_pos p00, wp_some]
        refine ⟨(f1.tr fx2).wr (by omega), by rw [rq_i (by decide)]; exact w17, ?_, by rw [rq_i (by decide)]; exact w19, fun q => ?_⟩
        · rw [rq_s, e1]; rfl
        · omega
  · rw [sg_no (by omega), if_pos rfl, wp_some]
    have eE : tE t z p = tP t z p := by unfold tE; rw [if_neg c]
    have eK : tK t z p = 0 := by unfold tK; rw [if_neg c]
    refine ⟨(f1.tr fx).wr (by omega), by rw [rq_i (by decide), rq_i (by decide), eE]; exact a1, ?_, by rw [rq_i (by decide), rq_s, bw_id (by omega) (by omega)], fun q => ?_⟩
    · rw [rq_s, eK]; rfl
    · omega
