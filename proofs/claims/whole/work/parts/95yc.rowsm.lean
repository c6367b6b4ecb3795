/-! the model's lines of VOWS, WEATHER, WANTS -/
abbrev Rm := Except (Int × Nat) (Nat × (Int → Int))
def bdm (r : Rm) (f : Nat → (Int → Int) → Rm) : Rm := match r with
  | .error e => .error e
  | .ok a => f a.1 a.2
theorem bdm_assoc (r : Rm) (f g : Nat → (Int → Int) → Rm) : bdm (bdm r f) g = bdm r (fun j l => bdm (f j l) g) := by
  cases r <;> rfl
def stM (c : Int) (j j2 : Nat) (m : Int → Int) : Rm := if c = 0 then .ok (j2, m) else .error (c, j)
def mapR (r : Pl) (g : Rw → Int → Int) : Rm := match r with
  | .error e => .error e
  | .ok a => .ok (a.1, g a.2)
theorem mck {c : Int} {j j2 : Nat} {m : Int → Int} {r : Pl} {g : Rw → Int → Int} {f : Nat → (Int → Int) → Rm} (h : c = 0 → mapR r g = f j2 m) : mapR (ck c j r) g = bdm (stM c j j2 m) f := by
  unfold ck stM
  by_cases e : c = 0
  · rw [if_pos e, if_pos e]; exact h e
  · rw [if_neg e, if_neg e]; rfl
def FrN (σ0 τ : Sg) : Prop := ∀ (c : Nat) (i : Int), c ≠ 91 → ¬ (c = 84 ∧ 17 ≤ i ∧ i ≤ 22) → rd τ c i = rd σ0 c i
theorem FrN.rf {σ : Sg} : FrN σ σ := fun _ _ _ _ => rfl
theorem FrN.fx {σ τ ρ : Sg} (h : FrN σ τ) (k : Fx τ ρ) : FrN σ ρ := fun c i a b => (k c i (by omega)).trans (h c i a b)
theorem FrN.wr {σ τ : Sg} (h : FrN σ τ) {i v : Int} (hi : 17 ≤ i ∧ i ≤ 22) : FrN σ (wr τ 84 i v) := fun c j a b => by
  rw [rd_wr, if_neg (fun q => b ⟨q.1, by rw [q.2]; exact hi⟩)]
  exact h c j a b
theorem frn1 {σ τ : Sg} (h : FrN σ τ) {i v : Int} : FrN σ (wr τ 91 i v) := fun c j a b => by
  rw [rd_wr, if_neg (fun q => a q.1)]
  exact h c j a b
def AtN (t : Int → Int) (z k : Int) (N : Nat) (σ0 : Sg) (j : Nat) (m : Int → Int) (τ : Sg) : Prop := FrN σ0 τ ∧ TPm t z k τ ∧ TKm t z k (psT t z j) τ ∧ j ≤ N ∧ rd τ 91 = m
def BadN (t : Int → Int) (z : Int) (σ0 : Sg) (f : Int) (j : Nat) (τ : Sg) : Prop := FrN σ0 τ ∧ rd τ 84 21 = f ∧ rd τ 84 22 = pT t z j
def MR (t : Int → Int) (z k : Int) (N : Nat) (σ0 : Sg) (r : Rm) (o : Option (Int × Sg)) : Prop := match r with
  | .error e => wp o (fun q => q.1 = 0 ∧ BadN t z σ0 e.1 e.2 q.2)
  | .ok a => wp o (fun q => q.1 = 1 ∧ AtN t z k N σ0 a.1 a.2 q.2)
section
variable {t : Int → Int} {z k : Int} {N : Nat} {σ0 : Sg} {w : Int → Int}
theorem MR_bd {r : Rm} {f : Nat → (Int → Int) → Rm} {o : Option (Int × Sg)} {kk : Int × Sg → Option (Int × Sg)} (h : MR t z k N σ0 r o) (hk0 : ∀ s, kk (0, s) = some (0, s)) (hk : ∀ j m s, r = .ok (j, m) → AtN t z k N σ0 j m s → MR t z k N σ0 (f j m) (kk (1, s))) : MR t z k N σ0 (bdm r f) (o.bind kk) := by
  cases r with
  | error e =>
    obtain ⟨⟨q1, q2⟩, e1, e2, e3⟩ := h
    have e2 : q1 = 0 := e2
    rw [e1, Option.bind_some, e2, hk0]
    exact ⟨_, rfl, rfl, e3⟩
  | ok a =>
    obtain ⟨⟨q1, q2⟩, e1, e2, e3⟩ := h
    have e2 : q1 = 1 := e2
    rw [e1, Option.bind_some, e2]
    exact hk a.1 a.2 q2 rfl e3
theorem MR_tail {r : Rm} {o : Option (Int × Sg)} (h : MR t z k N σ0 r o) : MR t z k N σ0 r (o.bind fun q => if q.1 = 0 then some (0, q.2) else some (1, q.2)) := by
  cases r with
  | error e =>
    obtain ⟨⟨q1, q2⟩, e1, e2, e3⟩ := h
    have e2 : q1 = 0 := e2
    rw [e1, Option.bind_some, e2]
    exact ⟨_, rfl, rfl, e3⟩
  | ok a =>
    obtain ⟨⟨q1, q2⟩, e1, e2, e3⟩ := h
    have e2 : q1 = 1 := e2
    rw [e1, Option.bind_some, e2]
    exact ⟨_, rfl, rfl, e3⟩
theorem MR_tail2 {r : Rm} {o : Option (Int × Sg)} (h : MR t z k N σ0 r o) : MR t z k N σ0 r (o.bind fun q => some (q.1, q.2)) := by
  cases r with
  | error e =>
    obtain ⟨q, e1, e2⟩ := h
    exact ⟨q, by rw [e1]; rfl, e2⟩
  | ok a =>
    obtain ⟨q, e1, e2⟩ := h
    exact ⟨q, by rw [e1]; rfl, e2⟩
theorem badN_m {f : Int} (hf : 0 ≤ f ∧ f ≤ 9) {j : Nat} {m : Int → Int} {τ : Sg} (h : AtN t z k N σ0 j m τ) : wp ((fX11_bad f τ).bind fun q => some (q.1, q.2)) (fun q => q.1 = 0 ∧ BadN t z σ0 f j q.2) := by
  have h19 : rd τ 84 19 = pT t z j := h.2.2.1.2.2.1
  refine ⟨_, rfl, rfl, (h.1.wr (by omega)).wr (by omega), ?_, ?_⟩
  · show rd (wr (wr τ 84 21 f) 84 22 _) 84 21 = f
    rw [rq_i (by decide), rq_s, bw_id (by omega) (by omega)]
  · show rd (wr (wr τ 84 21 f) 84 22 _) 84 22 = _
    rw [rq_s, rq_i (by decide), h19, ← h19, rd_bw]
theorem nextN_m (hO : TO t z) (hk : 0 ≤ k ∧ k ≤ 3) {j : Nat} {m : Int → Int} {τ : Sg} (h : AtN t z k N σ0 j m τ) (hj : j < N) : wp (fX11_next0 τ) (AtN t z k N σ0 (j + 1) m) := by
  obtain ⟨h1, h2, h3, h4, h5⟩ := h
  have r := psT_r (t := t) hO.1.1 (j + 1)
  refine wp_mono (nxt_m hO h2 hk (p := psT t z (j + 1)) h3.1 r.1 r.2) (fun s hs => ?_)
  obtain ⟨f, kk⟩ := hs
  exact ⟨h1.fx f, TPm_fx h2 f, kk, hj, by rw [← h5]; exact funext fun i => f 91 i (by omega)⟩
theorem needN_m (hO : TO t z) (hk : 0 ≤ k ∧ k ≤ 3) (H : HK (kT t z) (vT t z) N) {x c : Int} {j : Nat} {m : Int → Int} {τ : Sg} (h : AtN t z k N σ0 j m τ) (hx : mkK k (kT t z j) = x ↔ kT t z j = c) (hc : c ≠ 0) : MR t z k N σ0 (stM (woF (kT t z) c j) j (j + 1) m) (fX11_need x τ) := by
  have tk : rd τ 84 18 = mkK k (kT t z j) := h.2.2.1.2.1
  unfold fX11_need stM woF
  rw [tk]
  by_cases e : kT t z j = c
  · rw [if_pos (hx.mpr e), if_pos e, if_pos rfl]
    obtain ⟨s, p1, p2⟩ := nextN_m hO hk h (H.lt h.2.2.2.1 (by rw [e]; exact hc))
    exact ⟨_, by rw [p1]; rfl, rfl, p2⟩
  · rw [if_neg (fun q => e (hx.mp q)), if_neg e, if_neg (by decide)]
    exact badN_m (by decide) h
theorem mk_num {k : Int} {c : Int} (hk : 0 ≤ k ∧ k ≤ 3) (h : 0 ≤ c ∧ c ≤ 62) : (mkK k c = 2 ↔ c = 1) ∧ (mkK k c = 0 ↔ c = 0) ∧ (mkK k c = 159 ↔ c = 59) := by
  unfold mkK mkX
  (repeat' split) <;> omega
theorem numN_m (hO : TO t z) (hk : 0 ≤ k ∧ k ≤ 3) (H : HK (kT t z) (vT t z) N) {pl lo hi : Int} {j : Nat} {m : Int → Int} {τ : Sg} (h : AtN t z k N σ0 j m τ) (hp : 0 ≤ pl ∧ pl < 64) : MR t z k N σ0 (stM (nuF (kT t z) (vT t z) lo hi j) j (j + 1) (upz m pl (vT t z j))) (fX11_number pl lo hi τ) := by
  have tk : rd τ 84 18 = mkK k (kT t z j) := h.2.2.1.2.1
  have kr := kT_r (t := t) (z := z) j
  have m2 := (mk_num hk kr).1
  unfold fX11_number stM nuF
  rw [tk]
  by_cases e : kT t z j = 1
  · have hv : rd τ 84 20 = vT t z j := h.2.2.1.2.2.2 e
    have hvr := H.2.2.2 j e
    rw [if_pos (m2.mpr e), if_pos e, hv, isIn_m]
    by_cases e2 : lo ≤ vT t z j ∧ vT t z j ≤ hi
    · rw [if_pos e2, if_pos rfl, if_pos e2, if_neg n10, grd_pos hp]
      have h2 : AtN t z k N σ0 j (upz m pl (vT t z j)) (wr τ 91 pl (vT t z j)) := by
        obtain ⟨a1, ⟨a2, a3, a4⟩, ⟨a5, a6, a7, a8⟩, a9, a10⟩ := h
        refine ⟨frn1 a1, ⟨?_, ?_, fun i a b => ?_⟩, ⟨?_, ?_, ?_, fun q => ?_⟩, a9, ?_⟩
        · rw [rq_c (by decide)]; exact a2
        · rw [rq_c (by decide)]; exact a3
        · rw [rq_c (by decide)]; exact a4 i a b
        · rw [rq_c (by decide)]; exact a5
        · rw [rq_c (by decide)]; exact a6
        · rw [rq_c (by decide)]; exact a7
        · rw [rq_c (by decide)]; exact a8 q
        · rw [wr_row, a10, bw_id (by omega) (by omega)]
      obtain ⟨s, p1, p2⟩ := nextN_m hO hk h2 (H.lt h.2.2.2.1 (by omega))
      exact ⟨_, by rw [p1]; rfl, rfl, p2⟩
    · rw [if_neg e2, if_neg (show ¬ (2 : Int) = 0 by decide), if_neg e2, if_pos p00]
      exact badN_m (by decide) h
  · rw [if_neg (fun q => e (m2.mp q)), if_neg e, if_neg (by decide)]
    exact badN_m (by decide) h
theorem toldN_m (hO : TO t z) (hk : 0 ≤ k ∧ k ≤ 3) (H : HK (kT t z) (vT t z) N) {pl x c lo hi : Int} {j : Nat} {m : Int → Int} {τ : Sg} (h : AtN t z k N σ0 j m τ) (hp : 0 ≤ pl ∧ pl < 64) (hx : mkK k (kT t z j) = x ↔ kT t z j = c) (hc : c ≠ 0) : MR t z k N σ0 (bdm (stM (woF (kT t z) c j) j (j + 1) m) (fun j m => stM (nuF (kT t z) (vT t z) lo hi j) j (j + 1) (upz m pl (vT t z j)))) (fX11_told pl x lo hi τ) := by
  unfold fX11_told
  refine MR_bd (needN_m hO hk H h hx hc) (fun s => rfl) (fun j1 m1 s e1 h1 => ?_)
  show MR t z k N σ0 _ (if (1 : Int) = 0 then _ else (fX11_number pl lo hi s).bind fun q => if q.1 = 0 then some (0, q.2) else some (1, q.2))
  rw [if_neg n10]
  exact MR_tail (numN_m hO hk H h1 hp)
theorem MR_c {c c2 : Int} {j j2 : Nat} {m : Int → Int} {o : Option (Int × Sg)} (h : MR t z k N σ0 (stM c j j2 m) o) (e : c2 = c) : MR t z k N σ0 (stM c2 j j2 m) o := by rw [e]; exact h
theorem w85 {j : Nat} {m : Int → Int} {τ : Sg} (h : AtN t z k N σ0 j m τ) (hw : rd σ0 85 = w) : rd τ 85 = w := by
  rw [← hw]
  exact funext fun i => h.1 85 i (by decide) (by omega)
theorem fieldN_m (hO : TO t z) (hk : 0 ≤ k ∧ k ≤ 3) (H : HK (kT t z) (vT t z) N) (hW : Wf w) (hw : rd σ0 85 = w) {pl x c : Int} {j : Nat} {m : Int → Int} {τ : Sg} (h : AtN t z k N σ0 j m τ) (hp : 0 ≤ pl ∧ pl < 64) (hx : mkK k (kT t z j) = x ↔ kT t z j = c) (hc : c ≠ 0) : MR t z k N σ0 (bdm (stM (woF (kT t z) c j) j (j + 1) m) (fun j m => stM (fiF (kT t z) (vT t z) w j) j (j + 1) (upz m pl (vT t z j)))) (fX11_aField pl x τ) := by
  unfold fX11_aField
  refine MR_bd (needN_m hO hk H h hx hc) (fun s => rfl) (fun j1 m1 s e1 h1 => ?_)
  show MR t z k N σ0 _ (if (1 : Int) = 0 then _ else if (rd s 84 18) = 2 then if (fX11_isField (rd s 84 20) s) = 0 then (fX11_bad 2 s).bind fun q7 => some (q7.1, q7.2) else fX11_aField_J35 pl s else fX11_aField_J35 pl s)
  have tk : rd s 84 18 = mkK k (kT t z j1) := h1.2.2.1.2.1
  have kr := kT_r (t := t) (z := z) j1
  have m2 := (mk_num hk kr).1
  unfold fX11_aField_J35
  have nu := MR_tail2 (numN_m (lo := 0) (hi := 63) hO hk H h1 hp)
  rw [if_neg n10, tk]
  by_cases e : kT t z j1 = 1
  · have hv : rd s 84 20 = vT t z j1 := h1.2.2.1.2.2.2 e
    rw [if_pos (m2.mpr e), hv, isField_m hW (w85 h1 hw)]
    by_cases e2 : isF w (vT t z j1)
    · rw [if_pos e2, if_neg n10]
      have := isF_b e2
      refine MR_c nu ?_
      unfold fiF nuF
      rw [if_pos e, if_pos e, if_pos e2, if_pos (by omega)]
    · rw [if_neg e2, if_pos p00]
      have ef : fiF (kT t z) (vT t z) w j1 = 2 := by unfold fiF; rw [if_pos e, if_neg e2]
      rw [ef]
      exact badN_m (by decide) h1
  · rw [if_neg (fun q => e (m2.mp q))]
    refine MR_c nu ?_
    unfold fiF nuF
    rw [if_neg e, if_neg e]
theorem p1_nu (hW : Wf w) (j : Nat) : p1F (kT t z) (vT t z) w j = nuF (kT t z) (vT t z) 0 (w 85 - 1) j := by
  unfold p1F nuF
  by_cases e : kT t z j = 1
  · rw [if_pos e, if_pos e]
    by_cases e2 : isP w (vT t z j)
    · have := e2.1
      have := e2.2
      rw [if_pos e2, if_pos (by omega)]
    · rw [if_neg e2, if_neg (fun q => e2 ⟨q.1, by omega⟩)]
  · rw [if_neg e, if_neg e]
theorem mk_1 {c : Int} (h : 0 ≤ c ∧ c ≤ 62) : (mkK 1 c = 7 ↔ c = 20) ∧ (mkK 1 c = 5 ↔ c = 8) ∧ (mkK 1 c = 8 ↔ c = 21) := by
  unfold mkK mkX
  (repeat' split) <;> omega
theorem mk_2 {c : Int} (h : 0 ≤ c ∧ c ≤ 62) : (mkK 2 c = 9 ↔ c = 22) ∧ (mkK 2 c = 10 ↔ c = 17) := by
  unfold mkK mkX
  (repeat' split) <;> omega
theorem mk_3 {c : Int} (h : 0 ≤ c ∧ c ≤ 62) : (mkK 3 c = 11 ↔ c = 23) ∧ (mkK 3 c = 7 ↔ c = 20) ∧ (mkK 3 c = 12 ↔ c = 24) := by
  unfold mkK mkX
  (repeat' split) <;> omega
end
