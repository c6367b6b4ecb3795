/-! what holds between calls -/
def KS (w : Int → Int) : Prop := ∀ a, isP w a → (w (139 + a)).toNat < 2 ^ (w 85).toNat ∧ kinW w a a = 0 ∧ ∀ b, isP w b → kinW w a b = kinW w b a
def PE (nb : Int) (w : Int → Int) (σ : Sg) (k pos : Int) : Prop :=
  (∀ f, isF w f → rd σ 56 (56 * pos + f) = rd σ 87 (80 * k + (4 + f)) ∧ 0 ≤ rd σ 87 (80 * k + (4 + f)) ∧ rd σ 87 (80 * k + (4 + f)) ≤ 99) ∧
  (∀ f : Int, 0 ≤ f → f < 56 → 0 ≤ rd σ 56 (56 * pos + f) ∧ rd σ 56 (56 * pos + f) ≤ 99) ∧
  (∀ p, isP w p → rd σ 57 (12 * pos + p) = rd σ 87 (80 * k + (68 + p)) ∧ (rd σ 87 (80 * k + (68 + p)) = -1 ∨ isP w (rd σ 87 (80 * k + (68 + p))))) ∧
  (rd σ 58 (4 * pos) = rd σ 87 (80 * k + 1) ∧ rd σ 58 (4 * pos + 1) = rd σ 87 (80 * k) ∧ rd σ 58 (4 * pos + 2) = rd σ 87 (80 * k + 2) ∧ rd σ 58 (4 * pos + 3) = rd σ 87 (80 * k + 3)) ∧
  (0 ≤ rd σ 87 (80 * k) ∧ rd σ 87 (80 * k) ≤ 9999) ∧ (0 ≤ rd σ 87 (80 * k + 1) ∧ rd σ 87 (80 * k + 1) ≤ nb) ∧ 0 ≤ rd σ 87 (80 * k + 3)
def PR (nb : Int) (w : Int → Int) (σ : Sg) : Prop :=
  (0 ≤ rd σ 55 4 ∧ rd σ 55 4 < 6) ∧ (0 ≤ rd σ 55 3 ∧ rd σ 55 3 ≤ 6) ∧ rd σ 84 4 = rd σ 55 3 ∧
  ∀ k : Int, 0 ≤ k → k < rd σ 55 3 → PE nb w σ k ((rd σ 55 4 - rd σ 55 3 + k) % 6) ∧ (∀ k2 : Int, k ≤ k2 → k2 < rd σ 55 3 → rd σ 87 (80 * k + 3) ≤ rd σ 87 (80 * k2 + 3)) ∧ rd σ 87 (80 * k + 3) ≤ w 3
def TC (σ : Sg) : Prop := rd σ 45 1 = 16 ∧ rd σ 47 1 = 12 ∧ rd σ 49 1 = 12 ∧ rd σ 51 1 = 12 ∧ rd σ 53 1 = 0
def TR (σ : Sg) : Prop := (0 ≤ rd σ 59 4 ∧ rd σ 59 4 ≤ 400) ∧ rd σ 84 16 = rd σ 59 4 ∧ ∀ i : Int, 0 ≤ i → i < rd σ 59 4 → band (rd σ 60 i) 255 = rd σ 92 i
def FR0 (σ : Sg) : Prop := rd σ 64 0 = rd σ 84 23 ∧ rd σ 64 1 = rd σ 84 25
def KR (has : Bool) (nb : Int) (σ : Sg) : Prop := if has = true then rd σ 84 5 = 1 ∧ CW 150 (rd σ 86) σ 106 ∧ rd σ 86 0 ≤ 9999 ∧ rd σ 86 1 ≤ nb ∧ KS (rd σ 86) else rd σ 84 5 = 0
def nbN (N : Nat) : Int := 80000 * N
def Inv (has : Bool) (N : Nat) (σ : Sg) : Prop := CW 150 (rd σ 85) σ 1 ∧ rd σ 85 0 ≤ 9999 ∧ rd σ 85 1 ≤ nbN N ∧ KS (rd σ 85) ∧ PR (nbN N) (rd σ 85) σ ∧ TC σ ∧ TR σ ∧ FR0 σ ∧ KR has (nbN N) σ
/-- nothing that matters has changed -/
def kcells : List Nat := [1, 2, 4, 5, 6, 7, 8, 9, 10, 11, 12, 13, 14, 15, 18, 19, 20, 21, 22, 23, 24, 25, 26, 27, 55, 56, 57, 58, 59, 60, 85, 86, 87, 92, 106, 107, 109, 110, 111, 112, 113, 114, 115, 116, 117, 118, 119, 120, 123, 124, 125, 126, 127, 128, 129, 130, 131, 132]
def kslots : List (Nat × Int) := [(84, 4), (84, 5), (84, 16), (84, 23), (84, 25), (64, 0), (64, 1), (45, 1), (47, 1), (49, 1), (51, 1), (53, 1)]
def Keep (σ τ : Sg) : Prop := (∀ c ∈ kcells, rd τ c = rd σ c) ∧ ∀ q ∈ kslots, rd τ q.1 q.2 = rd σ q.1 q.2
theorem Keep.rf {σ : Sg} : Keep σ σ := ⟨fun _ _ => rfl, fun _ _ => rfl⟩
theorem Keep.tr {σ τ ρ : Sg} (h : Keep σ τ) (k : Keep τ ρ) : Keep σ ρ := ⟨fun c hc => (k.1 c hc).trans (h.1 c hc), fun q hq => (k.2 q hq).trans (h.2 q hq)⟩
theorem Keep.fr {l : List Nat} {σ τ : Sg} (h : Fr l σ τ) (h1 : ∀ c ∈ kcells, c ∉ l) (h2 : ∀ q ∈ kslots, q.1 ∉ l) : Keep σ τ := ⟨fun c hc => funext fun i => h c i (h1 c hc), fun q hq => h q.1 q.2 (h2 q hq)⟩
theorem vw_keep {σ τ : Sg} {b : Nat} (h : ∀ k : Nat, k < 27 → k ≠ 2 → k ≠ 15 → k ≠ 16 → rd τ (b + k) = rd σ (b + k)) : vw τ b = vw σ b := by
  funext k i
  unfold vw
  split
  · rfl
  · next hk => rw [h k (by omega) (by omega) (by omega) (by omega)]
theorem kc1d : ∀ k : Nat, k < 27 → (k = 2 ∨ k = 15 ∨ k = 16 ∨ 1 + k ∈ kcells) := by decide +kernel
theorem kc1 (k : Nat) (h : k < 27) (h1 : k ≠ 2) (h2 : k ≠ 15) (h3 : k ≠ 16) : 1 + k ∈ kcells := (((kc1d k h).resolve_left h1).resolve_left h2).resolve_left h3
theorem kc106d : ∀ k : Nat, k < 27 → (k = 2 ∨ k = 15 ∨ k = 16 ∨ 106 + k ∈ kcells) := by decide +kernel
theorem kc106 (k : Nat) (h : k < 27) (h1 : k ≠ 2) (h2 : k ≠ 15) (h3 : k ≠ 16) : 106 + k ∈ kcells := (((kc106d k h).resolve_left h1).resolve_left h2).resolve_left h3
theorem PE_keep {nb nb' : Int} {w : Int → Int} {σ τ : Sg} {k pos : Int} (h56 : rd τ 56 = rd σ 56) (h57 : rd τ 57 = rd σ 57) (h58 : rd τ 58 = rd σ 58) (h87 : rd τ 87 = rd σ 87) (hnb : nb ≤ nb') (h : PE nb w σ k pos) : PE nb' w τ k pos := by
  unfold PE at h ⊢
  rw [h56, h57, h58, h87]
  obtain ⟨a, b, c, d, e, f, g⟩ := h
  exact ⟨a, b, c, d, e, ⟨f.1, by omega⟩, g⟩
theorem PR_keep {nb nb' : Int} {w : Int → Int} {σ τ : Sg} (h : Keep σ τ) (hnb : nb ≤ nb') (k : PR nb w σ) : PR nb' w τ := by
  have e55 := h.1 55 (by decide)
  have e56 := h.1 56 (by decide)
  have e57 := h.1 57 (by decide)
  have e58 := h.1 58 (by decide)
  have e87 := h.1 87 (by decide)
  have e84 := h.2 (84, 4) (by decide)
  have e84 : rd τ 84 4 = rd σ 84 4 := e84
  unfold PR at k ⊢
  rw [e55, e84, e87]
  exact ⟨k.1, k.2.1, k.2.2.1, fun j j0 j1 => ⟨PE_keep e56 e57 e58 e87 hnb (k.2.2.2 j j0 j1).1, (k.2.2.2 j j0 j1).2⟩⟩
theorem TR_keep {σ τ : Sg} (h : Keep σ τ) (k : TR σ) : TR τ := by
  have e84 : rd τ 84 16 = rd σ 84 16 := h.2 (84, 16) (by decide)
  unfold TR at k ⊢
  rw [h.1 59 (by decide), h.1 60 (by decide), h.1 92 (by decide), e84]
  exact k
theorem TC_keep {σ τ : Sg} (h : Keep σ τ) (k : TC σ) : TC τ := by
  have e1 : rd τ 45 1 = rd σ 45 1 := h.2 (45, 1) (by decide)
  have e2 : rd τ 47 1 = rd σ 47 1 := h.2 (47, 1) (by decide)
  have e3 : rd τ 49 1 = rd σ 49 1 := h.2 (49, 1) (by decide)
  have e4 : rd τ 51 1 = rd σ 51 1 := h.2 (51, 1) (by decide)
  have e5 : rd τ 53 1 = rd σ 53 1 := h.2 (53, 1) (by decide)
  unfold TC at k ⊢
  rw [e1, e2, e3, e4, e5]
  exact k
theorem FR0_keep {σ τ : Sg} (h : Keep σ τ) (k : FR0 σ) : FR0 τ := by
  have e1 : rd τ 64 0 = rd σ 64 0 := h.2 (64, 0) (by decide)
  have e2 : rd τ 64 1 = rd σ 64 1 := h.2 (64, 1) (by decide)
  have e3 : rd τ 84 23 = rd σ 84 23 := h.2 (84, 23) (by decide)
  have e4 : rd τ 84 25 = rd σ 84 25 := h.2 (84, 25) (by decide)
  unfold FR0 at k ⊢
  rw [e1, e2, e3, e4]
  exact k
theorem KR_keep {has : Bool} {nb nb' : Int} {σ τ : Sg} (h5 : rd τ 84 5 = rd σ 84 5) (h86 : rd τ 86 = rd σ 86) (hv : vw τ 106 = vw σ 106) (hnb : nb ≤ nb') (k : KR has nb σ) : KR has nb' τ := by
  unfold KR CW at k ⊢
  rw [h5, h86, hv]
  split at k
  · next z => rw [if_pos z]; exact ⟨k.1, k.2.1, k.2.2.1, by omega, k.2.2.2.2⟩
  · next z => rw [if_neg z]; exact k
theorem nbN_le {N : Nat} : nbN N ≤ nbN (N + 1) := by unfold nbN; omega
theorem Inv.keep {has : Bool} {N : Nat} {σ τ : Sg} (h : Inv has N σ) (k : Keep σ τ) : Inv has (N + 1) τ := by
  obtain ⟨h1, h2, h3, h4, h5, h6, h7, h8, h9⟩ := h
  have e85 := k.1 85 (by decide)
  have ev : vw τ 1 = vw σ 1 := vw_keep (fun j a b c d => k.1 _ (kc1 j a b c d))
  have ek : vw τ 106 = vw σ 106 := vw_keep (fun j a b c d => k.1 _ (kc106 j a b c d))
  have hn := nbN_le (N := N)
  refine ⟨?_, by rw [e85]; exact h2, by rw [e85]; omega, by rw [e85]; exact h4, by rw [e85]; exact PR_keep k hn h5, TC_keep k h6, TR_keep k h7, FR0_keep k h8, KR_keep (k.2 (84, 5) (by decide)) (k.1 86 (by decide)) ek hn h9⟩
  unfold CW at h1 ⊢
  rw [ev, e85]
  exact h1
/-- a call on both sides -/
def OpE (has : Bool) (N : Nat) (f : Sg → Option (Int × Sg)) (g : Sg → Option (Int × Sg)) : Prop := ∀ σ, Inv has N σ → wp (f σ) (fun q => wp (g q.2) (fun r => q.1 = r.1 ∧ Inv has (N + 1) r.2))
def OpP (has : Bool) (N : Nat) (f : Sg → Option Int) (g : Sg → Option Int) : Prop := ∀ σ, Inv has N σ → wp (f σ) (fun q => wp (g σ) (fun r => q = r))
