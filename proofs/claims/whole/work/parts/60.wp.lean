/-! THE PURE GOAL, base: what an optional result owes (wp), loops, frames -/
def wp {α : Type} (o : Option α) (Q : α → Prop) : Prop := ∃ a, o = some a ∧ Q a
section WPS
variable {α β : Type}
theorem wp_some {a : α} {Q : α → Prop} : wp (some a) Q ↔ Q a := ⟨fun ⟨b, h, q⟩ => by cases h; exact q, fun q => ⟨a, rfl, q⟩⟩
theorem wp_none {Q : α → Prop} : wp (none : Option α) Q ↔ False := ⟨fun ⟨_, h, _⟩ => (by cases h), False.elim⟩
theorem wp_bind {o : Option α} {f : α → Option β} {Q : β → Prop} : wp (o.bind f) Q ↔ wp o (fun a => wp (f a) Q) := by
  constructor
  · rintro ⟨b, h, q⟩
    cases o with
    | none => cases h
    | some a => exact ⟨a, rfl, b, h, q⟩
  · rintro ⟨a, rfl, b, h, q⟩
    exact ⟨b, h, q⟩
theorem wp_grd {c : Prop} [Decidable c] {r : Option α} {Q : α → Prop} : wp (grd c r) Q ↔ c ∧ wp r Q := by
  unfold grd
  by_cases h : c
  · rw [if_pos h]; exact ⟨fun q => ⟨h, q⟩, fun q => q.2⟩
  · rw [if_neg h, wp_none]; exact ⟨False.elim, fun q => h q.1⟩
theorem wp_ite {c : Prop} [Decidable c] {a b : Option α} {Q : α → Prop} : wp (if c then a else b) Q ↔ (c → wp a Q) ∧ (¬ c → wp b Q) := by
  by_cases h : c
  · rw [if_pos h]; exact ⟨fun q => ⟨fun _ => q, fun z => absurd h z⟩, fun q => q.1 h⟩
  · rw [if_neg h]; exact ⟨fun q => ⟨fun z => absurd z h, fun _ => q⟩, fun q => q.2 h⟩
theorem wp_mono {o : Option α} {Q R : α → Prop} (h : wp o Q) (k : ∀ a, Q a → R a) : wp o R := by
  obtain ⟨a, h1, h2⟩ := h
  exact ⟨a, h1, k a h2⟩
theorem wp_eq {o : Option α} {a : α} {Q : α → Prop} (h : o = some a) (k : Q a) : wp o Q := ⟨a, h, k⟩
theorem wp_of {o : Option α} {a : α} (h : wp o (fun b => b = a)) : o = some a := by
  obtain ⟨b, h1, rfl⟩ := h
  exact h1
theorem loopM {F : Nat → β → Option α} {Q : α → Prop} (I : β → Prop) (μ : β → Nat) (hs : ∀ n s, I s → (∀ s', I s' → μ s' < μ s → wp (F n s') Q) → wp (F (n + 1) s) Q) : ∀ n s, μ s < n → I s → wp (F n s) Q
  | 0, s, h, _ => absurd h (Nat.not_lt_zero _)
  | n + 1, s, h, hI => hs n s hI (fun s' hI' hlt => loopM I μ hs n s' (by omega) hI')
end WPS
theorem rq_s {σ : Sg} {c : Nat} {i z : Int} : rd (wr σ c i z) c i = bw z := by rw [rd_wr, if_pos ⟨rfl, rfl⟩]
theorem rq_c {σ : Sg} {c c2 : Nat} {i i2 z : Int} (h : c2 ≠ c) : rd (wr σ c i z) c2 i2 = rd σ c2 i2 := by rw [rd_wr, if_neg (fun q => h q.1)]
theorem rq_i {σ : Sg} {c : Nat} {i i2 z : Int} (h : i2 ≠ i) : rd (wr σ c i z) c i2 = rd σ c i2 := by rw [rd_wr, if_neg (fun q => h q.2)]
theorem rq_e {σ : Sg} {c : Nat} {i i2 z : Int} (h : i2 = i) : rd (wr σ c i z) c i2 = bw z := by rw [rd_wr, if_pos ⟨rfl, h⟩]
/-- all but the cells of l stay -/
def Fr (l : List Nat) (σ τ : Sg) : Prop := ∀ (c : Nat) (i : Int), c ∉ l → rd τ c i = rd σ c i
theorem Fr.rf {l : List Nat} {σ : Sg} : Fr l σ σ := fun _ _ _ => rfl
theorem Fr.tr {l : List Nat} {σ τ ρ : Sg} (h : Fr l σ τ) (k : Fr l τ ρ) : Fr l σ ρ := fun c i hc => (k c i hc).trans (h c i hc)
theorem Fr.mo {l l2 : List Nat} {σ τ : Sg} (h : Fr l σ τ) (k : ∀ c ∈ l, c ∈ l2) : Fr l2 σ τ := fun c i hc => h c i (fun q => hc (k c q))
theorem Fr.wr {l : List Nat} {σ τ : Sg} {c : Nat} {i z : Int} (h : Fr l σ τ) (hc : c ∈ l) : Fr l σ (wr τ c i z) := fun c2 i2 h2 => (rq_c (fun e : c2 = c => h2 (by rw [e]; exact hc))).trans (h c2 i2 h2)
theorem bwr {z : Int} (h1 : -2147483648 ≤ z) (h2 : z ≤ 2147483647) : bw z = z := bw_id h1 (by omega)
theorem rd_r (σ : Sg) (c : Nat) (i : Int) : -2147483648 ≤ rd σ c i ∧ rd σ c i < 2147483648 := bw_of (rd_bw σ c i)
def ab (x : Int) : Int := if x < 0 then -x else x
theorem ab_r (x : Int) : 0 ≤ ab x ∧ x ≤ ab x ∧ -x ≤ ab x := by unfold ab; split <;> omega
theorem abs_eq {x : Int} (h1 : -2147483648 < x) (h2 : x < 2147483648) : fJ9_abs_0f7a4 x = ab x := by
  unfold fJ9_abs_0f7a4 ab
  split
  · rw [bw_id] <;> omega
  · rfl
theorem size_eq {x : Int} (h1 : -2147483648 < x) (h2 : x < 2147483648) : fX11_size x = ab x := by
  unfold fX11_size ab
  split
  · rw [bw_id] <;> omega
  · rfl
theorem max_eq (x y : Int) : fJ9_max_7cf53 x y = max x y := by unfold fJ9_max_7cf53; omega
theorem min_eq (x y : Int) : fJ9_min_7cf53 x y = min x y := by unfold fJ9_min_7cf53; omega
theorem gre_eq (x y : Int) : fX11_greater x y = max x y := by unfold fX11_greater; omega
theorem les_eq (x y : Int) : fX11_lesser x y = min x y := by unfold fX11_lesser; omega
theorem held_eq (x y : Int) : fX10_held x y = max 0 (min x y) := by unfold fX10_held; rw [max_eq, min_eq]
/-! bits -/
theorem i32_tn {x : Int} (h1 : 0 ≤ x) (h2 : x < 2147483648) : (Int32.ofInt x).toBitVec.toNat = x.toNat := by
  show (BitVec.ofInt 32 x).toNat = _
  rw [BitVec.toNat_ofInt]
  omega
theorem band_nat {x y : Int} (h1 : 0 ≤ x) (h2 : x < 2147483648) (h3 : 0 ≤ y) (h4 : y < 2147483648) : band x y = ((x.toNat &&& y.toNat : Nat) : Int) := by
  unfold band
  show ((Int32.ofInt x).toBitVec &&& (Int32.ofInt y).toBitVec).toInt = _
  have n1 : ((Int32.ofInt x).toBitVec &&& (Int32.ofInt y).toBitVec).toNat = x.toNat &&& y.toNat := by rw [BitVec.toNat_and, i32_tn h1 h2, i32_tn h3 h4]
  have hlt : x.toNat &&& y.toNat ≤ x.toNat := Nat.and_le_left
  rw [BitVec.toInt_eq_toNat_cond, n1, if_pos (by omega)]
theorem bor_nat {x y : Int} (h1 : 0 ≤ x) (h2 : x < 2147483648) (h3 : 0 ≤ y) (h4 : y < 2147483648) : bor x y = ((x.toNat ||| y.toNat : Nat) : Int) := by
  unfold bor
  show ((Int32.ofInt x).toBitVec ||| (Int32.ofInt y).toBitVec).toInt = _
  have n1 : ((Int32.ofInt x).toBitVec ||| (Int32.ofInt y).toBitVec).toNat = x.toNat ||| y.toNat := by rw [BitVec.toNat_or, i32_tn h1 h2, i32_tn h3 h4]
  have hlt : x.toNat ||| y.toNat < 2 ^ 31 := Nat.or_lt_two_pow (by omega) (by omega)
  rw [BitVec.toInt_eq_toNat_cond, n1, if_pos (by omega)]
theorem band_m {x m : Int} {k : Nat} (hk : k < 32) (hm : (Int32.ofInt m).toBitVec.toNat = 2 ^ k - 1) (hx : bw x = x) : band x m = x % 2 ^ k := by
  unfold band
  rw [Jvm.Kit.i32_mask (Int32.ofInt x) (Int32.ofInt m) hk hm, ofI_toInt hx]
theorem band_1 {x : Int} (hx : bw x = x) : band x 1 = x % 2 := band_m (k := 1) (by decide) (by decide) hx
theorem band_7 {x : Int} (hx : bw x = x) : band x 7 = x % 8 := band_m (k := 3) (by decide) (by decide) hx
theorem band_255 {x : Int} (hx : bw x = x) : band x 255 = x % 256 := band_m (k := 8) (by decide) (by decide) hx
theorem sh_am : ∀ k : Nat, k < 32 → ((Int32.ofInt (k : Int) &&& 31).toBitVec.smod 32).toNat = k := by decide +kernel
theorem bshr_n {x : Int} {k : Nat} (hk : k < 32) (hx : bw x = x) : bshr x (k : Int) = x / 2 ^ k := by
  unfold bshr
  rw [Jvm.Kit.i32_shr _ _ (sh_am k hk), ofI_toInt hx]
theorem bshr_3 {x : Int} (hx : bw x = x) : bshr x 3 = x / 8 := bshr_n (k := 3) (by decide) hx
theorem bshr_1 {x : Int} (hx : bw x = x) : bshr x 1 = x / 2 := bshr_n (k := 1) (by decide) hx
theorem bshl_1n : ∀ k : Nat, k < 31 → bshl 1 (k : Int) = 2 ^ k := by decide +kernel
theorem band_nr (x y : Int) : bw (band x y) = band x y := bw_toInt _
theorem bor_nr (x y : Int) : bw (bor x y) = bor x y := bw_toInt _
theorem bshr_nr (x y : Int) : bw (bshr x y) = bshr x y := bw_toInt _
theorem bshl_nr (x y : Int) : bw (bshl x y) = bshl x y := bw_toInt _
theorem tdv_nr (x y : Int) : bw (tdv x y) = tdv x y := bw_toInt _
theorem band01 (x : Int) : band x 1 = 0 ∨ band x 1 = 1 := by
  have h : band x 1 = band (bw x) 1 := by unfold band; rw [ofI_bw]
  rw [h, band_1 (bw_bw x)]
  omega
theorem band_01 {x y : Int} (hx : x = 0 ∨ x = 1) (hy : y = 0 ∨ y = 1) : band x y = 0 ∨ band x y = 1 := by
  rcases hx with rfl | rfl <;> rcases hy with rfl | rfl <;> decide
theorem bor_01 {x y : Int} (hx : x = 0 ∨ x = 1) (hy : y = 0 ∨ y = 1) : bor x y = 0 ∨ bor x y = 1 := by
  rcases hx with rfl | rfl <;> rcases hy with rfl | rfl <;> decide
theorem tdv_pos {x y : Int} (h1 : 0 ≤ x) (h2 : x < 2147483648) (h3 : 0 < y) (h4 : y < 2147483648) : tdv x y = x / y := by
  unfold tdv
  rw [Int32.toInt_div, ofI_toInt (bw_id (by omega) (by omega)), ofI_toInt (bw_id (by omega) (by omega)), Int.tdiv_eq_ediv_of_nonneg h1]
  have h5 : 0 ≤ x / y := Int.ediv_nonneg h1 (by omega)
  have h6 : x / y ≤ x := Int.ediv_le_self _ h1
  exact Int.bmod_eq_of_le (by omega) (by omega)
theorem trm_pos {x y : Int} (h1 : 0 ≤ x) (h2 : x < 2147483648) (h3 : 0 < y) (h4 : y < 2147483648) : trm x y = x % y := by
  have hq := tdv_pos h1 h2 h3 h4
  unfold tdv at hq
  unfold trm
  have h5 : 0 ≤ x / y := Int.ediv_nonneg h1 (by omega)
  have h6 : x / y ≤ x := Int.ediv_le_self _ h1
  have h7 := Int.emod_add_mul_ediv x y
  have h8 : 0 ≤ x % y := Int.emod_nonneg x (by omega)
  have h9 : x % y < y := Int.emod_lt_of_pos x h3
  have h10 : 0 ≤ y * (x / y) := Int.mul_nonneg (by omega) h5
  have h11 : x / y * y = y * (x / y) := Int.mul_comm _ _
  rw [Int32.toInt_sub, Int32.toInt_mul, hq, ofI_toInt (bw_id (by omega) (by omega)), ofI_toInt (bw_id (by omega) (by omega)), h11, Int.sub_bmod_bmod]
  rw [Int.bmod_eq_of_le] <;> omega
