/-! THE PURE PICTURE: values as whole numbers, cells by number; J: what follows out of a result that a function gives -/
abbrev PV : Type := Int ⊕ Option Nat
abbrev Sg : Type := Nat → Int → Int32
abbrev Sk : Type := (Nat × List (Option (Option Nat))) ⊕ (Nat × Nat)
abbrev PS : Type := Nat × List (Option PV) × List PV × Sg
def bw (z : Int) : Int := z.bmod 4294967296
def rd (σ : Sg) (c : Nat) (i : Int) : Int := (σ c i).toInt
def wr (σ : Sg) (c : Nat) (i z : Int) : Sg := fun c' i' => if c' = c ∧ i' = i then Int32.ofInt z else σ c' i'
def band (x y : Int) : Int := (Int32.ofInt x &&& Int32.ofInt y).toInt
def bor (x y : Int) : Int := (Int32.ofInt x ||| Int32.ofInt y).toInt
def bxor (x y : Int) : Int := (Int32.ofInt x ^^^ Int32.ofInt y).toInt
def bshl (x y : Int) : Int := (Int32.ofInt x <<< (Int32.ofInt y &&& 31)).toInt
def bshr (x y : Int) : Int := (Int32.ofInt x >>> (Int32.ofInt y &&& 31)).toInt
def bushr (x y : Int) : Int := ((Int32.ofInt x).toUInt32 >>> ((Int32.ofInt y).toUInt32 &&& Int32.toUInt32 31)).toInt32.toInt
def i2b (x : Int) : Int := ((Int32.ofInt x).toInt8.toInt32).toInt
def i2c (x : Int) : Int := (((Int32.ofInt x).toUInt32 % 65536).toInt32).toInt
def tdv (x y : Int) : Int := (Int32.ofInt x / Int32.ofInt y).toInt
def trm (x y : Int) : Int := (Int32.ofInt x - Int32.ofInt x / Int32.ofInt y * Int32.ofInt y).toInt
def grd {α : Type} (c : Prop) [Decidable c] (r : Option α) : Option α := if c then r else none
theorem bw_eq (z : Int) : bw z = (Int32.ofInt z).toInt := by rw [Int32.toInt_ofInt]; rfl
theorem ofI_bw (z : Int) : Int32.ofInt (bw z) = Int32.ofInt z := by rw [bw_eq, Int32.ofInt_toInt]
theorem bw_toInt (x : Int32) : bw x.toInt = x.toInt := by rw [bw_eq, Int32.ofInt_toInt]
theorem bw_bw (z : Int) : bw (bw z) = bw z := by rw [bw_eq (bw z), ofI_bw, bw_eq]
theorem bw_id {z : Int} (h1 : -2147483648 ≤ z) (h2 : z < 2147483648) : bw z = z := by
  unfold bw
  rw [Int.bmod_eq_of_le] <;> omega
theorem bw_range (z : Int) : -2147483648 ≤ bw z ∧ bw z < 2147483648 := by
  unfold bw
  have h1 := Int.le_bmod (x := z) (m := 4294967296) (by decide)
  have h2 := Int.bmod_lt (x := z) (m := 4294967296) (by decide)
  constructor <;> omega
theorem bw_of {z : Int} (h : bw z = z) : -2147483648 ≤ z ∧ z < 2147483648 := by rw [← h]; exact bw_range z
theorem ofI_eq0 {z : Int} (h : bw z = z) : Int32.ofInt z = 0 ↔ z = 0 := by
  constructor
  · intro q
    have := congrArg Int32.toInt q
    rw [← bw_eq, h] at this
    exact this
  · rintro rfl; rfl
theorem ofI_toInt {z : Int} (h : bw z = z) : (Int32.ofInt z).toInt = z := by rw [← bw_eq, h]
theorem ofI_inj {x y : Int} (hx : bw x = x) (hy : bw y = y) : Int32.ofInt x = Int32.ofInt y ↔ x = y := by
  constructor
  · intro q
    have := congrArg Int32.toInt q
    rwa [ofI_toInt hx, ofI_toInt hy] at this
  · rintro rfl; rfl
theorem ofI_lt {x y : Int} (hx : bw x = x) (hy : bw y = y) : Int32.ofInt x < Int32.ofInt y ↔ x < y := by
  rw [Int32.lt_iff_toInt_lt, ofI_toInt hx, ofI_toInt hy]
theorem ofI_le {x y : Int} (hx : bw x = x) (hy : bw y = y) : Int32.ofInt x ≤ Int32.ofInt y ↔ x ≤ y := by
  rw [Int32.le_iff_toInt_le, ofI_toInt hx, ofI_toInt hy]
theorem rd_bw (σ : Sg) (c : Nat) (i : Int) : bw (rd σ c i) = rd σ c i := bw_toInt _
theorem rd_wr (σ : Sg) (c : Nat) (i z : Int) (c' : Nat) (i' : Int) : rd (wr σ c i z) c' i' = if c' = c ∧ i' = i then bw z else rd σ c' i' := by
  unfold rd wr
  split
  · rw [bw_eq]
  · rfl
theorem sg_ext {σ τ : Sg} (h : ∀ c i, rd σ c i = rd τ c i) : σ = τ := by
  funext c i
  have := h c i
  unfold rd at this
  exact Int32.toInt_inj.mp this
