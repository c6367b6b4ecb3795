/-! the last day of a table -/
def gtN (f : Int → Int) : Nat → Int → Int → Int
  | 0, _, a => a
  | n + 1, i, a => gtN f n (i + 1) (max a (f i))
theorem lastOf_m {w : Int → Int} {σ : Sg} (hw : rd σ 85 = w) {c b s : Int} (hc : 0 ≤ c ∧ c < 1796) (hn : 0 ≤ w c ∧ w c ≤ 16) (hb : 0 ≤ b ∧ b ≤ 1000) (hs : 0 ≤ s ∧ s ≤ 4) : fX11_lastOf c b s σ = some (gtN (fun i => w (b + s * i)) (w c).toNat 0 (-1)) := by
  have go : ∀ (r m : Nat) (i a : Int), i + r = w c → 0 ≤ i → r < m → fX11_lastOf_L6 σ c b s m a i = some (gtN (fun i => w (b + s * i)) r i a) := by
    intro r
    induction r with
    | zero =>
      intro m i a hi i0 hm
      cases m with
      | zero => omega
      | succ m =>
        rw [fX11_lastOf_L6, hw, grd_pos hc, if_neg (by omega)]
        rfl
    | succ r ih =>
      intro m i a hi i0 hm
      cases m with
      | zero => omega
      | succ m =>
        have h1 : 0 ≤ s * i := Int.mul_nonneg hs.1 i0
        have h2 : s * i ≤ 4 * i := Int.mul_le_mul_of_nonneg_right hs.2 i0
        rw [fX11_lastOf_L6, hw, grd_pos hc, if_pos (by omega), bw_id (z := s * i) (by omega) (by omega), bw_id (z := b + s * i) (by omega) (by omega), grd_pos (by omega), gre_eq, bw_id (z := i + 1) (by omega) (by omega), gtN]
        exact ih m (i + 1) _ (by omega) (by omega) (by omega)
  unfold fX11_lastOf
  exact go _ FU 0 (-1) (by omega) (by omega) (by unfold FU; omega)
theorem greatest_c {c N : Nat} {σ : Sg} {j cnt : Int} (hc : rd σ c 2 = cnt) (h0 : 0 ≤ cnt ∧ cnt ≤ 16) (hj : 0 ≤ j ∧ j < 4) (hN : 4 * cnt ≤ (N : Int)) : fX6_greatest c N j σ = some (gtN (fun i => rd σ (c + 1) (4 * i + j)) cnt.toNat 0 (-1)) := by
  have go : ∀ (r m : Nat) (i a : Int), i + r = cnt → 0 ≤ i → r < m → fX6_greatest_L4 c N σ j m a i = some (gtN (fun i => rd σ (c + 1) (4 * i + j)) r i a) := by
    intro r
    induction r with
    | zero =>
      intro m i a hi i0 hm
      cases m with
      | zero => omega
      | succ m =>
        rw [fX6_greatest_L4, hc, if_neg (by omega)]
        rfl
    | succ r ih =>
      intro m i a hi i0 hm
      cases m with
      | zero => omega
      | succ m =>
        rw [fX6_greatest_L4, hc, if_pos (by omega), cell_c hc (by omega) hj hN (by omega), Option.bind_some, max_eq, bw_id (z := i + 1) (by omega) (by omega), gtN]
        exact ih m (i + 1) _ (by omega) (by omega) (by omega)
  unfold fX6_greatest
  exact go _ FU 0 (-1) (by omega) (by omega) (by unfold FU; omega)
theorem gtN_congr {f g : Int → Int} {cnt : Int} (h : ∀ i : Int, 0 ≤ i → i < cnt → f i = g i) : ∀ (r : Nat) (i a : Int), i + r = cnt → 0 ≤ i → gtN f r i a = gtN g r i a
  | 0, _, _, _, _ => rfl
  | r + 1, i, a, hi, i0 => by
    rw [gtN, gtN, h i i0 (by omega)]
    exact gtN_congr h r (i + 1) _ (by omega) (by omega)
