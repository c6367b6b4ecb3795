/-! which rows a text's lines lie in; arraycopy with nothing below it -/
theorem acR : Nat.ble (0 + (nativeFrameWords "java/lang/System" "arraycopy" 5 + 11)) 64 = true := by decide +kernel
theorem j_copyE {α : Type} {X : Cx} {M : MM} {P : PG} {tb : TB} {kc nc d : Nat} {EX : EXT} {F : α → Prop × ZT} {ads : List Nat} {sk : List Sk} {L : List (Option PV)} {σ : Sg} {res : Option α} {pc pc2 : Nat} (n j : Nat) {idx c0 c1 N0 N1 : Nat} {sp dp k B0 B1 : Int} (hn : P[n]? = some (.invokestatic idx, pc, pc2)) (hm : tb.2.2.1[j]? = some (idx, arraycopyName)) (hs0 : sk[c0]? = some (.inr (0, N0))) (hs1 : sk[c1]? = some (.inr (0, N1))) (hB0 : (N0 : Int) = B0) (hB1 : (N1 : Int) = B1) (hd : Nat.ble 1 d = true)
    (kk : J X M P tb (rmD d 0 0) kc nc EX F ads sk (pc2, L, [], cpy σ c0 sp c1 dp k) res) : J X M P tb (rmD d 0 0) kc nc EX F ads sk (pc, L, [.inl k, .inl dp, .inr (some c1), .inl sp, .inr (some c0)], σ) (grd (0 ≤ sp ∧ 0 ≤ dp ∧ 0 ≤ k ∧ sp + k ≤ B0 ∧ dp + k ≤ B1) res) :=
  j_copy n j hn hm hs0 hs1 hB0 hB1 (rokC hd acR) kk
theorem rowsOf_ok {sk : List Sk} {b : Nat} (h : ocW sk b) (k : Int) : ocR sk (fX9_rowsOf b k) (nRows k) := by
  unfold fX9_rowsOf nRows
  by_cases h1 : k = 1
  · rw [if_pos h1, if_pos h1]; exact h.2.2.2.2.2.1
  · rw [if_neg h1, if_neg h1]
    by_cases h2 : k = 2
    · rw [if_pos h2]; exact h.2.2.2.2.2.2.1
    · rw [if_neg h2]; exact h.2.2.2.2.2.2.2.1
