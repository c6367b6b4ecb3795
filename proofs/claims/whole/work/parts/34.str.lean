/-! texts: length, charAt, indexOf -/
def mSLen : MM := (yJ0_length_8abf5, cJ0_length_8abf5, 1, some .int, 7)
def mSCh : MM := (yJ0_charAt_5068e, cJ0_charAt_5068e, 2, some .char, 7)
def mSIx : MM := (yJ0_indexOf_0f7a4, cJ0_indexOf_0f7a4, 2, some .int, 7)
section JS
variable {α : Type} {X : Cx} {M : MM} {P : PG} {tb : TB} {R : Room} {kc nc : Nat} {EX : EXT} {F : α → Prop × ZT} {ads : List Nat} {sk : List Sk} {L : List (Option PV)} {st : List PV} {σ : Sg} {res : Option α} {pc pc2 : Nat}
theorem j_sLen (n j : Nat) {idx r : Nat} (hn : P[n]? = some (.invokevirtual idx, pc, pc2)) (hm : tb.2.2.1[j]? = some (idx, mSLen.1)) (hr : 1000 ≤ r ∧ r < 1024) (hR : RoomOK R mSLen kc nc 0 0) (h8 : st.length ≤ 8) (k : J X M P tb R kc nc EX F ads sk (pc2, L, .inl (sLen r) :: st, σ) res) : J X M P tb R kc nc EX F ads sk (pc, L, .inr (some r) :: st, σ) res := by
  sorry
theorem j_sCh (n j : Nat) {idx r : Nat} {i : Int} (hn : P[n]? = some (.invokevirtual idx, pc, pc2)) (hm : tb.2.2.1[j]? = some (idx, mSCh.1)) (hr : 1000 ≤ r ∧ r < 1024) (hR : RoomOK R mSCh kc nc 0 0) (h8 : st.length ≤ 8) (k : J X M P tb R kc nc EX F ads sk (pc2, L, .inl (sCh r i) :: st, σ) res) : J X M P tb R kc nc EX F ads sk (pc, L, .inl i :: .inr (some r) :: st, σ) (grd (0 ≤ i ∧ i < sLen r) res) := by
  sorry
theorem j_sIx (n j : Nat) {idx r : Nat} {x : Int} (hn : P[n]? = some (.invokevirtual idx, pc, pc2)) (hm : tb.2.2.1[j]? = some (idx, mSIx.1)) (hr : 1000 ≤ r ∧ r < 1024) (hR : RoomOK R mSIx kc nc 0 0) (h8 : st.length ≤ 8) (k : J X M P tb R kc nc EX F ads sk (pc2, L, .inl (sIx r x) :: st, σ) res) : J X M P tb R kc nc EX F ads sk (pc, L, .inl x :: .inr (some r) :: st, σ) res := by
  sorry
end JS
