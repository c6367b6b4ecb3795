/-! stable: the model, and the call -/
def MM2 (w : Int → Int) (ρ : Sg) (A : Int → Nat) (H : Int → Int) : Prop := (∀ p, isP w p → rd ρ 96 p = H p ∧ rd ρ 97 p = (A p : Int)) ∧ (∀ p, A p < 4096) ∧ ∀ p, isP w p → bw (H p) = H p
theorem MM2_fr {w : Int → Int} {l : List Nat} {ρ τ : Sg} {A : Int → Nat} {H : Int → Int} (h : MM2 w ρ A H) (hF : Fr l ρ τ) (h1 : 96 ∉ l) (h2 : 97 ∉ l) : MM2 w τ A H := ⟨fun p hp => ⟨(hF 96 p h1).trans (h.1 p hp).1, (hF 97 p h2).trans (h.1 p hp).2⟩, h.2⟩
theorem next_s {w : Int → Int} {g : Nat → Int → Int} {σ0 : Sg} {A : Int → Nat} {H : Int → Int} {a : Int} (hW : Wf w) (hL : LR w g) (hw : rd σ0 85 = w) (hM : MM2 w σ0 A H) (ha : Lp w a) : ∀ (r n : Nat) (j : Int) (x2 : Int) (ρ : Sg), j + r = w 85 → 0 ≤ j → r < n → Fr [93, 94] σ0 ρ → (x2 = -1 ∧ (∀ c, Rp w c → c < j → (A a).testBit c.toNat = true ∨ matchW w a c = 0) ∨ (Rp w x2 ∧ x2 < j ∧ (A a).testBit x2.toNat = false ∧ 0 < matchW w a x2 ∧ ∀ c, Rp w c → c < j → (A a).testBit c.toNat = true ∨ ¬ prfS w a c x2)) → wp (fX11_nextAsked_L4 a n x2 j ρ) (fun q => Fr [93, 94] σ0 q.2 ∧ (q.1 = -1 ∧ (∀ b, Rp w b → 0 < matchW w a b → (A a).testBit b.toNat = true) ∨ Nxt w A a q.1))
  | 0, n, j, x2, ρ, hj, j0, hn, hF, hI => by
    cases n with
    | zero => omega
    | succ n =>
      rw [fX11_nextAsked_L4, hF 85 85 (by decide), hw, if_neg (by omega), wp_some]
      refine ⟨hF, ?_⟩
      rcases hI with ⟨e1, e2⟩ | ⟨e1, e2, e3, e4, e5⟩
      · refine Or.inl ⟨e1, fun b hb h0 => ?_⟩
        rcases e2 b hb (by have := hb.1.2; omega) with z | z
        · exact z
        · omega
      · refine Or.inr ⟨e1, e3, e4, fun c hc hp => ?_⟩
        rcases e5 c hc (by have := hc.1.2; omega) with z | z
        · exact z
        · exact absurd hp z
  | r + 1, n, j, x2, ρ, hj, j0, hn, hF, hI => by
    have h12 := hW.1.2.2.2.2.2.1
    have a0 := ha.1.1
    have a1 := ha.1.2
    have hw2 : rd ρ 85 = w := (funext fun j => hF 85 j (by decide)).trans hw
    have hPj : isP w j := ⟨j0, by omega⟩
    have sj := (hW.2.2.1 j hPj).1
    have hl := hM.2.1 a
    cases n with
    | zero => omega
    | succ n =>
      have skip : ∀ τ, Fr [93, 94] σ0 τ → (Rp w j → (A a).testBit j.toNat = true ∨ matchW w a j = 0 ∨ x2 ≠ -1 ∧ ¬ prfS w a j x2) → wp (fX11_nextAsked_L4 a n x2 (j + 1) τ) (fun q => Fr [93, 94] σ0 q.2 ∧ (q.1 = -1 ∧ (∀ b, Rp w b → 0 < matchW w a b → (A a).testBit b.toNat = true) ∨ Nxt w A a q.1)) := by
        intro τ hτ h
        refine next_s hW hL hw hM ha r n (j + 1) x2 τ (by omega) (by omega) (by omega) hτ ?_
        rcases hI with ⟨e1, e2⟩ | ⟨e1, e2, e3, e4, e5⟩
        · refine Or.inl ⟨e1, fun c hc hcj => ?_⟩
          by_cases e : c = j
          · rw [e] at hc ⊢
            rcases h hc with z | z | z
            · exact Or.inl z
            · exact Or.inr z
            · exact absurd e1 z.1
          · exact e2 c hc (by omega)
        · refine Or.inr ⟨e1, by omega, e3, e4, fun c hc hcj => ?_⟩
          by_cases e : c = j
          · rw [e] at hc ⊢
            rcases h hc with z | z | z
            · exact Or.inl z
            · right
              intro q
              unfold prfS at q
              omega
            · exact Or.inr z.2
          · exact e5 c hc (by omega)
      rw [fX11_nextAsked_L4, hw2, if_pos (by omega), areUnlike_m hW hw2, Option.bind_some, isFree_m hw2 (p := j) (by omega), bw_id (z := j + 1) (by omega) (by omega)]
      by_cases c1 : w (91 + a) ≠ w (91 + j)
      · rw [if_pos (show isP w a ∧ isP w j ∧ w (91 + a) ≠ w (91 + j) from ⟨ha.1, hPj, c1⟩), if_neg n10, Option.bind_some]
        by_cases c2 : w (68 + j) = -1
        · have hR : Rp w j := ⟨hPj, c2, by have := ha.2.2; omega⟩
          rw [if_pos c2, if_neg n10, grd_pos (by omega), hF 97 _ (by decide), (hM.1 a ha.1).2, kb_bit (by omega) (by omega) (by omega) (by omega), Int.toNat_natCast]
          cases z : (A a).testBit j.toNat with
          | true =>
            rw [if_pos rfl, if_pos rfl]
            exact skip ρ hF (fun _ => Or.inl z)
          | false =>
            rw [if_neg (show ¬ false = true by decide), if_neg (by decide), wp_bind]
            refine wp_mono (matchOf_m hW hL hw2 ha.1 hPj) (fun q hq => ?_)
            have f2 : Fr [93, 94] σ0 q.2 := hF.tr hq.2
            have hw3 : rd q.2 85 = w := (funext fun j => f2 85 j (by decide)).trans hw
            rw [hq.1]
            by_cases c3 : matchW w a j = 0
            · rw [if_pos c3]
              exact skip q.2 f2 (fun _ => Or.inr (Or.inl c3))
            · have hmj := matchW_r w a j
              rw [if_neg c3]
              have take : (∀ c, Rp w c → c < j → (A a).testBit c.toNat = true ∨ ¬ prfS w a c j) → ∀ τ, Fr [93, 94] σ0 τ → wp (fX11_nextAsked_L4 a n j (j + 1) τ) (fun q => Fr [93, 94] σ0 q.2 ∧ (q.1 = -1 ∧ (∀ b, Rp w b → 0 < matchW w a b → (A a).testBit b.toNat = true) ∨ Nxt w A a q.1)) := by
                intro h τ hτ
                refine next_s hW hL hw hM ha r n (j + 1) j τ (by omega) (by omega) (by omega) hτ (Or.inr ⟨hR, by omega, z, by omega, fun c hc hcj => ?_⟩)
                by_cases e : c = j
                · right; rw [e]; intro q; unfold prfS at q; omega
                · exact h c hc (by omega)
              by_cases c4 : x2 = -1
              · rw [if_pos c4]
                refine take (fun c hc hcj => ?_) q.2 f2
                rcases hI with ⟨e1, e2⟩ | ⟨e1, e2, e3, e4, e5⟩
                · rcases e2 c hc hcj with y | y
                  · exact Or.inl y
                  · right; intro u; unfold prfS at u; omega
                · have := e1.1.1; omega
              · rcases hI with ⟨e1, e2⟩ | ⟨e1, e2, e3, e4, e5⟩
                · exact absurd e1 c4
                · rw [if_neg c4, wp_bind]
                  refine wp_mono (matchOf_m hW hL hw3 ha.1 hPj) (fun q2 hq2 => ?_)
                  have f3 : Fr [93, 94] σ0 q2.2 := f2.tr hq2.2
                  have hw4 : rd q2.2 85 = w := (funext fun j => f3 85 j (by decide)).trans hw
                  rw [wp_bind]
                  refine wp_mono (matchOf_m hW hL hw4 ha.1 e1.1) (fun q3 hq3 => ?_)
                  have f4 : Fr [93, 94] σ0 q3.2 := f3.tr hq3.2
                  rw [hq2.1, hq3.1]
                  by_cases c5 : matchW w a x2 < matchW w a j
                  · rw [if_pos c5]
                    refine take (fun c hc hcj => ?_) q3.2 f4
                    rcases e5 c hc hcj with y | y
                    · exact Or.inl y
                    · right; intro u; unfold prfS at u y; omega
                  · rw [if_neg c5]
                    exact skip q3.2 f4 (fun _ => Or.inr (Or.inr ⟨c4, fun u => by unfold prfS at u; omega⟩))
        · rw [if_neg c2, if_pos p00]
          exact skip ρ hF (fun y => absurd y.2.1 c2)
      · rw [if_neg (show ¬ (isP w a ∧ isP w j ∧ w (91 + a) ≠ w (91 + j)) from fun z => c1 z.2.2), if_pos p00]
        exact skip ρ hF (fun y => by have h1 := y.2.2; have h2 := ha.2.2; exact absurd (by rw [h1, h2]; decide) c1)
theorem keeps_m {w : Int → Int} {g : Nat → Int → Int} {ρ : Sg} {A A1 : Int → Nat} {H : Int → Int} {a b : Int} (hW : Wf w) (hL : LR w g) (hw : rd ρ 85 = w) (h96 : ∀ p, isP w p → rd ρ 96 p = H p) (hS : StI w A H) (ha : Lp w a) (hb : Rp w b) : wp (fX11_keepsFor b a ρ) (fun q => Fr [93, 94] ρ q.2 ∧ (q.1 = 1 ∧ 0 < matchW w b a ∧ (H b = -1 ∨ prfS w b a (H b)) ∨ q.1 = 0 ∧ (matchW w b a = 0 ∨ H b ≠ -1 ∧ ¬ prfS w b a (H b)))) := by
  have h12 := hW.1.2.2.2.2.2.1
  have b0 := hb.1.1
  have b1 := hb.1.2
  have hm := matchW_r w b a
  unfold fX11_keepsFor
  rw [wp_bind]
  refine wp_mono (matchOf_m hW hL hw hb.1 ha.1) (fun q hq => ?_)
  have hw2 : rd q.2 85 = w := (funext fun j => hq.2 85 j (by decide)).trans hw
  have e96 : rd q.2 96 b = H b := (hq.2 96 _ (by decide)).trans (h96 b hb.1)
  rw [hq.1]
  by_cases c1 : matchW w b a = 0
  · rw [if_pos c1, wp_some]
    exact ⟨hq.2, Or.inr ⟨rfl, Or.inl c1⟩⟩
  · rw [if_neg c1, grd_pos (by omega), e96]
    by_cases c2 : H b = -1
    · rw [if_pos c2, wp_some]
      exact ⟨hq.2, Or.inl ⟨rfl, by omega, Or.inl c2⟩⟩
    · obtain ⟨ho, -⟩ := (hS.2.1 b hb).resolve_left c2
      have hm2 := matchW_r w b (H b)
      rw [if_neg c2, wp_bind]
      refine wp_mono (matchOf_m hW hL hw2 hb.1 ha.1) (fun q4 hq4 => ?_)
      have hw4 : rd q4.2 85 = w := (funext fun j => hq4.2 85 j (by decide)).trans hw2
      have e964 : rd q4.2 96 b = H b := (hq4.2 96 _ (by decide)).trans e96
      rw [grd_pos (by omega), e964, wp_bind]
      refine wp_mono (matchOf_m hW hL hw4 hb.1 ho.1) (fun q5 hq5 => ?_)
      have e965 : rd q5.2 96 b = H b := (hq5.2 96 _ (by decide)).trans e964
      have f5 : Fr [93, 94] ρ q5.2 := (hq.2.tr hq4.2).tr hq5.2
      rw [hq4.1, hq5.1, bw_id (z := matchW w b a - matchW w b (H b)) (by omega) (by omega)]
      by_cases c3 : 0 < matchW w b a - matchW w b (H b)
      · rw [if_pos c3, wp_some]
        exact ⟨f5, Or.inl ⟨rfl, by omega, Or.inr (Or.inl (by omega))⟩⟩
      · rw [if_neg c3]
        by_cases c4 : matchW w b a - matchW w b (H b) = 0
        · rw [if_pos c4, grd_pos (by omega), e965]
          by_cases c5 : a < H b
          · rw [if_pos c5, wp_some]
            exact ⟨f5, Or.inl ⟨rfl, by omega, Or.inr (Or.inr ⟨by omega, c5⟩)⟩⟩
          · rw [if_neg c5, wp_some]
            exact ⟨f5, Or.inr ⟨rfl, Or.inr ⟨c2, fun u => by unfold prfS at u; omega⟩⟩⟩
        · rw [if_neg c4, wp_some]
          exact ⟨f5, Or.inr ⟨rfl, Or.inr ⟨c2, fun u => by unfold prfS at u; omega⟩⟩⟩
/-- those below i have done, but for the one who is asking -/
def Dn (w : Int → Int) (i cur : Int) (A : Int → Nat) (H : Int → Int) : Prop := (∀ a, Lp w a → a < i → a ≠ cur → Tm w A H a) ∧ (∀ a, Lp w a → i ≤ a → H a = -1) ∧ (cur = -1 ∨ Lp w cur ∧ cur < i ∧ H cur = -1)
theorem asksOn_m {w : Int → Int} {g : Nat → Int → Int} {σ0 : Sg} {i : Int} (hW : Wf w) (hL : LR w g) (hw : rd σ0 85 = w) : ∀ (r n : Nat) (cur : Int) (ρ : Sg) (A : Int → Nat) (H : Int → Int), 145 ≤ bitsA A + r → r < n → Fr [93, 94, 96, 97] σ0 ρ → MM2 w ρ A H → Good w A H → Dn w i cur A H → wp (fX11_asksOn_L2 n cur ρ) (fun τ => Fr [93, 94, 96, 97] σ0 τ ∧ ∃ A2 H2, MM2 w τ A2 H2 ∧ Good w A2 H2 ∧ Dn w i (-1) A2 H2)
  | 0, n, cur, ρ, A, H, hr, hn, hF, hM, hD, hI => by
    have := bitsA_r A
    omega
  | r + 1, n, cur, ρ, A, H, hr, hn, hF, hM, hD, hI => by
    have h12 := hW.1.2.2.2.2.2.1
    have hw2 : rd ρ 85 = w := (funext fun j => hF 85 j (by decide)).trans hw
    cases n with
    | zero => omega
    | succ n =>
      rw [fX11_asksOn_L2]
      by_cases c : cur = -1
      · rw [if_pos c, wp_some]
        rw [c] at hI
        exact ⟨hF, A, H, hM, hD, hI⟩
      · obtain ⟨ha, hlt, hH⟩ := hI.2.2.resolve_left c
        have a0 := ha.1.1
        have a1 := ha.1.2
        rw [if_neg c, wp_bind]
        unfold fX11_nextAsked
        refine wp_mono (next_s hW hL hw2 hM ha (w 85).toNat FU 0 (-1) ρ (by omega) (by omega) (by unfold FU; omega) Fr.rf (Or.inl ⟨rfl, fun c hc hc0 => by have := hc.1.1; omega⟩)) (fun q hq => ?_)
        have f1 : Fr [93, 94, 96, 97] σ0 q.2 := hF.tr (hq.1.mo (by decide))
        have hM1 : MM2 w q.2 A H := MM2_fr hM hq.1 (by decide) (by decide)
        rcases hq.2 with ⟨e1, e2⟩ | hN
        · rw [if_pos e1, wp_some]
          refine ⟨f1, A, H, hM1, hD, fun a ha2 hai _ => ?_, hI.2.1, Or.inl rfl⟩
          by_cases e : a = cur
          · rw [e]; exact Or.inr e2
          · exact hI.1 a ha2 hai e
        · have hb := hN.1
          have b0 := hb.1.1
          have b1 := hb.1.2
          have hl := hM.2.1 cur
          have hlt2 : A cur ||| 2 ^ q.1.toNat < 4096 := Nat.or_lt_two_pow (n := 12) hl (Nat.pow_lt_pow_right (by decide) (by omega))
          have hab := LR_ne ha hb
          have hup := bitsA_up h12.2 ha hN
          have hsub : ∀ A' H', StI w A' H' → Term w A' H' → SubA w (askA A cur q.1) A' := fun A' H' x y => ask_sub hD.1 x y (hD.2 A' H' x y) ha hH hN
          have eA : bor (rd q.2 97 cur) (bshl 1 q.1) = ((A cur ||| 2 ^ q.1.toNat : Nat) : Int) := by
            rw [(hM1.1 cur ha.1).2, bor_bit (by omega) (by omega) (by omega) (by omega), Int.toNat_natCast]
          rw [if_neg (by omega), grd_pos (by omega), grd_pos (by omega), eA, wp_bind]
          have hw3 : rd (wr q.2 97 cur ((A cur ||| 2 ^ q.1.toNat : Nat) : Int)) 85 = w := (funext fun j => (rq_c (by decide)).trans (f1 85 j (by decide))).trans hw
          have m96 : ∀ p, isP w p → rd (wr q.2 97 cur ((A cur ||| 2 ^ q.1.toNat : Nat) : Int)) 96 p = H p := fun p hp => (rq_c (by decide)).trans (hM1.1 p hp).1
          have m97 : ∀ p, isP w p → rd (wr q.2 97 cur ((A cur ||| 2 ^ q.1.toNat : Nat) : Int)) 97 p = ((askA A cur q.1 p : Nat) : Int) := fun p hp => by
            unfold askA
            by_cases e : p = cur
            · rw [if_pos e, e, rq_s, bw_id (by omega) (by omega)]
            · rw [if_neg e, rq_i e]
              exact (hM1.1 p hp).2
          refine wp_mono (keeps_m (A := A) (A1 := A) hW hL hw3 m96 hD.1 ha hb) (fun k hk => ?_)
          have f2 : Fr [93, 94, 96, 97] σ0 k.2 := (f1.wr (by decide) : Fr [93, 94, 96, 97] σ0 (wr q.2 97 cur _)).tr (hk.1.mo (by decide))
          have k96 : ∀ p, isP w p → rd k.2 96 p = H p := fun p hp => (hk.1 96 _ (by decide)).trans (m96 p hp)
          have k97 : ∀ p, isP w p → rd k.2 97 p = ((askA A cur q.1 p : Nat) : Int) := fun p hp => (hk.1 97 _ (by decide)).trans (m97 p hp)
          have tmup : ∀ a H', Lp w a → (H a ≠ -1 → H' a ≠ -1) → Tm w A H a → Tm w (askA A cur q.1) H' a := fun a H' hla hh ht => by
            rcases ht with z | z
            · exact Or.inl (hh z)
            · exact Or.inr (fun b x y => askA_up (z b x y))
          rcases hk.2 with ⟨e1, e2, e3⟩ | ⟨e1, e2⟩
          · rw [e1, if_neg n10, grd_pos (by omega), grd_pos (by omega), grd_pos (by omega), k96 q.1 hb.1]
            have hs2 := ask_yes hD.1 ha hH hN e2 e3
            obtain ⟨t1, t2, t3, t4⟩ := tkeH_at hD.1 ha hb
            have hbw : ∀ p, isP w p → bw (tkeH H cur q.1 p) = tkeH H cur q.1 p := fun p hp => by
              unfold tkeH
              by_cases e1 : p = cur
              · rw [e1, upz_s, bw_id (by omega) (by omega)]
              · rw [upz_n e1]
                by_cases e2 : p = q.1
                · rw [e2, upz_s, bw_id (by omega) (by omega)]
                · rw [upz_n e2]
                  by_cases e3 : H q.1 = -1
                  · rw [if_pos e3]; exact hM.2.2 p hp
                  · rw [if_neg e3]
                    by_cases e4 : p = H q.1
                    · rw [e4, upz_s]; rfl
                    · rw [upz_n e4]; exact hM.2.2 p hp
            by_cases c2 : H q.1 = -1
            · rw [if_pos c2, c2]
              refine asksOn_m hW hL hw r n (-1) _ (askA A cur q.1) (tkeH H cur q.1) (by omega) (by omega) ((f2.wr (by decide)).wr (by decide)) ⟨fun p hp => ⟨?_, ?_⟩, askA_lt hM.2.1 (by omega), hbw⟩ ⟨hs2, hsub⟩ ⟨fun a hla hai _ => ?_, fun a hla hai => ?_, Or.inl rfl⟩
              · rw [wr_row, wr_row, bw_id (z := cur) (by omega) (by omega), bw_id (z := q.1) (by omega) (by omega)]
                unfold tkeH
                rw [if_pos c2]
                show upz (upz _ _ _) _ _ p = upz (upz _ _ _) _ _ p
                unfold upz
                rw [k96 p hp]
              · rw [rq_c (by decide), rq_c (by decide)]; exact k97 p hp
              · by_cases e : a = cur
                · rw [e]; exact Or.inl (by rw [t1]; omega)
                · refine tmup a _ hla (fun hz => ?_) (hI.1 a hla hai e)
                  rw [t4 a e (LR_ne hla hb) (Or.inl c2)]
                  exact hz
              · rw [t4 a (by omega) (LR_ne hla hb) (Or.inl c2)]
                exact hI.2.1 a hla hai
            · obtain ⟨ho, ho2⟩ := (hD.1.2.1 q.1 hb).resolve_left c2
              have o0 := ho.1.1
              have o1 := ho.1.2
              have hoc : H q.1 ≠ cur := fun z => by rw [z, hH] at ho2; omega
              have hoi : H q.1 < i := by
                by_cases z : H q.1 < i
                · exact z
                · have := hI.2.1 _ ho (by omega)
                  rw [ho2] at this
                  omega
              rw [if_neg c2, grd_pos (by omega)]
              refine asksOn_m hW hL hw r n (H q.1) _ (askA A cur q.1) (tkeH H cur q.1) (by omega) (by omega) (((f2.wr (by decide)).wr (by decide)).wr (by decide)) ⟨fun p hp => ⟨?_, ?_⟩, askA_lt hM.2.1 (by omega), hbw⟩ ⟨hs2, hsub⟩ ⟨fun a hla hai hne => ?_, fun a hla hai => ?_, Or.inr ⟨ho, hoi, t3 c2 hoc⟩⟩
              · rw [wr_row, wr_row, wr_row, bw_id (z := cur) (by omega) (by omega), bw_id (z := q.1) (by omega) (by omega)]
                have hob : H q.1 ≠ q.1 := LR_ne ho hb
                have hne2 : q.1 ≠ H q.1 := Ne.symm hob
                have hne3 : cur ≠ H q.1 := Ne.symm hoc
                show upz (upz (upz _ _ _) _ _) _ _ p = _
                by_cases e1 : p = H q.1
                · rw [e1, upz_s, t3 c2 hoc]; rfl
                · rw [upz_n e1]
                  by_cases e2 : p = cur
                  · rw [e2, upz_s, t1]
                  · rw [upz_n e2]
                    by_cases e3 : p = q.1
                    · rw [e3, upz_s, t2]
                    · rw [upz_n e3, t4 p e2 e3 (Or.inr e1)]
                      exact k96 p hp
              · rw [rq_c (by decide), rq_c (by decide), rq_c (by decide)]; exact k97 p hp
              · by_cases e : a = cur
                · rw [e]; exact Or.inl (by rw [t1]; omega)
                · refine tmup a _ hla (fun hz => ?_) (hI.1 a hla hai e)
                  rw [t4 a e (LR_ne hla hb) (Or.inr hne)]
                  exact hz
              · rw [t4 a (by omega) (LR_ne hla hb) (Or.inr (by omega))]
                exact hI.2.1 a hla hai
          · rw [e1, if_pos p00]
            refine asksOn_m hW hL hw r n cur k.2 (askA A cur q.1) H (by omega) (by omega) f2 ⟨fun p hp => ⟨k96 p hp, k97 p hp⟩, askA_lt hM.2.1 (by omega), hM.2.2⟩ ⟨ask_no hD.1 ha hH hN e2, hsub⟩ ⟨fun a hla hai hne => tmup a H hla (fun z => z) (hI.1 a hla hai hne), hI.2.1, hI.2.2⟩
theorem stableL_m {w : Int → Int} {g : Nat → Int → Int} {σ0 : Sg} {x1 : Int} (hW : Wf w) (hL : LR w g) (hw : rd σ0 85 = w) (hx : isP w x1) : ∀ (r n : Nat) (i : Int) (ρ : Sg) (A : Int → Nat) (H : Int → Int), i + r = w 85 → 0 ≤ i → r < n → Fr [93, 94, 96, 97] σ0 ρ → MM2 w ρ A H → Good w A H → Dn w i (-1) A H → wp (fX11_stable_L48 x1 n i ρ) (fun q => Fr [93, 94, 96, 97] σ0 q.2 ∧ ∃ A2 H2, q.1 = H2 x1 ∧ Good w A2 H2 ∧ Term w A2 H2)
  | 0, n, i, ρ, A, H, hi, i0, hn, hF, hM, hD, hI => by
    have h12 := hW.1.2.2.2.2.2.1
    have x0 := hx.1
    have x2 := hx.2
    cases n with
    | zero => omega
    | succ n =>
      rw [fX11_stable_L48, hF 85 85 (by decide), hw, if_neg (by omega), grd_pos (by omega), wp_some]
      exact ⟨hF, A, H, (hM.1 x1 hx).1, hD, fun a ha => hI.1 a ha (by have := ha.1.2; omega) (by have := ha.1.1; omega)⟩
  | r + 1, n, i, ρ, A, H, hi, i0, hn, hF, hM, hD, hI => by
    have h12 := hW.1.2.2.2.2.2.1
    have hw2 : rd ρ 85 = w := (funext fun j => hF 85 j (by decide)).trans hw
    have hPi : isP w i := ⟨i0, by omega⟩
    cases n with
    | zero => omega
    | succ n =>
      have stay : ¬ Lp w i → wp (fX11_stable_L48 x1 n (i + 1) ρ) (fun q => Fr [93, 94, 96, 97] σ0 q.2 ∧ ∃ A2 H2, q.1 = H2 x1 ∧ Good w A2 H2 ∧ Term w A2 H2) := by
        intro hno
        refine stableL_m hW hL hw hx r n (i + 1) ρ A H (by omega) (by omega) (by omega) hF hM hD ⟨fun a ha hai hne => ?_, fun a ha hai => hI.2.1 a ha (by omega), Or.inl rfl⟩
        by_cases e : a = i
        · rw [e] at ha; exact absurd ha hno
        · exact hI.1 a ha (by omega) hne
      rw [fX11_stable_L48, hw2, if_pos (by omega), bw_id (z := 91 + i) (by omega) (by omega), grd_pos (by omega), bw_id (z := i + 1) (by omega) (by omega), isFree_m hw2 (p := i) (by omega), Option.bind_some]
      by_cases c1 : w (91 + i) = 0
      · rw [if_pos c1]
        by_cases c2 : w (68 + i) = -1
        · have ha : Lp w i := ⟨hPi, c2, c1⟩
          rw [if_pos c2, if_neg n10, wp_bind]
          unfold fX11_asksOn
          have hI2 : Dn w (i + 1) i A H := ⟨fun a hla hai hne => hI.1 a hla (by omega) (by have := hla.1.1; omega), fun a hla hai => hI.2.1 a hla (by omega), Or.inr ⟨ha, by omega, hI.2.1 i ha (Int.le_refl _)⟩⟩
          have hbr := bitsA_r A
          refine wp_mono (asksOn_m hW hL hw 145 FU i ρ A H (by omega) (by unfold FU; omega) hF hM hD hI2) (fun τ hτ => ?_)
          obtain ⟨f1, A2, H2, m2, d2, i2⟩ := hτ
          exact stableL_m hW hL hw hx r n (i + 1) τ A2 H2 (by omega) (by omega) (by omega) f1 m2 d2 i2
        · rw [if_neg c2, if_pos p00]
          exact stay (fun z => c2 z.2.1)
      · rw [if_neg c1]
        exact stay (fun z => c1 z.2.2)
theorem stable_m {w : Int → Int} {g : Nat → Int → Int} {σ : Sg} {x1 : Int} (hW : Wf w) (hL : LR w g) (hw : rd σ 85 = w) (hx : isP w x1) (hf : w (68 + x1) = -1) : wp (fX11_stable x1 σ) (fun q => Fr [93, 94, 96, 97] σ q.2 ∧ ∃ A2 H2, q.1 = H2 x1 ∧ Good w A2 H2 ∧ Term w A2 H2) := by
  have h12 := hW.1.2.2.2.2.2.1
  have x0 := hx.1
  have x2 := hx.2
  have go : ∀ (r n : Nat) (i : Int) (ρ : Sg), i + r = 12 → 0 ≤ i → r < n → Fr [96, 97] σ ρ → (∀ j, 0 ≤ j → j < i → rd ρ 96 j = -1 ∧ rd ρ 97 j = 0) → wp (fX11_stable_L20 (fun s6 => fX11_stable_L48 x1 FU 0 s6) x1 n i ρ) (fun q => Fr [93, 94, 96, 97] σ q.2 ∧ ∃ A2 H2, q.1 = H2 x1 ∧ Good w A2 H2 ∧ Term w A2 H2) := by
    intro r
    induction r with
    | zero =>
      intro n i ρ hi i0 hn hG hz
      cases n with
      | zero => omega
      | succ n =>
        rw [fX11_stable_L20, if_neg (by omega)]
        refine wp_mono (stableL_m hW hL ((funext fun j => hG 85 j (by decide)).trans hw) hx (w 85).toNat FU 0 ρ (fun _ => 0) (fun _ => -1) (by omega) (by omega) (by unfold FU; omega) Fr.rf ⟨fun p hp => hz p hp.1 (by have := hp.2; omega), fun _ => (by decide : (0 : Nat) < 4096), fun _ _ => rfl⟩ Good_0 ⟨fun a ha hai => by have := ha.1.1; omega, fun _ _ _ => rfl, Or.inl rfl⟩) (fun q hq => ⟨(hG.mo (by decide)).tr hq.1, hq.2⟩)
    | succ r ih =>
      intro n i ρ hi i0 hn hG hz
      cases n with
      | zero => omega
      | succ n =>
        rw [fX11_stable_L20, if_pos (by omega), grd_pos (by omega), grd_pos (by omega), bw_id (z := i + 1) (by omega) (by omega)]
        refine ih n (i + 1) _ (by omega) (by omega) (by omega) ((hG.wr (by decide)).wr (by decide)) (fun j j0 j1 => ?_)
        by_cases e : j = i
        · exact ⟨by rw [e, rq_c (by decide), rq_s]; rfl, by rw [e, rq_s]; rfl⟩
        · obtain ⟨y1, y2⟩ := hz j j0 (by omega)
          exact ⟨by rw [rq_c (by decide), rq_i e]; exact y1, by rw [rq_i e, rq_c (by decide)]; exact y2⟩
  unfold fX11_stable
  rw [isPerson_m hW hw, if_pos hx, if_neg n10, isFree_m hw (p := x1) (by omega), if_pos hf, Option.bind_some, if_neg n10]
  exact go 12 FU 0 σ (by omega) (by omega) (by unfold FU; omega) Fr.rf (fun j j0 j1 => by omega)
theorem op_stable {has : Bool} {N : Nat} (hN : N ≤ 511) (x1 : Int) (h1 : bw x1 = x1) : OpE has N (fX10_stable x1) (fX11_stable x1) := by
  intro σ h
  have hC := h.1
  have hW := hC.1
  have h12 := hW.1.2.2.2.2.2.1
  have hL := hC.2.2.2.2.2.2
  by_cases c : isP (rd σ 85) x1 ∧ rd σ 85 (68 + x1) = -1
  · have x0 := c.1.1
    have x2 := c.1.2
    show wp (fX10_stable x1 σ) _
    unfold fX10_stable
    rw [show fX1_isFree 4 x1 σ = _ from isFree_c hC x1, Option.bind_some, if_pos c, if_neg n10, wp_bind]
    refine wp_mono (settle_c hC) (fun τ hτ => ?_)
    obtain ⟨f1, A, H, m1, d1, t1⟩ := hτ
    have hk : Keep σ τ := Keep.fr f1 (by decide) (by decide)
    have e85 : rd τ 85 = rd σ 85 := hk.1 85 (by decide)
    rw [grd_pos (by omega), wp_some]
    refine wp_mono (stable_m hW hL e85 c.1 c.2) (fun q hq => ?_)
    obtain ⟨f2, A2, H2, e1, d2, t2⟩ := hq
    refine ⟨?_, h.keep (hk.tr (Keep.fr f2 (by decide) (by decide)))⟩
    have se := same_end d1.1 d2.1 (d1.2 A2 H2 d2.1 t2) (d2.2 A H d1.1 t1)
    show rd τ 66 x1 = q.1
    rw [(m1.1 x1 c.1).1, e1]
    rcases (hW.2.2.1 x1 c.1).1 with s | s
    · exact se.2 x1 ⟨c.1, c.2, s⟩
    · exact se.1 x1 ⟨c.1, c.2, s⟩
  · refine opE_no h (v := -1) ?_ ?_
    · unfold fX10_stable
      rw [show fX1_isFree 4 x1 σ = _ from isFree_c hC x1, Option.bind_some, if_neg c, if_pos p00]
    · unfold fX11_stable
      rw [isPerson_m hW rfl]
      by_cases c1 : isP (rd σ 85) x1
      · have x0 := c1.1
        have x2 := c1.2
        rw [if_pos c1, if_neg n10, isFree_m rfl (p := x1) (by omega), if_neg (fun z => c ⟨c1, z⟩), Option.bind_some, if_pos p00]
      · rw [if_neg c1, if_pos p00]
