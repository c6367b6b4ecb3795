/-! THE LAW as one list of steps, run by both sides -/
theorem grd_pos {α : Type} {c : Prop} [Decidable c] {r : Option α} (h : c) : grd c r = r := if_pos h
abbrev isF (w : Int → Int) (c : Int) : Prop := 0 ≤ c ∧ c < 56 ∧ c % 8 < w 80 ∧ c / 8 < w 81
abbrev isP (w : Int → Int) (p : Int) : Prop := 0 ≤ p ∧ p < w 85
def ev1 (fc : Int → Int) (s : Int × Int) (st : List Int) : List Int :=
  if s.1 = 0 then s.2 :: st
  else if s.1 < 23 then fc s.1 :: st
  else match st with
    | [] => []
    | a :: t => if s.1 = 26 then tdv a s.2 :: t else if s.1 = 30 then bw (1 - a) :: t else
      match t with
      | [] => [a]
      | b :: u => fX11_both s.1 b a :: u
def evs (fc : Int → Int) : List (Int × Int) → List Int → List Int
  | [], st => st
  | s :: t, st => evs fc t (ev1 fc s st)
def ty1 (s : Int × Int) (ts : List Bool) : Option (List Bool) :=
  if s.1 = 0 then (if 0 ≤ s.2 ∧ s.2 ≤ 9999 ∧ ts.length < 47 then some (false :: ts) else none)
  else if 1 ≤ s.1 ∧ s.1 ≤ 10 then (if ts.length < 47 then some (false :: ts) else none)
  else match ts with
    | [] => none
    | a :: t => if s.1 = 26 then (if 1 ≤ s.2 ∧ s.2 ≤ 9999 then some (false :: t) else none)
      else if s.1 = 30 then (if a = true then some (true :: t) else none)
      else match t with
        | [] => none
        | b :: u => if 23 ≤ s.1 ∧ s.1 ≤ 25 then some (false :: u)
          else if 27 ≤ s.1 ∧ s.1 ≤ 29 then some (true :: u)
          else if 31 ≤ s.1 ∧ s.1 ≤ 32 ∧ a = true ∧ b = true then some (true :: u) else none
def tys : List (Int × Int) → List Bool → Option (List Bool)
  | [], ts => some ts
  | s :: t, ts => (ty1 s ts).bind (tys t)
def TS : List Int → List Bool → Prop
  | [], [] => True
  | v :: s, t :: ts => bw v = v ∧ (t = true → v = 0 ∨ v = 1) ∧ TS s ts
  | _, _ => False
theorem TS_len : ∀ {st : List Int} {ts : List Bool}, TS st ts → st.length = ts.length
  | [], [], _ => rfl
  | _ :: s, _ :: ts, h => by rw [List.length_cons, List.length_cons, TS_len (st := s) (ts := ts) h.2.2]
  | [], _ :: _, h => h.elim
  | _ :: _, [], h => h.elim
theorem both_nr (k x y : Int) : bw (fX11_both k x y) = fX11_both k x y := by
  unfold fX11_both
  split
  · exact bw_bw _
  split
  · exact bw_bw _
  split
  · exact bw_bw _
  split
  · exact bor_nr _ _
  split
  · split <;> rfl
  split
  · split <;> rfl
  split
  · split <;> rfl
  split
  · exact bor_nr _ _
  split
  · exact band_nr _ _
  · exact bor_nr _ _
theorem both_01 {k x y : Int} (h : 27 ≤ k ∧ k ≤ 29) : fX11_both k x y = 0 ∨ fX11_both k x y = 1 := by
  unfold fX11_both
  rw [if_neg (by omega), if_neg (by omega), if_neg (by omega), if_neg (by omega)]
  repeat' split
  all_goals first | exact Or.inl rfl | exact Or.inr rfl | omega
theorem both_02 {k x y : Int} (h : 31 ≤ k ∧ k ≤ 32) (hx : x = 0 ∨ x = 1) (hy : y = 0 ∨ y = 1) : fX11_both k x y = 0 ∨ fX11_both k x y = 1 := by
  unfold fX11_both
  rw [if_neg (by omega), if_neg (by omega), if_neg (by omega), if_neg (by omega), if_neg (by omega), if_neg (by omega), if_neg (by omega), if_neg (by omega)]
  split
  · exact band_01 hx hy
  · exact bor_01 hx hy
/-- what a step does to the types -/
theorem ty1_cases {s : Int × Int} {ts ts2 : List Bool} (h : ty1 s ts = some ts2) :
    (s.1 = 0 ∧ 0 ≤ s.2 ∧ s.2 ≤ 9999 ∧ ts.length < 47 ∧ ts2 = false :: ts) ∨ ((1 ≤ s.1 ∧ s.1 ≤ 10) ∧ ts.length < 47 ∧ ts2 = false :: ts) ∨
    (∃ a t, ts = a :: t ∧ ((s.1 = 26 ∧ 1 ≤ s.2 ∧ s.2 ≤ 9999 ∧ ts2 = false :: t) ∨ (s.1 = 30 ∧ a = true ∧ ts2 = true :: t) ∨
      ∃ b u, t = b :: u ∧ ((23 ≤ s.1 ∧ s.1 ≤ 25 ∧ ts2 = false :: u) ∨ (27 ≤ s.1 ∧ s.1 ≤ 29 ∧ ts2 = true :: u) ∨ (31 ≤ s.1 ∧ s.1 ≤ 32 ∧ a = true ∧ b = true ∧ ts2 = true :: u)))) := by
  unfold ty1 at h
  split at h
  · next h0 =>
    split at h
    · next h1 => cases h; exact Or.inl ⟨h0, h1.1, h1.2.1, h1.2.2, rfl⟩
    · cases h
  · next h0 =>
    split at h
    · next h1 =>
      split at h
      · next h2 => cases h; exact Or.inr (Or.inl ⟨h1, h2, rfl⟩)
      · cases h
    · next h1 =>
      refine Or.inr (Or.inr ?_)
      cases ts with
      | nil => cases h
      | cons a t =>
        refine ⟨a, t, rfl, ?_⟩
        simp only at h
        split at h
        · next h2 =>
          split at h
          · next h3 => cases h; exact Or.inl ⟨h2, h3.1, h3.2, rfl⟩
          · cases h
        · next h2 =>
          split at h
          · next h3 =>
            split at h
            · next h4 => cases h; exact Or.inr (Or.inl ⟨h3, h4, rfl⟩)
            · cases h
          · next h3 =>
            refine Or.inr (Or.inr ?_)
            cases t with
            | nil => cases h
            | cons b u =>
              refine ⟨b, u, rfl, ?_⟩
              simp only at h
              split at h
              · next h4 => cases h; exact Or.inl ⟨h4.1, h4.2, rfl⟩
              · split at h
                · next h5 => cases h; exact Or.inr (Or.inl ⟨h5.1, h5.2, rfl⟩)
                · split at h
                  · next h6 => cases h; exact Or.inr (Or.inr ⟨h6.1, h6.2.1, h6.2.2.1, h6.2.2.2, rfl⟩)
                  · cases h
theorem ty1_len {s : Int × Int} {ts ts2 : List Bool} (h : ty1 s ts = some ts2) (k : ts.length ≤ 47) : ts2.length ≤ 47 := by
  rcases ty1_cases h with ⟨-, -, -, g, rfl⟩ | ⟨-, g, rfl⟩ | ⟨a, t, rfl, g⟩
  · rw [List.length_cons]; omega
  · rw [List.length_cons]; omega
  · rw [List.length_cons] at k
    rcases g with ⟨-, -, -, rfl⟩ | ⟨-, -, rfl⟩ | ⟨b, u, rfl, g4⟩
    · rw [List.length_cons]; omega
    · rw [List.length_cons]; omega
    · rw [List.length_cons] at k
      rcases g4 with ⟨-, -, rfl⟩ | ⟨-, -, rfl⟩ | ⟨-, -, -, -, rfl⟩ <;> (rw [List.length_cons]; omega)
def CS (g : Int → Int) (to : Int) : List (Int × Int) → Int → Prop
  | [], i => i = to
  | s :: t, i => if s.1 = 26 then g i = s.2 ∧ g (i + 1) = -58 ∧ CS g to t (i + 2) else g i = (if s.1 = 0 then s.2 else if s.1 < 23 then -s.1 else if s.1 = 23 then -54 else if s.1 = 24 then -56 else if s.1 = 25 then -53 else if s.1 = 27 then -71 else if s.1 = 28 then -72 else if s.1 = 29 then -73 else if s.1 = 30 then -20 else if s.1 = 31 then -19 else -18) ∧ CS g to t (i + 1)
def MS (w : Int → Int) (to : Int) : List (Int × Int) → Int → Prop
  | [], i => i = to
  | s :: t, i => w (976 + 2 * i) = s.1 ∧ w (977 + 2 * i) = s.2 ∧ MS w to t (i + 1)
def stN (w : Int → Int) : Nat → Int → List (Int × Int)
  | 0, _ => []
  | n + 1, a => (w (976 + 2 * a), w (977 + 2 * a)) :: stN w n (a + 1)
def stW (w : Int → Int) (a b : Int) : List (Int × Int) := stN w (b - a).toNat a
theorem stN_MS {w : Int → Int} : ∀ (n : Nat) (a b : Int), a + n = b → MS w b (stN w n a) a
  | 0, a, b, h => by show a = b; omega
  | n + 1, a, b, h => ⟨rfl, rfl, stN_MS n (a + 1) b (by omega)⟩
theorem stW_MS {w : Int → Int} {a b : Int} (h : a ≤ b) : MS w b (stW w a b) a := stN_MS _ _ _ (by omega)
theorem CS_le {g : Int → Int} {to : Int} : ∀ (ls : List (Int × Int)) (i : Int), CS g to ls i → i + ls.length ≤ to
  | [], i, h => by have h : i = to := h; simp; omega
  | s :: t, i, h => by
    rw [CS] at h
    rw [List.length_cons]
    split at h
    · have := CS_le t _ h.2.2; omega
    · have := CS_le t _ h.2; omega
theorem MS_le {g : Int → Int} {to : Int} : ∀ (ls : List (Int × Int)) (i : Int), MS g to ls i → i + ls.length = to
  | [], i, h => by have h : i = to := h; simp; omega
  | s :: t, i, h => by
    have := MS_le t _ h.2.2
    rw [List.length_cons]; omega
def SK (g : Int → Int) : List Int → Prop
  | [] => True
  | v :: t => g (t.length : Int) = v ∧ SK g t
theorem SK_wr {σ : Sg} {c : Nat} {i z : Int} : ∀ (t : List Int), SK (rd σ c) t → (t.length : Int) ≤ i → SK (rd (wr σ c i z) c) t
  | [], _, _ => trivial
  | v :: t, h, hi => by
    rw [List.length_cons] at hi
    exact ⟨(rq_i (by omega)).trans h.1, SK_wr t h.2 (by omega)⟩
section RunC
variable {c : Nat} {k : Int → Sg → Option (Int × Sg)} {to : Int} {n : Nat} {top i v : Int} {σ : Sg}
theorem rl_push (h1 : i < to) (h2 : i < 400) (h0 : 0 ≤ i) (t0 : 0 ≤ top) (t1 : top < 48) (hv : rd σ (c + 1) i = v) (hv1 : -11 < v) : fX2_run_L9 c k to (n + 1) top i σ = fX2_run_L9 c k to n (top + 1) (i + 1) (wr σ (c + 6) top (if v < 0 then rd σ (c + 5) (-1 - v) else v)) := by
  rw [fX2_run_L9, if_pos h1, if_pos h2, grd_pos ⟨h0, h2⟩, hv, if_pos hv1, if_pos t1, bw_id (z := top + 1) (by omega) (by omega), bw_id (z := i + 1) (by omega) (by omega)]
  split
  · rw [bw_id (z := -1 - v) (by omega) (by omega), grd_pos ⟨by omega, by omega⟩, grd_pos ⟨t0, t1⟩]
  · rw [grd_pos ⟨t0, t1⟩]
theorem rl_not (h1 : i < to) (h2 : i < 400) (h0 : 0 ≤ i) (t0 : 0 ≤ top) (t1 : top < 48) (hv : rd σ (c + 1) i = -20) : fX2_run_L9 c k to (n + 1) (top + 1) i σ = fX2_run_L9 c k to n (top + 1) (i + 1) (wr σ (c + 6) top (bw (1 - rd σ (c + 6) top))) := by
  rw [fX2_run_L9, if_pos h1, if_pos h2, grd_pos ⟨h0, h2⟩, hv, if_neg (by decide), if_pos rfl, if_pos (by omega), bw_id (z := top + 1 - 1) (by omega) (by omega), bw_id (z := i + 1) (by omega) (by omega), show top + 1 - 1 = top by omega, grd_pos ⟨t0, t1⟩, grd_pos ⟨t0, t1⟩]
theorem rl_join {r : Int} (h1 : i < to) (h2 : i < 400) (h0 : 0 ≤ i) (t0 : 0 ≤ top) (t1 : top < 47) (hv : rd σ (c + 1) i = v) (hv1 : v ≤ -18) (hv3 : -100 < v) (hv2 : v ≠ -20) (hr : fX2_joined (-11 - v) (rd σ (c + 6) top) (rd σ (c + 6) (top + 1)) = some r) : fX2_run_L9 c k to (n + 1) (top + 2) i σ = fX2_run_L9 c k to n (top + 1) (i + 1) (wr σ (c + 6) top r) := by
  rw [fX2_run_L9, if_pos h1, if_pos h2, grd_pos ⟨h0, h2⟩, hv, if_neg (by omega), if_neg hv2, if_pos (by omega), bw_id (z := top + 2 + -1) (by omega) (by omega), bw_id (z := i + 1) (by omega) (by omega), show top + 2 + -1 = top + 1 by omega, bw_id (z := top + 1 - 1) (by omega) (by omega), show top + 1 - 1 = top by omega, grd_pos ⟨t0, by omega⟩, grd_pos ⟨by omega, by omega⟩, bw_id (z := -11 - v) (by omega) (by omega), hr]
  show grd _ _ = _
  rw [grd_pos ⟨t0, by omega⟩]
end RunC
theorem join_both {s : Int} {a b : Int} (h : (23 ≤ s ∧ s ≤ 25) ∨ (27 ≤ s ∧ s ≤ 29) ∨ (31 ≤ s ∧ s ≤ 32)) : fX2_joined (-11 - (if s = 0 then 0 else if s < 23 then -s else if s = 23 then -54 else if s = 24 then -56 else if s = 25 then -53 else if s = 27 then -71 else if s = 28 then -72 else if s = 29 then -73 else if s = 30 then -20 else if s = 31 then -19 else -18)) a b = some (fX11_both s a b) := by
  have : s = 23 ∨ s = 24 ∨ s = 25 ∨ s = 27 ∨ s = 28 ∨ s = 29 ∨ s = 31 ∨ s = 32 := by omega
  rcases this with rfl | rfl | rfl | rfl | rfl | rfl | rfl | rfl <;> (simp [fX2_joined, fX11_both]; try (split <;> rfl))
theorem ev1_num {fc : Int → Int} {s : Int × Int} {st : List Int} (h : s.1 = 0) : ev1 fc s st = s.2 :: st := by unfold ev1; rw [if_pos h]
theorem ev1_nam {fc : Int → Int} {s : Int × Int} {st : List Int} (h : 1 ≤ s.1 ∧ s.1 ≤ 10) : ev1 fc s st = fc s.1 :: st := by unfold ev1; rw [if_neg (by omega), if_pos (by omega)]
theorem ev1_part {fc : Int → Int} {s : Int × Int} {a : Int} {t : List Int} (h : s.1 = 26) : ev1 fc s (a :: t) = tdv a s.2 :: t := by unfold ev1; rw [if_neg (by omega), if_neg (by omega)]; simp only; rw [if_pos h]
theorem ev1_not {fc : Int → Int} {s : Int × Int} {a : Int} {t : List Int} (h : s.1 = 30) : ev1 fc s (a :: t) = bw (1 - a) :: t := by unfold ev1; rw [if_neg (by omega), if_neg (by omega)]; simp only; rw [if_neg (by omega), if_pos h]
theorem ev1_two {fc : Int → Int} {s : Int × Int} {a b : Int} {u : List Int} (h : (23 ≤ s.1 ∧ s.1 ≤ 25) ∨ (27 ≤ s.1 ∧ s.1 ≤ 29) ∨ (31 ≤ s.1 ∧ s.1 ≤ 32)) : ev1 fc s (a :: b :: u) = fX11_both s.1 b a :: u := by unfold ev1; rw [if_neg (by omega), if_neg (by omega)]; simp only; rw [if_neg (by omega), if_neg (by omega)]
theorem ev1_ok {fc : Int → Int} (hf : ∀ i, bw (fc i) = fc i) {s : Int × Int} {ts ts2 : List Bool} {st : List Int} (h : ty1 s ts = some ts2) (k : TS st ts) : TS (ev1 fc s st) ts2 := by
  rcases ty1_cases h with ⟨h0, h1, h2, -, rfl⟩ | ⟨h0, -, rfl⟩ | ⟨a, t, rfl, h3⟩
  · rw [ev1_num h0]; exact ⟨bw_id (by omega) (by omega), fun z => (by cases z), k⟩
  · rw [ev1_nam h0]; exact ⟨hf _, fun z => (by cases z), k⟩
  · cases st with
    | nil => exact k.elim
    | cons x xs =>
      obtain ⟨k1, k2, k3⟩ := k
      rcases h3 with ⟨h0, -, -, rfl⟩ | ⟨h0, rfl, rfl⟩ | ⟨b, u, rfl, h4⟩
      · rw [ev1_part h0]; exact ⟨tdv_nr _ _, fun z => (by cases z), k3⟩
      · rw [ev1_not h0]
        refine ⟨bw_bw _, fun _ => ?_, k3⟩
        rcases k2 rfl with rfl | rfl
        · exact Or.inr rfl
        · exact Or.inl rfl
      · cases xs with
        | nil => exact k3.elim
        | cons y ys =>
          obtain ⟨k4, k5, k6⟩ := k3
          rcases h4 with ⟨h5, h6, rfl⟩ | ⟨h5, h6, rfl⟩ | ⟨h5, h6, rfl, rfl, rfl⟩
          · rw [ev1_two (Or.inl ⟨h5, h6⟩)]; exact ⟨both_nr _ _ _, fun z => (by cases z), k6⟩
          · rw [ev1_two (Or.inr (Or.inl ⟨h5, h6⟩))]; exact ⟨both_nr _ _ _, fun _ => both_01 ⟨h5, h6⟩, k6⟩
          · rw [ev1_two (Or.inr (Or.inr ⟨h5, h6⟩))]; exact ⟨both_nr _ _ _, fun _ => both_02 ⟨h5, h6⟩ (k5 rfl) (k2 rfl), k6⟩
theorem evs_ok {fc : Int → Int} (hf : ∀ i, bw (fc i) = fc i) : ∀ (ls : List (Int × Int)) {ts ts2 : List Bool} {st : List Int}, tys ls ts = some ts2 → TS st ts → TS (evs fc ls st) ts2
  | [], ts, ts2, st, h, k => by cases h; exact k
  | s :: t, ts, ts2, st, h, k => by
    rw [tys] at h
    cases h1 : ty1 s ts with
    | none => rw [h1] at h; cases h
    | some t1 => rw [h1] at h; exact evs_ok hf t h (ev1_ok hf h1 k)
theorem SK_push {σ : Sg} {c : Nat} {z : Int} {t : List Int} (h : SK (rd σ c) t) (hz : bw z = z) : SK (rd (wr σ c (t.length : Int) z) c) (z :: t) := ⟨rq_s.trans hz, SK_wr t h (Int.le_refl _)⟩
/-- the class's run -/
theorem run_c {c : Nat} {k : Int → Sg → Option (Int × Sg)} {to : Int} (hto : to ≤ 400) {fc : Int → Int} (hf : ∀ i, bw (fc i) = fc i) {Q : Int × Sg → Prop} : ∀ (ls : List (Int × Int)) (n : Nat) (i : Int) (σ : Sg) (st : List Int) (ts ts2 : List Bool), CS (rd σ (c + 1)) to ls i → 0 ≤ i → (to - i).toNat < n → SK (rd σ (c + 6)) st → TS st ts → ts.length ≤ 47 → tys ls ts = some ts2 → (∀ j : Int, 0 ≤ j → j < 10 → rd σ (c + 5) j = fc (j + 1)) → (∀ τ, Fr [c + 6] σ τ → SK (rd τ (c + 6)) (evs fc ls st) → wp (k ((evs fc ls st).length : Int) τ) Q) → wp (fX2_run_L9 c k to n (st.length : Int) i σ) Q
  | [], n, i, σ, st, ts, ts2, hC, h0, hn, hS, hT, hb, hy, hF, hk => by
    have hC : i = to := hC
    cases n with
    | zero => omega
    | succ n =>
      rw [fX2_run_L9, if_neg (by omega)]
      exact hk σ Fr.rf hS
  | s :: t, n, i, σ, st, ts, ts2, hC, h0, hn, hS, hT, hb, hy, hF, hk => by
    have hle := CS_le _ _ hC
    rw [List.length_cons] at hle
    rw [tys] at hy
    have hlen := TS_len hT
    have go : ∀ (m : Nat) (j : Int) (z : Int) (u : List Int) (t1 : List Bool), ty1 s ts = some t1 → ev1 fc s st = z :: u → CS (rd σ (c + 1)) to t j → 0 ≤ j → (to - j).toNat < m → SK (rd σ (c + 6)) u → bw z = z → ∀ τ, Fr [c + 6] σ τ → SK (rd τ (c + 6)) u → wp (fX2_run_L9 c k to m ((u.length : Int) + 1) j (wr τ (c + 6) (u.length : Int) z)) Q := by
      intro m j z u t1 ht1 he hCj hj hm hSu hz τ hFr hSt
      have hFr2 : Fr [c + 6] σ (wr τ (c + 6) (u.length : Int) z) := hFr.wr (List.mem_singleton.mpr rfl)
      rw [ht1] at hy
      have e5 : ∀ j : Int, rd (wr τ (c + 6) (u.length : Int) z) (c + 5) j = rd σ (c + 5) j := fun j => hFr2 _ _ (by simp)
      have e1 : rd (wr τ (c + 6) (u.length : Int) z) (c + 1) = rd σ (c + 1) := funext fun j => hFr2 _ _ (by simp)
      have := run_c hto hf (Q := Q) t m j (wr τ (c + 6) (u.length : Int) z) (z :: u) t1 ts2 (by rw [e1]; exact hCj) hj hm (SK_push hSt hz) (by rw [← he]; exact ev1_ok hf ht1 hT) (ty1_len ht1 hb) hy (fun j h1 h2 => (e5 j).trans (hF j h1 h2)) (fun ρ h1 h2 => by
        have := hk ρ (hFr2.tr h1)
        rw [evs, he] at this
        exact this h2)
      rw [List.length_cons] at this
      exact_mod_cast this
    cases h1 : ty1 s ts with
    | none => rw [h1] at hy; cases hy
    | some t1 =>
      rw [CS] at hC
      rcases ty1_cases h1 with ⟨g0, g1, g2, g3, rfl⟩ | ⟨g0, g3, rfl⟩ | ⟨a, tb, rfl, g⟩
      · rw [if_neg (by omega), if_pos g0] at hC
        cases n with
        | zero => omega
        | succ n =>
          rw [rl_push (by omega) (by omega) h0 (by omega) (by omega) hC.1 (by omega), if_neg (by omega)]
          exact go n (i + 1) s.2 st _ h1 (ev1_num g0) hC.2 (by omega) (by omega) hS (bw_id (by omega) (by omega)) σ Fr.rf hS
      · rw [if_neg (by omega), if_neg (by omega), if_pos (by omega)] at hC
        cases n with
        | zero => omega
        | succ n =>
          rw [rl_push (by omega) (by omega) h0 (by omega) (by omega) hC.1 (by omega), if_pos (by omega), show -1 - -s.1 = s.1 - 1 by omega, hF _ (by omega) (by omega), show s.1 - 1 + 1 = s.1 by omega]
          exact go n (i + 1) (fc s.1) st _ h1 (ev1_nam g0) hC.2 (by omega) (by omega) hS (hf _) σ Fr.rf hS
      · cases st with
        | nil => exact hT.elim
        | cons x xs =>
          rw [List.length_cons, List.length_cons] at hlen
          rw [List.length_cons] at hb
          obtain ⟨q1, q2, q3⟩ := hT
          obtain ⟨r1, r2⟩ := hS
          have hT : TS (x :: xs) (a :: tb) := ⟨q1, q2, q3⟩
          rw [List.length_cons, show ((xs.length + 1 : Nat) : Int) = (xs.length : Int) + 1 by omega]
          rcases g with ⟨g0, g1, g2, rfl⟩ | ⟨g0, rfl, rfl⟩ | ⟨b, u, rfl, g4⟩
          · rw [if_pos g0] at hC
            cases n with
            | zero => omega
            | succ n =>
              cases n with
              | zero => have := CS_le _ _ hC.2.2; omega
              | succ n =>
                have hle2 := CS_le _ _ hC.2.2
                rw [rl_push (by omega) (by omega) h0 (by omega) (by omega) hC.1 (by omega), if_neg (by omega), show (xs.length : Int) + 1 + 1 = (xs.length : Int) + 2 by omega]
                rw [rl_join (v := -58) (r := tdv x s.2) (by omega) (by omega) (by omega) (by omega) (by omega) ((rq_c (by omega)).trans hC.2.1) (by omega) (by omega) (by omega) ?_]
                · have hFr : Fr [c + 6] σ (wr σ (c + 6) ((xs.length : Int) + 1) s.2) := Fr.rf.wr (List.mem_singleton.mpr rfl)
                  exact go n (i + 1 + 1) (tdv x s.2) xs _ h1 (ev1_part g0) (by rw [show i + 1 + 1 = i + 2 by omega]; exact hC.2.2) (by omega) (by omega) r2 (tdv_nr _ _) _ hFr (SK_wr xs r2 (by omega))
                · rw [rq_i (by omega), rq_s, r1, bw_id (z := s.2) (by omega) (by omega)]
                  simp only [fX2_joined]
                  simp
                  rw [if_neg (by omega), grd_pos (by omega)]
          · rw [if_neg (by omega)] at hC
            cases n with
            | zero => omega
            | succ n =>
              rw [rl_not (by omega) (by omega) h0 (by omega) (by omega) (by rw [hC.1, g0]; rfl), r1]
              exact go n (i + 1) (bw (1 - x)) xs _ h1 (ev1_not g0) hC.2 (by omega) (by omega) r2 (bw_bw _) σ Fr.rf r2
          · have g5 : (23 ≤ s.1 ∧ s.1 ≤ 25) ∨ (27 ≤ s.1 ∧ s.1 ≤ 29) ∨ (31 ≤ s.1 ∧ s.1 ≤ 32) := by
              rcases g4 with h | h | h
              · exact Or.inl ⟨h.1, h.2.1⟩
              · exact Or.inr (Or.inl ⟨h.1, h.2.1⟩)
              · exact Or.inr (Or.inr ⟨h.1, h.2.1⟩)
            rw [if_neg (by omega)] at hC
            cases xs with
            | nil => exact q3.elim
            | cons y ys =>
              obtain ⟨r3, r4⟩ := r2
              rw [List.length_cons] at r1 hb
              rw [List.length_cons, List.length_cons] at hlen
              cases n with
              | zero => omega
              | succ n =>
                have hj := join_both (a := y) (b := x) g5
                rw [if_neg (by omega)] at hC hj
                have hr1 : rd σ (c + 6) ((ys.length : Int) + 1) = x := r1
                generalize hv : (if s.1 < 23 then -s.1 else if s.1 = 23 then -54 else if s.1 = 24 then -56 else if s.1 = 25 then -53 else if s.1 = 27 then -71 else if s.1 = 28 then -72 else if s.1 = 29 then -73 else if s.1 = 30 then -20 else if s.1 = 31 then -19 else -18 : Int) = v at hC hj
                have hvb : v ≤ -18 ∧ -100 < v ∧ v ≠ -20 := by
                  rw [← hv]
                  repeat' split
                  all_goals omega
                rw [List.length_cons, show ((ys.length + 1 : Nat) : Int) + 1 = (ys.length : Int) + 2 by omega, rl_join (r := fX11_both s.1 y x) (by omega) (by omega) h0 (by omega) (by omega) hC.1 hvb.1 hvb.2.1 hvb.2.2 (by rw [r3, hr1]; exact hj)]
                exact go n (i + 1) (fX11_both s.1 y x) ys _ h1 (ev1_two g5) hC.2 (by omega) (by omega) r4 (both_nr _ _ _) σ Fr.rf r4
