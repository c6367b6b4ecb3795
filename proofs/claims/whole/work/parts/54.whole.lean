/-! whole_start, but for the pure goal: the law's first steps, then its loop -/
theorem J_tb {α : Type} {X : Cx} {M : MM} {P : PG} {tb tb2 : TB} {R : Room} {kc nc : Nat} {EX : EXT} {F : α → Prop × ZT} {ads : List Nat} {sk : List Sk} {ps : PS} {res : Option α} (h : tbOK M.1.cls tb2) (k : J X M P tb2 R kc nc EX F ads sk ps res) : J X M P tb R kc nc EX F ads sk ps res := fun ho => k ⟨ho.1, h, ho.2.2⟩
def tbS : TB := (ctF [], [], [(9, yX10_init), (12, yX11_init)], [], [])
theorem tbS_ok : tbOK RL tbS := tb_of [] [] [23, 1182] (by decide +kernel) (by decide +kernel) (by decide +kernel) (by decide +kernel) (by decide +kernel) (by decide +kernel) (by decide +kernel) (by decide +kernel)
def s00 : Sg := fun _ _ => 0
/-- what is left: a pure function of the script -/
def pureLaw (sx : Int → Int) (LL : Int) : Option Unit := (fiX10_init_0 (zr s00 0)).bind fun s => (fiX11_init_84 (zr s 84)).bind fun t => fL_law sx LL (kI0 sx LL) FU 0 t
set_option maxRecDepth 20000 in
theorem J_start {X : Cx} {EX : EXT} {sx : Int → Int} {LL : Int} (hX : scrOK X EX sx LL) : J X mL pL_law tbS room_1 0 0 EX FL [] [] (0, [some (.inr (some 12000)), none, none, none], [], s00) (pureLaw sx LL) := by
  unfold pureLaw
  refine j_new 0 10 rfl rfl (by decide) (tw_of (i := 21) (by decide +kernel) rfl) (tw_of (i := 22) (by decide +kernel) rfl) (tw_of (i := 1) (by decide +kernel) rfl) rfl ⟨(Nat.le_of_ble_eq_true rfl), (Nat.le_of_ble_eq_true rfl)⟩ (Nat.le_of_ble_eq_true rfl) (fun a1 => ?_)
  refine j_run 1 1 rfl ?_
  refine J.okA (fun hA1 => ?_)
  refine j_ci 2 0 0 rfl rfl mwiX10_init (iX10_init_0 hA1.1 _) rfl rfl ⟨⟨(Nat.le_of_ble_eq_true rfl), (Nat.le_of_ble_eq_true rfl)⟩, (Nat.le_of_ble_eq_true rfl), (Nat.le_of_ble_eq_true rfl)⟩ (Nat.le_of_ble_eq_true rfl) rfl ⟨rfl, (Nat.le_of_ble_eq_true rfl)⟩ (fun n1 s1 hn1 _ => ?_)
  refine j_run 3 1 rfl ?_
  refine j_new 4 11 rfl rfl (by decide) (tw_of (i := 1180) (by decide +kernel) rfl) (tw_of (i := 1181) (by decide +kernel) rfl) (tw_of (i := 13) (by decide +kernel) rfl) rfl ⟨(Nat.le_of_ble_eq_true rfl), (Nat.le_of_ble_eq_true rfl)⟩ (Nat.le_of_ble_eq_true rfl) (fun a2 => ?_)
  refine j_run 5 1 rfl ?_
  refine J.okA (fun hA2 => ?_)
  refine j_ci 6 1 0 rfl rfl mwiX11_init (iX11_init_84 hA2.1 _) rfl rfl ⟨⟨(Nat.le_of_ble_eq_true rfl), (Nat.le_of_ble_eq_true rfl)⟩, (Nat.le_of_ble_eq_true rfl), (Nat.le_of_ble_eq_true rfl)⟩ (Nat.le_of_ble_eq_true rfl) rfl ⟨rfl, (Nat.le_of_ble_eq_true rfl)⟩ (fun n2 s2 hn2 _ => ?_)
  refine j_run 7 3 rfl ?_
  refine J.okA (fun hA3 => ?_)
  refine J_tb tbL_ok ?_
  exact JL_law hA3 ⟨(Nat.le_of_ble_eq_true rfl), (Nat.le_of_ble_eq_true rfl)⟩ oc0S oc0M hX (kI0 sx LL) (fun rec h18 x3 σ => JkI0 hA3.1 ⟨(Nat.le_of_ble_eq_true rfl), (Nat.le_of_ble_eq_true rfl)⟩ hX rec h18 x3 σ) FU 0 s2
/-- the law, out of the pure function -/
theorem start_of {p : Program} {e : Env} {s : State} {m : MethodId} {below : List Frame} {meth : Method} {c : Code} (l : Launch) {b L : Nat} {xs : Nat → Int32} (hL : L ≤ 3072) (hp : pureLaw (fun i => (xs i.toNat).toInt) (L : Int) = some ()) (C0 : lw_At p s m meth c b L xs) : W p l e room_1 s m #[Value.ref b] below meth c s.heap [] 0 0 (lw_Z below #[Value.ref b] s) (entryFrame m ([Value.ref b] : List Value).toArray 4) := by
  obtain ⟨hx, hc, hr, hm, hown, hts, hX, hbl, hlk, hcond⟩ := C0
  have hn : ∀ w ∈ flatC narrow_1, w.before #[Value.ref b] s = true := fun w hw => flat_of_before _ hcond w (List.mem_append_right _ hw)
  obtain ⟨X, h1, h2, h3, h4, h5⟩ := start_X (b := b) (L := L) (xs := xs) l hts hn
  subst h1
  have hs : scrOK X (EXL X b L xs) (fun i => (xs i.toNat).toInt) (L : Int) := ⟨b, L, xs, rfl, h3, rfl, bw_id (by omega) (by omega), fun i _ _ => rfl⟩
  obtain ⟨-, hW⟩ := J_start hs ⟨pL_law_ok, tbS_ok, rfl, Nat.zero_le _⟩ () hp ⟨rfl, argP_nr (As := [.inr (some 12000)]) (n := 4) (fun v hv => by simp at hv; subst hv; trivial), fun v hv => absurd hv List.not_mem_nil⟩
  have hl := lv_entry [Value.ref b] (n := 4) (by rw [lg_sl_len _ (fun v hv => by simp at hv; subst hv; rfl)]; simp)
  rw [lg_entry_eq]
  refine hW p e s m #[Value.ref b] below meth c s.heap [] _ ⟨hx, hc, hm, hr, hown, fun w hw => hts w (tw_lt hw), hlk, fun h => absurd h (by decide), h4, h5, by rw [h2]; exact Nat.le_refl _⟩ ⟨rfl, hX, hbl, h2⟩ (fun k q h => by simp [mkW] at h) ⟨fun i j p q h => by simp [mkW] at h, fun k q h => by simp [mkW] at h⟩ va_S.rf ?_
  rw [show emL X [] [some (.inr (some 12000)), none, none, none] = argL [Value.ref b] 4 by rw [← h3, ← em_scr (X := X) (ads := [])]; rfl, lvL, argL, lvx_args [Value.ref b] 0 _ (fun v hv => by simp at hv; subst hv; rfl)]
  exact hl
