/-! THE CLAIM OUT OF ONE WALK OF THE LAW'S BODY. Your part is whole_start (and what it stands on); all else here is the same for every law, but numbers. -/
def R_law : String := "SnowRisesLaw"
def lw_P (b : Addr) (xs : List Int32) (args : Array Value) (s : State) : Prop := args = #[.ref b] ∧ s.IntsAt b xs ∧ xs.length ≤ 3072 ∧ (Jvm.Cond.and given_1 narrow_1).before args s = true
def lw_Q (_ : Array Value) (s : State) (o : Outcome) (t : State) : Prop := o = .returned (some (.int 1)) ∧ Framed s o t [] 600000 7302250
def lw_Z (below : List Frame) (a : Array Value) (s : State) : State → Prop := fun t => ∃ o, t.status = .running ∧ Ended t below o ∧ lw_Q a s o t
/-- the law's own end, with 1 on the stack, nothing written that was there before, its room as the claim has it -/
theorem lw_ret {p : Program} {l : Launch} {e : Env} {s : State} {m : MethodId} {below : List Frame} {meth : Method} {c : Code} {b : Nat} (hx : p.tables.exec = Jvm.exec) (hb : c.code = code) (hr : meth.sig.returnType = ret) (hlocks : meth.locks = false) {pc : Nat} {H : Heap} {ls : Array Slot} (hdg : decode code pc = .ok (.ireturn, 1)) : W p l e room_1 s m #[Value.ref b] below meth c H [] 600000 7302250 (lw_Z below #[Value.ref b] s) (F0 m pc ls [.int 1]) := by
  intro T hT X
  obtain ⟨fs, hret, hrun, hended, hW, hframe⟩ := X.leave (v := some (.int 1)) (hlocks := hlocks) (fun h => by rw [hr] at h; cases h)
  have hmeth' : T.vm.method? m = some meth := X.method'
  refine ⟨T.setFrames fs, ?_, .returned (some (.int 1)), hrun, hended, rfl, ⟨_, rfl⟩, hW, hframe⟩
  jvm_step X.here [X.here.top, hx, hb, hdg, hmeth', hr, ret, narrow_b1]
  (try refine ⟨rfl, ?_⟩); (try refine ⟨rfl, ?_⟩)
  first | (intro acts; rw [hret _ acts rfl rfl rfl]) | rw [hret _ _ rfl rfl rfl]
  exact Steps.refl _
/-- what holds at the law's entry: the machine, the code, the tables' words (any of lw_tbl by 'hts w (by decide +kernel)'), the script of L ints xs at the cell b, what the Statement gives of the start (any of its parts by flat_of_before) -/
def lw_At (p : Program) (s : State) (m : MethodId) (meth : Method) (c : Code) (b L : Nat) (xs : Nat → Int32) : Prop :=
  p.tables.exec = Jvm.exec ∧ c.code = code ∧ meth.sig.returnType = ret ∧ c.maxLocals = 4 ∧ s.vm.findClass R_law = some m.cls ∧ (∀ w ∈ lw_tbl, w.before #[Value.ref b] s = true) ∧ va_X b L xs s s.heap ∧ b < s.heap.size ∧ meth.locks = false ∧ (Jvm.Cond.and given_1 narrow_1).before #[Value.ref b] s = true
def tbL : TB := (ctF [], [], [(13, yX10_state), (17, yX11_state), (18, yX10_valley), (22, yX11_valley), (23, yX10_person), (27, yX11_person), (28, yX10_set), (32, yX11_set), (33, yX10_kin), (37, yX11_kin), (38, yX10_vow), (42, yX11_vow), (43, yX10_part), (46, yX11_part), (47, yX10_sweep), (50, yX11_sweep), (51, yX10_days), (54, yX11_days), (55, yX10_feed), (59, yX11_feed), (60, yX10_end), (64, yX11_end), (65, yX10_text), (68, yX11_text), (69, yX10_fault), (72, yX11_fault), (73, yX10_of), (77, yX11_of), (78, yX10_match), (82, yX11_match), (83, yX10_at), (86, yX11_at), (87, yX10_lift), (90, yX11_lift), (91, yX10_weather), (94, yX11_weather), (95, yX10_book), (98, yX11_book), (99, yX10_lies), (102, yX11_lies), (103, yX10_meets), (106, yX11_meets), (107, yX10_stable), (110, yX11_stable), (111, yX10_best), (114, yX11_best), (115, yX10_bares), (118, yX11_bares), (119, yX10_stir), (122, yX11_stir), (123, yX10_who), (126, yX11_who), (127, yX10_ask), (130, yX11_ask), (131, yX10_fans), (134, yX11_fans), (135, yX10_safe), (138, yX11_safe), (139, yX10_cut), (142, yX11_cut), (143, yX10_rounds), (146, yX11_rounds), (147, yX10_comes), (150, yX11_comes), (151, yX10_asks), (155, yX11_asks), (156, yX10_tribe), (159, yX11_tribe), (160, yX10_hopes), (163, yX11_hopes), (164, yX10_undo), (168, yX11_undo), (174, yX10_look), (177, yX11_look), (169, yX10_image), (173, yX11_image)], [], [])
theorem tbL_ok : tbOK RL tbL := tb_of [] [] [432, 1323, 436, 1331, 441, 1335, 456, 1339, 472, 1354, 485, 1540, 581, 1627, 586, 1631, 590, 1635, 627, 1358, 635, 1362, 639, 1366, 882, 1532, 886, 1673, 890, 1677, 899, 1681, 904, 1685, 910, 1689, 915, 1693, 920, 1697, 938, 1709, 968, 1721, 987, 1737, 1015, 1757, 1030, 1761, 1035, 1765, 1047, 1777, 1061, 1789, 1067, 1794, 1080, 1802, 1104, 1830, 1126, 1846, 1131, 1850, 1142, 1854, 1150, 1858, 1159, 1536, 1171, 1870, 1167, 1866] (by decide +kernel) (by decide +kernel) (by decide +kernel) (by decide +kernel) (by decide +kernel) (by decide +kernel) (by decide +kernel) (by decide +kernel)

def mL : MM := (yL_law, cL_law, 4, ret, 0)
def EXL (X : Cx) (b L : Nat) (xs : Nat → Int32) : EXT := fun args s => args = #[.ref b] ∧ va_X b L xs s s.heap ∧ b < s.heap.size ∧ X.2.2.2.1 = s.heap.size
def FL : Unit → Prop × ZT := fun _ => (True, fun below args s => lw_Z below args s)
def scrOK (X : Cx) (EX : EXT) (sx : Int → Int) (LL : Int) : Prop := ∃ (b L : Nat) (xs : Nat → Int32), EX = EXL X b L xs ∧ X.2.2.2.2.2 10000 = b ∧ LL = (L : Int) ∧ bw LL = LL ∧ ∀ i : Int, 0 ≤ i → i < LL → sx i = (xs i.toNat).toInt
abbrev jL (X : Cx) (kc nc : Nat) (EX : EXT) (ads : List Nat) (sk : List Sk) (ps : PS) (res : Option Unit) : Prop := J X mL pL_law tbL room_1 kc nc EX FL ads sk ps res
theorem rokL {kc nc : Nat} {N : MM} (hk : kc ≤ 600000 ∧ nc ≤ 7302250) (h1 : Nat.ble (N.2.2.2.2 + 1) 2048 = true) (h2 : Nat.ble (8 + (N.2.2.1 + 11) + 64 * N.2.2.2.2) 84000 = true) : RoomOK room_1 N kc nc 0 0 :=
  ⟨⟨Nat.le_of_ble_eq_true h1, Nat.le_of_ble_eq_true h2⟩, hk.1, hk.2⟩
section JLW
variable {X : Cx} {kc nc : Nat} {EX : EXT} {ads : List Nat} {sk : List Sk} {L : List (Option PV)} {st : List PV} {σ : Sg} {res : Option Unit} {pc pc2 : Nat} {sx : Int → Int} {LL : Int}
theorem em_scr {X : Cx} {ads : List Nat} : em X ads (.inr (some 12000)) = .ref (X.2.2.2.2.2 10000) := by
  show Value.ref (ea X ads 12000) = _
  rw [ea, if_neg (by decide), if_neg (by decide)]
theorem j_scr (n : Nat) {i : Int} (hn : pL_law[n]? = some (.iaload, pc, pc2)) (hX : scrOK X EX sx LL) (kk : jL X kc nc EX ads sk (pc2, L, .inl (sx i) :: st, σ) res) : jL X kc nc EX ads sk (pc, L, .inl i :: .inr (some 12000) :: st, σ) (grd ((0 : Int) ≤ i ∧ i < LL) res) := by
  obtain ⟨b, Ln, xs, rfl, hb, rfl, hLL, hs⟩ := hX
  refine j_grd (fun hg => ?_)
  have hsx : sx i = (xs i.toNat).toInt := hs i hg.1 hg.2
  refine J.step (ps2 := (pc2, L, .inl (sx i) :: st, σ)) (fun ho a ha hq => ⟨ha, ⟨hq.1, hq.2.1, nrS_cons (by rw [hsx]; exact bw_toInt _) (nrS_tail (nrS_tail hq.2.2))⟩, fun Z kk => ?_⟩) kk
  obtain ⟨hd, rfl⟩ := okP_get ho.1 hn (by simp [lenI])
  have hi : bw i = i := nrS_head hq.2.2
  intro p e s m args below meth cc H locs ls FF hE hP hD hS hl
  have kk2 := kk p e s m args below meth cc H locs ls FF hE hP hD hS hl
  show W _ _ _ _ _ _ _ _ _ _ _ _ _ _ _ (F0 m pc ls (.int (Int32.ofInt i) :: em X ads (.inr (some 12000)) :: emS X ads st))
  rw [em_scr, hb]
  refine va_sld FF.1 FF.2.1 hE.2.1 hE.2.2.1 (fun q => absurd hE.2.2.1 (Nat.not_lt.mpr (by rw [← hE.2.2.2]; exact q))) hS (in_of hi hg.1 hg.2) hd ?_
  have e1 : emS X ads (.inl (sx i) :: st) = .int (xs i.toNat) :: emS X ads st := by
    show Value.int (Int32.ofInt (sx i)) :: _ = _
    rw [hsx, Int32.ofInt_toInt]; rfl
  rw [cl_of hi, ← e1]
  exact kk2
theorem j_slen (n : Nat) (hn : pL_law[n]? = some (.arraylength, pc, pc2)) (hX : scrOK X EX sx LL) (kk : jL X kc nc EX ads sk (pc2, L, .inl LL :: st, σ) res) : jL X kc nc EX ads sk (pc, L, .inr (some 12000) :: st, σ) res := by
  obtain ⟨b, Ln, xs, rfl, hb, rfl, hLL, hs⟩ := hX
  refine J.step (ps2 := (pc2, L, .inl (Ln : Int) :: st, σ)) (fun ho a ha hq => ⟨ha, ⟨hq.1, hq.2.1, nrS_cons hLL (nrS_tail hq.2.2)⟩, fun Z kk => ?_⟩) kk
  obtain ⟨hd, rfl⟩ := okP_get ho.1 hn (by simp [lenI])
  intro p e s m args below meth cc H locs ls FF hE hP hD hS hl
  have kk2 := kk p e s m args below meth cc H locs ls FF hE hP hD hS hl
  show W _ _ _ _ _ _ _ _ _ _ _ _ _ _ _ (F0 m pc ls (em X ads (.inr (some 12000)) :: emS X ads st))
  rw [em_scr, hb]
  exact va_slen FF.1 FF.2.1 hE.2.1 hE.2.2.1 (fun q => absurd hE.2.2.1 (Nat.not_lt.mpr (by rw [← hE.2.2.2]; exact q))) hS hd kk2
theorem j_lret (n : Nat) (hn : pL_law[n]? = some (.ireturn, pc, pc2)) (hX : scrOK X EX sx LL) (hk : kc ≤ 600000 ∧ nc ≤ 7302250) : jL X kc nc EX ads sk (pc, L, [.inl 1], σ) (some ()) := by
  obtain ⟨b, Ln, xs, rfl, hb, rfl, hLL, hs⟩ := hX
  intro ho a2 ha hq
  obtain ⟨hd, rfl⟩ := okP_get ho.1 hn (by simp [lenI])
  refine ⟨trivial, ?_⟩
  intro p e s m args below meth cc H locs ls FF hE hP hD hS hl
  obtain ⟨rfl, -, -, hbase⟩ := hE
  refine W.widen (k := 600000) (n := 7302250) hk.1 hk.2 (va_forget (fun q hq2 => ?_) ?_)
  · rw [← hbase]; exact hS.2.2 q hq2
  · exact lw_ret FF.1 FF.2.1 FF.2.2.2.1 FF.2.2.2.2.2.2.1 hd
end JLW
def mX10_image : MM := (yX10_image, cX10_image, 2, some .boolean, 20)
set_option maxRecDepth 4000 in
theorem mwX10_image : MWV mX10_image 1 := ⟨⟨(tw_of (i := 1) (by decide +kernel) rfl), tk5 (i := 210) rfl rfl, show yX10_image.cls ≠ _ by decide +kernel, show yX10_image.cls ≠ _ by decide +kernel, show (parseMethodDescriptor yX10_image.desc).map (fun d => d.parameters.length) = _ by decide +kernel⟩, (tw_of (i := 1168) (by decide +kernel) rfl), (tw_of (i := 1169) (by decide +kernel) rfl)⟩
