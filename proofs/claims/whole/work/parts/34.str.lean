/-! texts: length, charAt, indexOf: the JDK's own methods, walked -/
def pJ0_coder_7d493 : PG := [(.ifCond .eq 10, 3, 6), (.aload_n 0, 6, 7), (.getfield 15, 7, 10), (.goto 4, 10, 13), (.iconst 1, 13, 14), (.ireturn, 14, 15)]
theorem pJ0_coder_7d493_ok : okP cJ0_coder_7d493 pJ0_coder_7d493 = true := by decide +kernel
def mJ0_coder_7d493 : MM := (yJ0_coder_7d493, cJ0_coder_7d493, 1, (some .byte), 0)
def pJ0_isLatin1_aae02 : PG := [(.ifCond .eq 14, 3, 6), (.aload_n 0, 6, 7), (.getfield 15, 7, 10), (.ifCond .ne 7, 10, 13), (.iconst 1, 13, 14), (.goto 4, 14, 17), (.iconst 0, 17, 18), (.ireturn, 18, 19)]
theorem pJ0_isLatin1_aae02_ok : okP cJ0_isLatin1_aae02 pJ0_isLatin1_aae02 = true := by decide +kernel
def mJ0_isLatin1_aae02 : MM := (yJ0_isLatin1_aae02, cJ0_isLatin1_aae02, 1, (some .boolean), 0)
def pJ0_length_8abf5 : PG := [(.aload_n 0, 0, 1), (.getfield 9, 1, 4), (.arraylength, 4, 5), (.aload_n 0, 5, 6), (.invokevirtual 335, 6, 9), (.ishr, 9, 10), (.ireturn, 10, 11)]
theorem pJ0_length_8abf5_ok : okP cJ0_length_8abf5 pJ0_length_8abf5 = true := by decide +kernel
def mJ0_length_8abf5 : MM := (yJ0_length_8abf5, cJ0_length_8abf5, 1, (some .int), 1)
def pJ3_checkIndex_8e157 : PG := [(.iload_n 0, 0, 1), (.ifCond .lt 8, 1, 4), (.iload_n 0, 4, 5), (.iload_n 1, 5, 6), (.if_icmp .lt 10, 6, 9), (.aload_n 2, 9, 10), (.iload_n 0, 10, 11), (.iload_n 1, 11, 12), (.invokestatic 95, 12, 15), (.athrow, 15, 16), (.iload_n 0, 16, 17), (.ireturn, 17, 18)]
theorem pJ3_checkIndex_8e157_ok : okP cJ3_checkIndex_8e157 pJ3_checkIndex_8e157 = true := by decide +kernel
def mJ3_checkIndex_8e157 : MM := (yJ3_checkIndex_8e157, cJ3_checkIndex_8e157, 3, (some .int), 0)
def pJ0_checkIndex_df160 : PG := [(.iload_n 0, 0, 1), (.iload_n 1, 1, 2), (.invokestatic 1059, 5, 8), (.pop, 8, 9), (.return_, 9, 10)]
theorem pJ0_checkIndex_df160_ok : okP cJ0_checkIndex_df160 pJ0_checkIndex_df160 = true := by decide +kernel
def mJ0_checkIndex_df160 : MM := (yJ0_checkIndex_df160, cJ0_checkIndex_df160, 2, none, 1)
def pJ1_charAt_3b067 : PG := [(.iload_n 1, 0, 1), (.aload_n 0, 1, 2), (.arraylength, 2, 3), (.invokestatic 9, 3, 6), (.aload_n 0, 6, 7), (.iload_n 1, 7, 8), (.baload, 8, 9), (.sipush 255, 9, 12), (.iand, 12, 13), (.i2c, 13, 14), (.ireturn, 14, 15)]
theorem pJ1_charAt_3b067_ok : okP cJ1_charAt_3b067 pJ1_charAt_3b067 = true := by decide +kernel
def mJ1_charAt_3b067 : MM := (yJ1_charAt_3b067, cJ1_charAt_3b067, 2, (some .char), 2)
def pJ0_charAt_5068e : PG := [(.aload_n 0, 0, 1), (.invokevirtual 492, 1, 4), (.ifCond .eq 12, 4, 7), (.aload_n 0, 7, 8), (.getfield 9, 8, 11), (.iload_n 1, 11, 12), (.invokestatic 495, 12, 15), (.ireturn, 15, 16), (.aload_n 0, 16, 17), (.getfield 9, 17, 20), (.iload_n 1, 20, 21), (.invokestatic 498, 21, 24), (.ireturn, 24, 25)]
theorem pJ0_charAt_5068e_ok : okP cJ0_charAt_5068e pJ0_charAt_5068e = true := by decide +kernel
def mJ0_charAt_5068e : MM := (yJ0_charAt_5068e, cJ0_charAt_5068e, 2, (some .char), 3)
def pJ1_canEncode_9a6ad : PG := [(.iload_n 0, 0, 1), (.ifCond .lt 14, 1, 4), (.iload_n 0, 4, 5), (.sipush 255, 5, 8), (.if_icmp .gt 7, 8, 11), (.iconst 1, 11, 12), (.goto 4, 12, 15), (.iconst 0, 15, 16), (.ireturn, 16, 17)]
theorem pJ1_canEncode_9a6ad_ok : okP cJ1_canEncode_9a6ad pJ1_canEncode_9a6ad = true := by decide +kernel
def mJ1_canEncode_9a6ad : MM := (yJ1_canEncode_9a6ad, cJ1_canEncode_9a6ad, 1, (some .boolean), 0)
def pJ1_indexOfChar_4cfef : PG := [(.iload_n 1, 0, 1), (.i2b, 1, 2), (.istore 4, 2, 4), (.iload_n 2, 4, 5), (.istore 5, 5, 7), (.iload 5, 7, 9), (.iload_n 3, 9, 10), (.if_icmp .ge 21, 10, 13), (.aload_n 0, 13, 14), (.iload 5, 14, 16), (.baload, 16, 17), (.iload 4, 17, 19), (.if_icmp .ne 6, 19, 22), (.iload 5, 22, 24), (.ireturn, 24, 25), (.iinc 5 1, 25, 28), (.goto (-21), 28, 31), (.iconst (-1), 31, 32), (.ireturn, 32, 33)]
theorem pJ1_indexOfChar_4cfef_ok : okP cJ1_indexOfChar_4cfef pJ1_indexOfChar_4cfef = true := by decide +kernel
def mJ1_indexOfChar_4cfef : MM := (yJ1_indexOfChar_4cfef, cJ1_indexOfChar_4cfef, 6, (some .int), 0)
def pJ1_indexOf_4cfef : PG := [(.iload_n 1, 0, 1), (.invokestatic 88, 1, 4), (.ifCond .ne 5, 4, 7), (.iconst (-1), 7, 8), (.ireturn, 8, 9), (.iload_n 2, 9, 10), (.iconst 0, 10, 11), (.invokestatic 92, 11, 14), (.istore_n 2, 14, 15), (.iload_n 3, 15, 16), (.aload_n 0, 16, 17), (.arraylength, 17, 18), (.invokestatic 38, 18, 21), (.istore_n 3, 21, 22), (.iload_n 2, 22, 23), (.iload_n 3, 23, 24), (.if_icmp .lt 5, 24, 27), (.iconst (-1), 27, 28), (.ireturn, 28, 29), (.aload_n 0, 29, 30), (.iload_n 1, 30, 31), (.iload_n 2, 31, 32), (.iload_n 3, 32, 33), (.invokestatic 95, 33, 36), (.ireturn, 36, 37)]
theorem pJ1_indexOf_4cfef_ok : okP cJ1_indexOf_4cfef pJ1_indexOf_4cfef = true := by decide +kernel
def mJ1_indexOf_4cfef : MM := (yJ1_indexOf_4cfef, cJ1_indexOf_4cfef, 4, (some .int), 1)
def pJ0_indexOf_7cf53 : PG := [(.aload_n 0, 0, 1), (.invokevirtual 492, 1, 4), (.ifCond .eq 19, 4, 7), (.aload_n 0, 7, 8), (.getfield 9, 8, 11), (.iload_n 1, 11, 12), (.iload_n 2, 12, 13), (.aload_n 0, 13, 14), (.invokevirtual 505, 14, 17), (.invokestatic 637, 17, 20), (.goto 16, 20, 23), (.aload_n 0, 23, 24), (.getfield 9, 24, 27), (.iload_n 1, 27, 28), (.iload_n 2, 28, 29), (.aload_n 0, 29, 30), (.invokevirtual 505, 30, 33), (.invokestatic 640, 33, 36), (.ireturn, 36, 37)]
theorem pJ0_indexOf_7cf53_ok : okP cJ0_indexOf_7cf53 pJ0_indexOf_7cf53 = true := by decide +kernel
def mJ0_indexOf_7cf53 : MM := (yJ0_indexOf_7cf53, cJ0_indexOf_7cf53, 3, (some .int), 2)
def pJ0_indexOf_0f7a4 : PG := [(.aload_n 0, 0, 1), (.iload_n 1, 1, 2), (.iconst 0, 2, 3), (.invokevirtual 633, 3, 6), (.ireturn, 6, 7)]
theorem pJ0_indexOf_0f7a4_ok : okP cJ0_indexOf_0f7a4 pJ0_indexOf_0f7a4 = true := by decide +kernel
def mJ0_indexOf_0f7a4 : MM := (yJ0_indexOf_0f7a4, cJ0_indexOf_0f7a4, 2, (some .int), 3)
def mlJ0 : List (Nat × MethodName) := [(335, yJ0_coder_7d493), (492, yJ0_isLatin1_aae02), (495, yJ1_charAt_3b067), (633, yJ0_indexOf_7cf53), (505, yJ0_length_8abf5), (637, yJ1_indexOf_4cfef), (1059, yJ3_checkIndex_8e157)]
def tbJ0 : TB := (ctF [], [], mlJ0, [], [])
theorem tbJ0_ok : tbOK RJ0 tbJ0 := tb_of [] [] [668, 678, 682, 732, 736, 737, 690] (by decide +kernel) (by decide +kernel) (by decide +kernel) (by decide +kernel) (by decide +kernel) (by decide +kernel) (by decide +kernel) (by decide +kernel)
theorem plJ0 : plainName RJ0 = true := by decide +kernel
def mlJ1 : List (Nat × MethodName) := [(9, yJ0_checkIndex_df160), (88, yJ1_canEncode_9a6ad), (92, yJ9_max_7cf53), (38, yJ9_min_7cf53), (95, yJ1_indexOfChar_4cfef)]
def tbJ1 : TB := (ctF [], [], mlJ1, [], [])
theorem tbJ1_ok : tbOK RJ1 tbJ1 := tb_of [] [] [685, 740, 743, 744, 745] (by decide +kernel) (by decide +kernel) (by decide +kernel) (by decide +kernel) (by decide +kernel) (by decide +kernel) (by decide +kernel) (by decide +kernel)
theorem plJ1 : plainName RJ1 = true := by decide +kernel
def mlJ3 : List (Nat × MethodName) := []
def tbJ3 : TB := (ctF [], [], mlJ3, [], [])
theorem tbJ3_ok : tbOK RJ3 tbJ3 := tb_of [] [] [] (by decide +kernel) (by decide +kernel) (by decide +kernel) (by decide +kernel) (by decide +kernel) (by decide +kernel) (by decide +kernel) (by decide +kernel)
theorem plJ3 : plainName RJ3 = true := by decide +kernel
set_option maxRecDepth 4000 in
theorem mwJ0_coder_7d493 : MWV mJ0_coder_7d493 0 := ⟨⟨(tw_of (i := 15) (by decide +kernel) rfl), tk3 (i := 191) rfl rfl, show yJ0_coder_7d493.cls ≠ _ by decide +kernel, show yJ0_coder_7d493.cls ≠ _ by decide +kernel, show (parseMethodDescriptor yJ0_coder_7d493.desc).map (fun d => d.parameters.length) = _ by decide +kernel⟩, (tw_of (i := 669) (by decide +kernel) rfl), (tw_of (i := 670) (by decide +kernel) rfl)⟩
set_option maxRecDepth 4000 in
theorem mwJ0_isLatin1_aae02 : MWV mJ0_isLatin1_aae02 0 := ⟨⟨(tw_of (i := 15) (by decide +kernel) rfl), tk3 (i := 201) rfl rfl, show yJ0_isLatin1_aae02.cls ≠ _ by decide +kernel, show yJ0_isLatin1_aae02.cls ≠ _ by decide +kernel, show (parseMethodDescriptor yJ0_isLatin1_aae02.desc).map (fun d => d.parameters.length) = _ by decide +kernel⟩, (tw_of (i := 679) (by decide +kernel) rfl), (tw_of (i := 680) (by decide +kernel) rfl)⟩
set_option maxRecDepth 4000 in
theorem mwJ0_length_8abf5 : MWV mJ0_length_8abf5 0 := ⟨⟨(tw_of (i := 15) (by decide +kernel) rfl), tk3 (i := 187) rfl rfl, show yJ0_length_8abf5.cls ≠ _ by decide +kernel, show yJ0_length_8abf5.cls ≠ _ by decide +kernel, show (parseMethodDescriptor yJ0_length_8abf5.desc).map (fun d => d.parameters.length) = _ by decide +kernel⟩, (tw_of (i := 665) (by decide +kernel) rfl), (tw_of (i := 666) (by decide +kernel) rfl)⟩
set_option maxRecDepth 4000 in
theorem mwJ3_checkIndex_8e157 : MWS mJ3_checkIndex_8e157 3 := ⟨⟨(tw_of (i := 17) (by decide +kernel) rfl), tk3 (i := 212) rfl rfl, show yJ3_checkIndex_8e157.cls ≠ _ by decide +kernel, show yJ3_checkIndex_8e157.cls ≠ _ by decide +kernel, show (parseMethodDescriptor yJ3_checkIndex_8e157.desc).map (fun d => d.parameters.length) = _ by decide +kernel⟩, (tw_of (i := 691) (by decide +kernel) rfl)⟩
set_option maxRecDepth 4000 in
theorem mwJ0_checkIndex_df160 : MWS mJ0_checkIndex_df160 2 := ⟨⟨(tw_of (i := 15) (by decide +kernel) rfl), tk3 (i := 207) rfl rfl, show yJ0_checkIndex_df160.cls ≠ _ by decide +kernel, show yJ0_checkIndex_df160.cls ≠ _ by decide +kernel, show (parseMethodDescriptor yJ0_checkIndex_df160.desc).map (fun d => d.parameters.length) = _ by decide +kernel⟩, (tw_of (i := 686) (by decide +kernel) rfl)⟩
set_option maxRecDepth 4000 in
theorem mwJ1_charAt_3b067 : MWS mJ1_charAt_3b067 2 := ⟨⟨(tw_of (i := 16) (by decide +kernel) rfl), tk3 (i := 204) rfl rfl, show yJ1_charAt_3b067.cls ≠ _ by decide +kernel, show yJ1_charAt_3b067.cls ≠ _ by decide +kernel, show (parseMethodDescriptor yJ1_charAt_3b067.desc).map (fun d => d.parameters.length) = _ by decide +kernel⟩, (tw_of (i := 683) (by decide +kernel) rfl)⟩
set_option maxRecDepth 4000 in
theorem mwJ0_charAt_5068e : MWV mJ0_charAt_5068e 1 := ⟨⟨(tw_of (i := 15) (by decide +kernel) rfl), tk3 (i := 197) rfl rfl, show yJ0_charAt_5068e.cls ≠ _ by decide +kernel, show yJ0_charAt_5068e.cls ≠ _ by decide +kernel, show (parseMethodDescriptor yJ0_charAt_5068e.desc).map (fun d => d.parameters.length) = _ by decide +kernel⟩, (tw_of (i := 675) (by decide +kernel) rfl), (tw_of (i := 676) (by decide +kernel) rfl)⟩
set_option maxRecDepth 4000 in
theorem mwJ1_canEncode_9a6ad : MWS mJ1_canEncode_9a6ad 1 := ⟨⟨(tw_of (i := 16) (by decide +kernel) rfl), tk4 (i := 22) rfl rfl, show yJ1_canEncode_9a6ad.cls ≠ _ by decide +kernel, show yJ1_canEncode_9a6ad.cls ≠ _ by decide +kernel, show (parseMethodDescriptor yJ1_canEncode_9a6ad.desc).map (fun d => d.parameters.length) = _ by decide +kernel⟩, (tw_of (i := 741) (by decide +kernel) rfl)⟩
set_option maxRecDepth 4000 in
theorem mwJ1_indexOfChar_4cfef : MWS mJ1_indexOfChar_4cfef 4 := ⟨⟨(tw_of (i := 16) (by decide +kernel) rfl), tk4 (i := 27) rfl rfl, show yJ1_indexOfChar_4cfef.cls ≠ _ by decide +kernel, show yJ1_indexOfChar_4cfef.cls ≠ _ by decide +kernel, show (parseMethodDescriptor yJ1_indexOfChar_4cfef.desc).map (fun d => d.parameters.length) = _ by decide +kernel⟩, (tw_of (i := 746) (by decide +kernel) rfl)⟩
set_option maxRecDepth 4000 in
theorem mwJ1_indexOf_4cfef : MWS mJ1_indexOf_4cfef 4 := ⟨⟨(tw_of (i := 16) (by decide +kernel) rfl), tk4 (i := 19) rfl rfl, show yJ1_indexOf_4cfef.cls ≠ _ by decide +kernel, show yJ1_indexOf_4cfef.cls ≠ _ by decide +kernel, show (parseMethodDescriptor yJ1_indexOf_4cfef.desc).map (fun d => d.parameters.length) = _ by decide +kernel⟩, (tw_of (i := 738) (by decide +kernel) rfl)⟩
set_option maxRecDepth 4000 in
theorem mwJ0_indexOf_7cf53 : MWV mJ0_indexOf_7cf53 2 := ⟨⟨(tw_of (i := 15) (by decide +kernel) rfl), tk4 (i := 15) rfl rfl, show yJ0_indexOf_7cf53.cls ≠ _ by decide +kernel, show yJ0_indexOf_7cf53.cls ≠ _ by decide +kernel, show (parseMethodDescriptor yJ0_indexOf_7cf53.desc).map (fun d => d.parameters.length) = _ by decide +kernel⟩, (tw_of (i := 733) (by decide +kernel) rfl), (tw_of (i := 734) (by decide +kernel) rfl)⟩
set_option maxRecDepth 4000 in
theorem mwJ0_indexOf_0f7a4 : MWV mJ0_indexOf_0f7a4 1 := ⟨⟨(tw_of (i := 15) (by decide +kernel) rfl), tk4 (i := 11) rfl rfl, show yJ0_indexOf_0f7a4.cls ≠ _ by decide +kernel, show yJ0_indexOf_0f7a4.cls ≠ _ by decide +kernel, show (parseMethodDescriptor yJ0_indexOf_0f7a4.desc).map (fun d => d.parameters.length) = _ by decide +kernel⟩, (tw_of (i := 729) (by decide +kernel) rfl), (tw_of (i := 730) (by decide +kernel) rfl)⟩
theorem swV : Cond.fieldLink "java/lang/String" 9 "java/lang/String" "value" "[B" ∈ TW := (tw_of (i := 1879) (by decide +kernel) rfl)
theorem swC : Cond.fieldLink "java/lang/String" 15 "java/lang/String" "coder" "B" ∈ TW := (tw_of (i := 1880) (by decide +kernel) rfl)
theorem swS : Cond.fieldLink "java/lang/String" 38 "java/lang/String" "COMPACT_STRINGS" "Z" ∈ TW := (tw_of (i := 672) (by decide +kernel) rfl)
theorem swF : Cond.fieldLink "java/lang/String" 1053 fmC fmN fmD ∈ TW := (tw_of (i := 688) (by decide +kernel) rfl)
theorem ea_s {X : Cx} {ads : List Nat} {r : Nat} (h : 1000 ≤ r ∧ r < 1024) : ea X ads r = X.2.2.2.2.1 (r - 1000) := by
  rw [ea, if_neg (by omega), if_pos (by omega)]
theorem ea_v {X : Cx} {ads : List Nat} {r : Nat} (h : 1000 ≤ r ∧ r < 1024) : ea X ads (r + 1000) = X.2.2.2.2.2 (r - 1000) := by
  rw [ea, if_neg (by omega), if_neg (by omega), show r + 1000 - 2000 = r - 1000 by omega]
theorem sb_all : ∀ i : Nat, i < 24 → lenS.getD i 0 = (bytS.getD i []).length ∧ lenS.getD i 0 < 1000 ∧ (bytS.getD i []).all (fun b => decide (0 ≤ b.toInt) && decide (b.toInt < 128)) = true := by decide +kernel
theorem sCh_rg {r : Nat} (h : 1000 ≤ r ∧ r < 1024) (i : Int) : 0 ≤ sCh r i ∧ sCh r i < 128 := by
  obtain ⟨-, -, h3⟩ := sb_all (r - 1000) (by omega)
  unfold sCh
  rw [List.getD_eq_getElem?_getD]
  cases hq : (bytS.getD (r - 1000) [])[i.toNat]? with
  | none => exact ⟨by decide, by decide⟩
  | some b =>
    have := List.all_eq_true.mp h3 b (List.mem_of_getElem? hq)
    simpa [Bool.and_eq_true, decide_eq_true_eq] using this
theorem sLen_rg {r : Nat} (h : 1000 ≤ r ∧ r < 1024) : 0 ≤ sLen r ∧ sLen r < 1000 := by
  obtain ⟨-, h2, -⟩ := sb_all (r - 1000) (by omega)
  unfold sLen
  omega
section JS
variable {α β : Type} {X : Cx} {M : MM} {P : PG} {tb : TB} {R : Room} {kc nc : Nat} {EX : EXT} {F : α → Prop × ZT} {ads : List Nat} {sk : List Sk} {L : List (Option PV)} {st : List PV} {σ : Sg} {res : Option α} {pc pc2 : Nat}
theorem j_sgv (n : Nat) {r : Nat} (hn : P[n]? = some (.getfield 9, pc, pc2)) (hM : M.1.cls = "java/lang/String") (hr : 1000 ≤ r ∧ r < 1024) (kk : J X M P tb R kc nc EX F ads sk (pc2, L, .inr (some (r + 1000)) :: st, σ) res) : J X M P tb R kc nc EX F ads sk (pc, L, .inr (some r) :: st, σ) res := by
  refine J.step (ps2 := (pc2, L, .inr (some (r + 1000)) :: st, σ)) (fun ho a ha hq => ⟨ha, ⟨hq.1, hq.2.1, nrS_cons trivial (nrS_tail hq.2.2)⟩, fun Z kk => ?_⟩) kk
  obtain ⟨hd, rfl⟩ := okP_get ho.1 hn (by simp [lenI])
  intro p e s m args below meth cc H locs ls FF hE hP hD hS hl
  have kk2 := kk p e s m args below meth cc H locs ls FF hE hP hD hS hl
  show W _ _ _ _ _ _ _ _ _ _ _ _ _ _ _ (F0 m pc ls (.ref (ea X ads r) :: emS X ads st))
  have kk3 : W p X.1 e R s m args below meth cc H locs kc nc (Z below args s) (F0 m (pc + 3) ls (.ref (ea X ads (r + 1000)) :: emS X ads st)) := kk2
  rw [ea_v hr] at kk3
  rw [ea_s hr]
  exact vk_getf FF.1 FF.2.1 ((FF.2.2.2.2.2.2.2.2.2.1.2.1.1 (r - 1000) (show r - 1000 < 24 by omega)).2.2.1) hS (by rw [← hM]; exact FF.2.2.2.2.1) (FF.2.2.2.2.2.1 _ swV) (fun x hx => hx) hd kk3
theorem j_sgc (n : Nat) {r : Nat} (hn : P[n]? = some (.getfield 15, pc, pc2)) (hM : M.1.cls = "java/lang/String") (hr : 1000 ≤ r ∧ r < 1024) (kk : J X M P tb R kc nc EX F ads sk (pc2, L, .inl 0 :: st, σ) res) : J X M P tb R kc nc EX F ads sk (pc, L, .inr (some r) :: st, σ) res := by
  refine J.step (ps2 := (pc2, L, .inl 0 :: st, σ)) (fun ho a ha hq => ⟨ha, ⟨hq.1, hq.2.1, nrS_cons (rfl : bw 0 = 0) (nrS_tail hq.2.2)⟩, fun Z kk => ?_⟩) kk
  obtain ⟨hd, rfl⟩ := okP_get ho.1 hn (by simp [lenI])
  intro p e s m args below meth cc H locs ls FF hE hP hD hS hl
  have kk2 := kk p e s m args below meth cc H locs ls FF hE hP hD hS hl
  show W _ _ _ _ _ _ _ _ _ _ _ _ _ _ _ (F0 m pc ls (.ref (ea X ads r) :: emS X ads st))
  rw [ea_s hr]
  exact vk_getf FF.1 FF.2.1 ((FF.2.2.2.2.2.2.2.2.2.1.2.1.1 (r - 1000) (show r - 1000 < 24 by omega)).2.1) hS (by rw [← hM]; exact FF.2.2.2.2.1) (FF.2.2.2.2.2.1 _ swC) (fun x hx => hx) hd kk2
theorem j_gst (hM : M.1.cls = "java/lang/String") (hdd : decode M.2.1 pc = .ok (.getstatic 38, 3)) (kk : J X M P tb R kc nc EX F ads sk (pc + 3, L, .inl 1 :: st, σ) res) : J X M P tb R kc nc EX F ads sk (pc, L, st, σ) res := by
  refine J.step (ps2 := (pc + 3, L, .inl 1 :: st, σ)) (fun ho a ha hq => ⟨ha, ⟨hq.1, hq.2.1, nrS_cons (rfl : bw 1 = 1) hq.2.2⟩, fun Z kk => ?_⟩) kk
  intro p e s m args below meth cc H locs ls FF hE hP hD hS hl
  have kk2 := kk p e s m args below meth cc H locs ls FF hE hP hD hS hl
  exact va_gets FF.1 FF.2.1 FF.2.2.2.2.2.2.2.2.2.1.2.2.1 hS (by rw [← hM]; exact FF.2.2.2.2.1) (FF.2.2.2.2.2.1 _ swS) (fun x hx => hx) hdd kk2
theorem j_gstF (hM : M.1.cls = "java/lang/String") (hdd : decode M.2.1 pc = .ok (.getstatic 1053, 3)) (kk : ∀ r : Option Nat, J X M P tb R kc nc EX F ads sk (pc + 3, L, .inr r :: st, σ) res) : J X M P tb R kc nc EX F ads sk (pc, L, st, σ) res := by
  intro ho a ha hq
  have hq2 : ∀ r : Option Nat, nrP M (pc + 3, L, .inr r :: st, σ) := fun r => ⟨hq.1, hq.2.1, nrS_cons trivial hq.2.2⟩
  refine ⟨(kk none ho a ha (hq2 none)).1, ?_⟩
  intro p e s m args below meth cc H locs ls FF hE hP hD hS hl
  have hown : s.vm.findClass "java/lang/String" = some m.cls := by rw [← hM]; exact FF.2.2.2.2.1
  rcases FF.2.2.2.2.2.2.2.2.2.1.2.2.2.2 with h | h
  · exact va_gets FF.1 FF.2.1 h hS hown (FF.2.2.2.2.2.1 _ swF) (fun x hx => hx) hdd ((kk none ho a ha (hq2 none)).2 p e s m args below meth cc H locs ls FF hE hP hD hS hl)
  · exact va_gets FF.1 FF.2.1 h hS hown (FF.2.2.2.2.2.1 _ swF) (fun x hx => hx) hdd ((kk (some 11999) ho a ha (hq2 _)).2 p e s m args below meth cc H locs ls FF hE hP hD hS hl)
theorem j_sal (n : Nat) {r : Nat} (hn : P[n]? = some (.arraylength, pc, pc2)) (hr : 1000 ≤ r ∧ r < 1024) (kk : J X M P tb R kc nc EX F ads sk (pc2, L, .inl (sLen r) :: st, σ) res) : J X M P tb R kc nc EX F ads sk (pc, L, .inr (some (r + 1000)) :: st, σ) res := by
  have hg := sLen_rg hr
  refine J.step (ps2 := (pc2, L, .inl (sLen r) :: st, σ)) (fun ho a ha hq => ⟨ha, ⟨hq.1, hq.2.1, nrS_cons (bw_id (by omega) (by omega)) (nrS_tail hq.2.2)⟩, fun Z kk => ?_⟩) kk
  obtain ⟨hd, rfl⟩ := okP_get ho.1 hn (by simp [lenI])
  intro p e s m args below meth cc H locs ls FF hE hP hD hS hl
  have kk2 := kk p e s m args below meth cc H locs ls FF hE hP hD hS hl
  show W _ _ _ _ _ _ _ _ _ _ _ _ _ _ _ (F0 m pc ls (.ref (ea X ads (r + 1000)) :: emS X ads st))
  rw [ea_v hr]
  obtain ⟨cell, c1, c2, c3, c4, c5, c6, c7⟩ := ((FF.2.2.2.2.2.2.2.2.2.1.2.1.1 (r - 1000) (show r - 1000 < 24 by omega)).2.2.2).kept hS.2.1
  exact W.alen FF.1 FF.2.1 c1 c2 (n := Int32.ofInt (sLen r)) c5 rfl rfl hd kk2
theorem j_sbal (n : Nat) {r : Nat} {i : Int} (hn : P[n]? = some (.baload, pc, pc2)) (hr : 1000 ≤ r ∧ r < 1024) (kk : J X M P tb R kc nc EX F ads sk (pc2, L, .inl (sCh r i) :: st, σ) res) : J X M P tb R kc nc EX F ads sk (pc, L, .inl i :: .inr (some (r + 1000)) :: st, σ) (grd ((0 : Int) ≤ i ∧ i < sLen r) res) := by
  refine j_grd (fun hi => ?_)
  have hg := sCh_rg hr i
  refine J.step (ps2 := (pc2, L, .inl (sCh r i) :: st, σ)) (fun ho a ha hq => ⟨ha, ⟨hq.1, hq.2.1, nrS_cons (bw_id (by omega) (by omega)) (nrS_tail (nrS_tail hq.2.2))⟩, fun Z kk => ?_⟩) kk
  obtain ⟨hd, rfl⟩ := okP_get ho.1 hn (by simp [lenI])
  have hb : bw i = i := nrS_head hq.2.2
  intro p e s m args below meth cc H locs ls FF hE hP hD hS hl
  have kk2 := kk p e s m args below meth cc H locs ls FF hE hP hD hS hl
  show W _ _ _ _ _ _ _ _ _ _ _ _ _ _ _ (F0 m pc ls (.int (Int32.ofInt i) :: .ref (ea X ads (r + 1000)) :: emS X ads st))
  rw [ea_v hr]
  obtain ⟨cell, c1, c2, c3, c4, c5, c6, c7⟩ := ((FF.2.2.2.2.2.2.2.2.2.1.2.1.1 (r - 1000) (show r - 1000 < 24 by omega)).2.2.2).kept hS.2.1
  have hlt : i.toNat < lenS.getD (r - 1000) 0 := by
    have := hi.2
    unfold sLen at this
    omega
  refine W.bald FF.1 FF.2.1 c1 c2 c3 (v := .int ((bytS.getD (r - 1000) []).getD i.toNat 0)) ?_ ?_ rfl rfl hd ?_
  · rw [cl_of hb]
    rintro (q | q)
    · have := (ofI_lt hb (y := 0) rfl).mp q
      omega
    · omega
  · rw [cl_of hb]; exact c6 _ hlt
  · have : emS X ads (.inl (sCh r i) :: st) = .int ((bytS.getD (r - 1000) []).getD i.toNat 0) :: emS X ads st := by
      show Value.int (Int32.ofInt (sCh r i)) :: _ = _
      rw [sCh, Int32.ofInt_toInt]; rfl
    rw [← this]; exact kk2
theorem j_nret (n : Nat) {x : Int} {ty : FieldType} {w : β → Option PV × Sg} {a : β} (hn : P[n]? = some (.ireturn, pc, pc2)) (hr : M.2.2.2.1 = some ty) (hnb : ty ≠ .boolean) (hx : narrow ty (.int (Int32.ofInt x)) = .int (Int32.ofInt x)) (hw : w a = (some (.inl x), σ)) : J X M P tb R 0 0 EX (fun a => FM X M ads sk (w a)) ads sk (pc, L, [.inl x], σ) (some a) := by
  intro ho a2 ha hq
  cases ha
  obtain ⟨hd, rfl⟩ := okP_get ho.1 hn (by simp [lenI])
  refine ⟨fun v hv => ?_, ?_⟩
  · rw [hw] at hv
    cases hv
    exact ⟨nrS_head hq.2.2, fun h => absurd (Option.some.inj (hr.symm.trans h)) hnb⟩
  · intro p e s m args below meth cc H locs ls FF hE hP hD hS hl
    refine W.zret (ty := ty) FF.1 FF.2.1 (FF.2.2.2.1.trans hr) hx (fun t ht hW => ?_) hS.2.2 hd FF.2.2.2.2.2.2.1
    refine ⟨⟨_, _, rfl, ⟨?_, rfl⟩, ?_⟩, hS.F ht⟩
    · rw [hw]; rfl
    · rw [hw]
      exact WD.here FF.2.2.2.2.2.2.2.2.1 FF.2.2.2.2.2.2.2.2.2.1 FF.2.2.2.2.2.2.2.2.2.2 hP hD hS ht hW
/-- a call to a text -/
theorem j_cvS (n j ar : Nat) {N : MM} {idx r : Nat} {As st0 : List PV} {w : β → Option PV × Sg} {r0 : Option β} {K : β → Option α} (hn : P[n]? = some (.invokevirtual idx, pc, pc2)) (hm : tb.2.2.1[j]? = some (idx, N.1)) (hw : MWV N ar) (hr : 1000 ≤ r ∧ r < 1024) (hcn : N.1.cls = "java/lang/String") (hC : CF X N ads sk (.inr (some r) :: As) σ w r0) (hlen : As.length = ar) (hst : As.reverse ++ .inr (some r) :: st = st0) (hR : RoomOK R N kc nc 0 0) (h8 : st.length ≤ 8)
    (k : ∀ a, r0 = some a → nrR N (w a).1 → J X M P tb R kc nc EX F ads sk (pc2, L, (w a).1.toList ++ st, (w a).2) (K a)) : J X M P tb R kc nc EX F ads sk (pc, L, st0, σ) (r0.bind K) := by
  intro ho b hb hq
  obtain ⟨a, h1, h2⟩ := Option.bind_eq_some_iff.mp hb
  obtain ⟨hd, rfl⟩ := okP_get ho.1 hn (by simp [lenI])
  subst hst
  have hA := nrS_rev (As := As) (st := .inr (some r) :: st) hq.2.2
  obtain ⟨c1, c2⟩ := hC a h1 (nrS_cons trivial hA.1)
  have k1 := k a h1 c1 ho b h2 ⟨hq.1, hq.2.1, nrS_res c1 (nrS_tail hA.2)⟩
  refine ⟨k1.1, ?_⟩
  have er : em X ads (.inr (some r)) = .ref (X.2.2.2.2.1 (r - 1000)) := by
    show Value.ref (ea X ads r) = _
    rw [ea_s hr]
  rw [List.map_cons, er] at c2
  show WZ _ _ _ _ _ _ _ _ _ (emS X ads (As.reverse ++ .inr (some r) :: st)) _
  have e1 : emS X ads (As.reverse ++ .inr (some r) :: st) = (As.map (em X ads)).reverse ++ .ref (X.2.2.2.2.1 (r - 1000)) :: emS X ads st := by
    rw [emS_app]
    simp only [emS, List.map_cons, List.map_reverse, er]
  rw [e1]
  refine w_callVS (show r - 1000 < 24 by omega) hd (ho.2.1.2.2.1 _ (List.mem_of_getElem? hm)) hw (by simpa using hlen) hcn c2 hR (em_sum h8) ?_
  rintro v ws2 ⟨rfl, rfl⟩
  rw [emS_res]
  exact k1.2
theorem j_cvST (n j ar : Nat) {N : MM} {idx r : Nat} {As st0 : List PV} {w : β → Option PV × Sg} {a : β} (hn : P[n]? = some (.invokevirtual idx, pc, pc2)) (hm : tb.2.2.1[j]? = some (idx, N.1)) (hw : MWV N ar) (hr : 1000 ≤ r ∧ r < 1024) (hcn : N.1.cls = "java/lang/String") (hC : CF X N ads sk (.inr (some r) :: As) σ w (some a)) (hlen : As.length = ar) (hst : As.reverse ++ .inr (some r) :: st = st0) (hR : RoomOK R N kc nc 0 0) (h8 : st.length ≤ 8)
    (k : nrR N (w a).1 → J X M P tb R kc nc EX F ads sk (pc2, L, (w a).1.toList ++ st, (w a).2) res) : J X M P tb R kc nc EX F ads sk (pc, L, st0, σ) res :=
  j_cvS (K := fun _ => res) n j ar hn hm hw hr hcn hC hlen hst hR h8 (fun b hb hr => by cases hb; exact k hr)
theorem bshr0 {x : Int} (h : bw x = x) : bshr x 0 = x := by
  unfold bshr
  have : (Int32.ofInt x >>> (Int32.ofInt 0 &&& 31)) = Int32.ofInt x := by
    rw [show (Int32.ofInt 0 &&& 31) = (0 : Int32) from rfl]
    exact Int32.shiftRight_zero
  rw [this, ofI_toInt h]
end JS
def ckI (x0 x1 : Int) : Option Int := if x0 < 0 then none else if x0 < x1 then some x0 else none
theorem ckI_some {x0 x1 : Int} (h0 : 0 ≤ x0) (h1 : x0 < x1) : ckI x0 x1 = some x0 := by
  rw [ckI, if_neg (by omega), if_pos h1]
section JE
variable {X : Cx} {ads : List Nat} {sk : List Sk}
theorem eJ0_coder (hA : ads.length = sk.length ∧ sk.length ≤ 1000) {r : Nat} (hr : 1000 ≤ r ∧ r < 1024) (σ : Sg) : CF X mJ0_coder_7d493 ads sk [.inr (some r)] σ (wP σ) (some 0) := by
  refine CF.of ⟨pJ0_coder_7d493_ok, tbJ0_ok, hA.1, hA.2⟩ (plainFor_of_name plJ0) (Nat.le_of_ble_eq_true rfl) ?_
  refine j_gst rfl (by decide +kernel) ?_
  refine jb_if 0 ((1 : Int) = 0) rfl rfl Iff.rfl (fun h => absurd h (by decide)) (fun _ => ?_)
  refine j_run 1 1 rfl ?_
  refine j_sgc 2 rfl rfl hr ?_
  refine j_goto 3 rfl rfl ?_
  exact j_nret 5 rfl rfl (by decide) rfl rfl
theorem eJ0_isLatin1 (hA : ads.length = sk.length ∧ sk.length ≤ 1000) {r : Nat} (hr : 1000 ≤ r ∧ r < 1024) (σ : Sg) : CF X mJ0_isLatin1_aae02 ads sk [.inr (some r)] σ (wP σ) (some 1) := by
  refine CF.of ⟨pJ0_isLatin1_aae02_ok, tbJ0_ok, hA.1, hA.2⟩ (plainFor_of_name plJ0) (Nat.le_of_ble_eq_true rfl) ?_
  refine j_gst rfl (by decide +kernel) ?_
  refine jb_if 0 ((1 : Int) = 0) rfl rfl Iff.rfl (fun h => absurd h (by decide)) (fun _ => ?_)
  refine j_run 1 1 rfl ?_
  refine j_sgc 2 rfl rfl hr ?_
  refine jb_if 3 (¬ (0 : Int) = 0) rfl rfl Iff.rfl (fun h => absurd rfl h) (fun _ => ?_)
  refine j_run 4 1 rfl ?_
  refine j_goto 5 rfl rfl ?_
  exact j_zret 7 rfl rfl (by decide) rfl
theorem eJ0_length (hA : ads.length = sk.length ∧ sk.length ≤ 1000) {r : Nat} (hr : 1000 ≤ r ∧ r < 1024) (σ : Sg) : CF X mJ0_length_8abf5 ads sk [.inr (some r)] σ (wP σ) (some (sLen r)) := by
  have hg := sLen_rg hr
  refine CF.of ⟨pJ0_length_8abf5_ok, tbJ0_ok, hA.1, hA.2⟩ (plainFor_of_name plJ0) (Nat.le_of_ble_eq_true rfl) ?_
  refine j_run 0 1 rfl ?_
  refine j_sgv 1 rfl rfl hr ?_
  refine j_sal 2 rfl hr ?_
  refine j_run 3 1 rfl ?_
  refine j_cvST 4 0 0 rfl rfl mwJ0_coder_7d493 hr rfl (eJ0_coder hA hr _) rfl rfl (rok rfl rfl) (Nat.le_of_ble_eq_true rfl) (fun _ => ?_)
  refine j_run 5 1 rfl ?_
  refine j_iret (x := bshr (sLen r) 0) 6 rfl rfl ?_
  rw [bshr0 (bw_id (by omega) (by omega))]
theorem eJ3_checkIndex (hA : ads.length = sk.length ∧ sk.length ≤ 1000) (x0 x1 : Int) (r : Option Nat) (σ : Sg) : CF X mJ3_checkIndex_8e157 ads sk [.inl x0, .inl x1, .inr r] σ (wP σ) (ckI x0 x1) := by
  refine CF.of ⟨pJ3_checkIndex_8e157_ok, tbJ3_ok, hA.1, hA.2⟩ (plainFor_of_name plJ3) (Nat.le_of_ble_eq_true rfl) ?_
  unfold ckI
  refine j_run 0 1 rfl ?_
  refine jc_if_lt 1 rfl rfl (fun _ => j_none) (fun _ => ?_)
  refine j_run 2 2 rfl ?_
  refine jc_icmp_lt 4 rfl rfl (fun _ => ?_) (fun _ => j_none)
  refine j_run 10 1 rfl ?_
  exact j_iret 11 rfl rfl rfl
theorem eJ0_checkIndex (hA : ads.length = sk.length ∧ sk.length ≤ 1000) (x0 x1 : Int) (σ : Sg) : CF X mJ0_checkIndex_df160 ads sk [.inl x0, .inl x1] σ wV ((ckI x0 x1).bind fun _ => some σ) := by
  refine CF.of ⟨pJ0_checkIndex_df160_ok, tbJ0_ok, hA.1, hA.2⟩ (plainFor_of_name plJ0) (Nat.le_of_ble_eq_true rfl) ?_
  refine j_run 0 2 rfl ?_
  refine j_gstF rfl (by decide +kernel) (fun r => ?_)
  refine j_cs 2 6 3 rfl rfl mwJ3_checkIndex_8e157 (eJ3_checkIndex hA x0 x1 r _) rfl rfl (rok rfl rfl) (Nat.le_of_ble_eq_true rfl) (fun _ _ _ => ?_)
  refine j_run 3 1 rfl ?_
  exact j_vret 4 rfl rfl rfl
theorem chr_id : ∀ n : Nat, n < 128 → i2c (band (n : Int) 255) = (n : Int) ∧ narrow .char (.int (Int32.ofInt (n : Int))) = .int (Int32.ofInt (n : Int)) ∧ i2b (n : Int) = (n : Int) := by decide +kernel
theorem sCh_id {r : Nat} (hr : 1000 ≤ r ∧ r < 1024) (i : Int) : i2c (band (sCh r i) 255) = sCh r i ∧ narrow .char (.int (Int32.ofInt (sCh r i))) = .int (Int32.ofInt (sCh r i)) := by
  have hg := sCh_rg hr i
  have := chr_id (sCh r i).toNat (by omega)
  rw [Int.toNat_of_nonneg hg.1] at this
  exact ⟨this.1, this.2.1⟩
theorem eJ1_charAt (hA : ads.length = sk.length ∧ sk.length ≤ 1000) {r : Nat} (hr : 1000 ≤ r ∧ r < 1024) (i : Int) (σ : Sg) : CF X mJ1_charAt_3b067 ads sk [.inr (some (r + 1000)), .inl i] σ (wP σ) (grd ((0 : Int) ≤ i ∧ i < sLen r) (some (sCh r i))) := by
  refine CF.of ⟨pJ1_charAt_3b067_ok, tbJ1_ok, hA.1, hA.2⟩ (plainFor_of_name plJ1) (Nat.le_of_ble_eq_true rfl) ?_
  refine j_grd (fun hi => ?_)
  refine j_run 0 2 rfl ?_
  refine j_sal 2 rfl hr ?_
  have hc := eJ0_checkIndex (X := X) hA i (sLen r) σ
  rw [ckI_some hi.1 hi.2] at hc
  refine j_csT 3 0 2 rfl rfl mwJ0_checkIndex_df160 (a := σ) hc rfl rfl (rok rfl rfl) (Nat.le_of_ble_eq_true rfl) (fun _ => ?_)
  refine j_run 4 2 rfl ?_
  have hb := j_sbal (X := X) (M := mJ1_charAt_3b067) (P := pJ1_charAt_3b067) (tb := tbJ1) (R := rmD 2 0 0) (kc := 0) (nc := 0) (EX := E0) (F := fun a => FM X mJ1_charAt_3b067 ads sk (wP σ a)) (ads := ads) (sk := sk) (L := [some (.inr (some (r + 1000))), some (.inl i)]) (st := []) (σ := σ) (res := some (sCh r i)) (pc := 8) (pc2 := 9) 6 (r := r) (i := i) rfl hr ?_
  · unfold grd at hb
    rw [if_pos hi] at hb
    exact hb
  refine j_run 7 3 rfl ?_
  refine j_nret (x := i2c (band (sCh r i) 255)) 10 rfl rfl (by decide) ?_ ?_
  · rw [(sCh_id hr i).1]; exact (sCh_id hr i).2
  · rw [(sCh_id hr i).1]
theorem eJ0_charAt (hA : ads.length = sk.length ∧ sk.length ≤ 1000) {r : Nat} (hr : 1000 ≤ r ∧ r < 1024) (i : Int) (σ : Sg) : CF X mJ0_charAt_5068e ads sk [.inr (some r), .inl i] σ (wP σ) (grd ((0 : Int) ≤ i ∧ i < sLen r) (some (sCh r i))) := by
  refine CF.of ⟨pJ0_charAt_5068e_ok, tbJ0_ok, hA.1, hA.2⟩ (plainFor_of_name plJ0) (Nat.le_of_ble_eq_true rfl) ?_
  refine j_grd (fun hi => ?_)
  refine j_run 0 1 rfl ?_
  refine j_cvST 1 1 0 rfl rfl mwJ0_isLatin1_aae02 hr rfl (eJ0_isLatin1 hA hr _) rfl rfl (rok rfl rfl) (Nat.le_of_ble_eq_true rfl) (fun _ => ?_)
  refine jb_if 2 ((1 : Int) = 0) rfl rfl Iff.rfl (fun h => absurd h (by decide)) (fun _ => ?_)
  refine j_run 3 1 rfl ?_
  refine j_sgv 4 rfl rfl hr ?_
  refine j_run 5 1 rfl ?_
  have hc := eJ1_charAt (X := X) hA hr i σ
  unfold grd at hc
  rw [if_pos hi] at hc
  refine j_csT 6 2 2 rfl rfl mwJ1_charAt_3b067 (a := sCh r i) (w := wP σ) hc rfl rfl (rok rfl rfl) (Nat.le_of_ble_eq_true rfl) (fun _ => ?_)
  exact j_nret 7 rfl rfl (by decide) (sCh_id hr i).2 rfl
theorem eJ1_canEncode (hA : ads.length = sk.length ∧ sk.length ≤ 1000) (x : Int) (σ : Sg) : CF X mJ1_canEncode_9a6ad ads sk [.inl x] σ (wP σ) (some (if x < 0 then 0 else if 255 < x then 0 else 1)) := by
  refine CF.of ⟨pJ1_canEncode_9a6ad_ok, tbJ1_ok, hA.1, hA.2⟩ (plainFor_of_name plJ1) (Nat.le_of_ble_eq_true rfl) ?_
  refine j_run 0 1 rfl ?_
  refine jt_if_lt 1 rfl rfl (fun _ => ?_) (fun _ => ?_)
  · refine j_run 7 1 rfl ?_
    exact j_zret 8 rfl rfl (by decide) rfl
  refine j_run 2 2 rfl ?_
  refine jt_icmp_gt 4 rfl rfl (fun _ => ?_) (fun _ => ?_)
  · refine j_run 7 1 rfl ?_
    exact j_zret 8 rfl rfl (by decide) rfl
  · refine j_run 5 1 rfl ?_
    refine j_goto 6 rfl rfl ?_
    exact j_zret 8 rfl rfl (by decide) rfl
/-- the loop of indexOf -/
def ixL (r : Nat) (ch to : Int) : Nat → Int → Option Int
  | 0, _ => none
  | n + 1, i => if i < to then grd ((0 : Int) ≤ i ∧ i < sLen r) (if sCh r i = ch then some i else ixL r ch to n (bw (i + 1))) else some (-1)
theorem JixL (hA : ads.length = sk.length ∧ sk.length ≤ 1000) {r : Nat} (hr : 1000 ≤ r ∧ r < 1024) (ch to : Int) (σ : Sg) (x1 x2 : Option PV) : ∀ (n : Nat) (i : Int), J X mJ1_indexOfChar_4cfef pJ1_indexOfChar_4cfef tbJ1 (rmD 0 0 0) 0 0 E0 (fun a => FM X mJ1_indexOfChar_4cfef ads sk (wP σ a)) ads sk (7, [some (.inr (some (r + 1000))), x1, x2, some (.inl to), some (.inl ch), some (.inl i)], [], σ) (ixL r ch to n i) := by
  intro n
  induction n with
  | zero => intro i; exact j_none
  | succ n ih =>
    intro i
    rw [ixL]
    refine j_run 5 2 rfl ?_
    refine jc_icmp_ge 7 rfl rfl (fun _ => ?_) (fun _ => ?_)
    · refine j_run 8 2 rfl ?_
      refine j_sbal 10 rfl hr ?_
      refine j_run 11 1 rfl ?_
      refine jc_icmp_ne 12 rfl rfl (fun _ => ?_) (fun _ => ?_)
      · refine j_run 13 1 rfl ?_
        exact j_iret 14 rfl rfl rfl
      · refine j_run 15 1 rfl ?_
        refine j_goto 16 rfl rfl ?_
        exact ih _
    · refine j_run 17 1 rfl ?_
      exact j_iret 18 rfl rfl rfl
end JE
theorem eJ1_indexOfChar {X : Cx} {ads : List Nat} {sk : List Sk} (hA : ads.length = sk.length ∧ sk.length ≤ 1000) {r : Nat} (hr : 1000 ≤ r ∧ r < 1024) (ch fr to : Int) (σ : Sg) : CF X mJ1_indexOfChar_4cfef ads sk [.inr (some (r + 1000)), .inl ch, .inl fr, .inl to] σ (wP σ) (ixL r (i2b ch) to FU fr) := by
  refine CF.of ⟨pJ1_indexOfChar_4cfef_ok, tbJ1_ok, hA.1, hA.2⟩ (plainFor_of_name plJ1) (Nat.le_of_ble_eq_true rfl) ?_
  refine j_run 0 5 rfl ?_
  exact JixL hA hr (i2b ch) to σ _ _ FU fr
theorem ixL_list {r : Nat} (hr : 1000 ≤ r ∧ r < 1024) (c : Int) : ∀ (l : List Int32) (i n : Nat), (bytS.getD (r - 1000) []).drop i = l → l.length < n → ixL r c (sLen r) n (i : Int) = some (match l.findIdx? (fun b => decide (b.toInt = c)) with
    | some k => ((i : Int) + (k : Int))
    | none => -1)
  | l, i, 0, hl, hn => by omega
  | [], i, n + 1, hl, hn => by
    have h1 := List.drop_eq_nil_iff.mp hl
    obtain ⟨q1, q2, -⟩ := sb_all (r - 1000) (by omega)
    rw [ixL, if_neg (by unfold sLen; omega)]
    rfl
  | b :: t, i, n + 1, hl, hn => by
    obtain ⟨q1, q2, -⟩ := sb_all (r - 1000) (by omega)
    have hi : i < (bytS.getD (r - 1000) []).length := by
      rcases Nat.lt_or_ge i (bytS.getD (r - 1000) []).length with h | h
      · exact h
      · rw [List.drop_eq_nil_iff.mpr h] at hl; cases hl
    rw [List.drop_eq_getElem_cons hi] at hl
    obtain ⟨hb, ht⟩ := List.cons.inj hl
    have hc : sCh r (i : Int) = b.toInt := by
      unfold sCh
      rw [Int.toNat_natCast, List.getD_eq_getElem?_getD, List.getElem?_eq_getElem hi, hb]; rfl
    have hlen : (i : Int) < sLen r := by unfold sLen; omega
    rw [ixL, if_pos hlen]
    unfold grd
    rw [if_pos ⟨by omega, hlen⟩, hc, List.findIdx?_cons]
    by_cases h : b.toInt = c
    · rw [if_pos h]
      simp [h]
    · rw [if_neg h, bw_id (by omega) (by unfold sLen at hlen; omega)]
      have := ixL_list hr c t (i + 1) n ht (by simp at hn; omega)
      rw [show ((i : Int) + 1) = ((i + 1 : Nat) : Int) by omega, this]
      simp only [h, decide_false, Bool.false_eq_true, if_false]
      cases hq : t.findIdx? (fun b => decide (b.toInt = c)) with
      | none => simp
      | some k =>
        show some (((i + 1 : Nat) : Int) + (k : Int)) = some ((i : Int) + ((k + 1 : Nat) : Int))
        exact congrArg some (by omega)
theorem i2b_hi : ∀ n : Nat, n < 128 → i2b ((n : Int) + 128) = (n : Int) - 128 := by decide +kernel
theorem ixL_ok {r : Nat} (hr : 1000 ≤ r ∧ r < 1024) {ch : Int} (h0 : 0 ≤ ch) (h1 : ch ≤ 255) : ixL r (i2b ch) (sLen r) FU 0 = some (sIx r ch) := by
  obtain ⟨q1, q2, q3⟩ := sb_all (r - 1000) (by omega)
  have h := ixL_list hr (i2b ch) (bytS.getD (r - 1000) []) 0 FU rfl (by unfold FU; omega)
  rw [show ((0 : Nat) : Int) = 0 from rfl] at h
  rw [h]
  unfold sIx
  rcases Int.lt_or_le ch 128 with hc | hc
  · have := (chr_id ch.toNat (by omega)).2.2
    rw [Int.toNat_of_nonneg h0] at this
    rw [this]
    cases (bytS.getD (r - 1000) []).findIdx? (fun b => decide (b.toInt = ch)) with
    | none => rfl
    | some k => simp
  · have e := i2b_hi (ch - 128).toNat (by omega)
    rw [Int.toNat_of_nonneg (by omega), show ch - 128 + 128 = ch by omega] at e
    have n1 : (bytS.getD (r - 1000) []).findIdx? (fun b => decide (b.toInt = i2b ch)) = none := by
      rw [List.findIdx?_eq_none_iff]
      intro b hb
      have := List.all_eq_true.mp q3 b hb
      simp only [Bool.and_eq_true, decide_eq_true_eq] at this
      simp only [decide_eq_false_iff_not]
      omega
    have n2 : (bytS.getD (r - 1000) []).findIdx? (fun b => decide (b.toInt = ch)) = none := by
      rw [List.findIdx?_eq_none_iff]
      intro b hb
      have := List.all_eq_true.mp q3 b hb
      simp only [Bool.and_eq_true, decide_eq_true_eq] at this
      simp only [decide_eq_false_iff_not]
      omega
    rw [n1, n2]
theorem sIx_out {r : Nat} (hr : 1000 ≤ r ∧ r < 1024) {ch : Int} (h : ch < 0 ∨ 255 < ch) : sIx r ch = -1 := by
  obtain ⟨q1, q2, q3⟩ := sb_all (r - 1000) (by omega)
  unfold sIx
  have n2 : (bytS.getD (r - 1000) []).findIdx? (fun b => decide (b.toInt = ch)) = none := by
    rw [List.findIdx?_eq_none_iff]
    intro b hb
    have := List.all_eq_true.mp q3 b hb
    simp only [Bool.and_eq_true, decide_eq_true_eq] at this
    simp only [decide_eq_false_iff_not]
    omega
  rw [n2]
theorem sLen_pos : ∀ i : Nat, i < 24 → 0 < lenS.getD i 0 := by decide +kernel
theorem eJ1_indexOf {X : Cx} {ads : List Nat} {sk : List Sk} (hA : ads.length = sk.length ∧ sk.length ≤ 1000) {r : Nat} (hr : 1000 ≤ r ∧ r < 1024) (ch : Int) (σ : Sg) : CF X mJ1_indexOf_4cfef ads sk [.inr (some (r + 1000)), .inl ch, .inl 0, .inl (sLen r)] σ (wP σ) (some (sIx r ch)) := by
  have hp : 0 < sLen r := by have := sLen_pos (r - 1000) (by omega); unfold sLen; omega
  refine CF.of ⟨pJ1_indexOf_4cfef_ok, tbJ1_ok, hA.1, hA.2⟩ (plainFor_of_name plJ1) (Nat.le_of_ble_eq_true rfl) ?_
  refine j_run 0 1 rfl ?_
  refine j_csT 1 1 1 rfl rfl mwJ1_canEncode_9a6ad (eJ1_canEncode hA ch _) rfl rfl (rok rfl rfl) (Nat.le_of_ble_eq_true rfl) (fun _ => ?_)
  refine jb_if 2 (¬ (if ch < 0 then 0 else if 255 < ch then 0 else 1) = (0 : Int)) rfl rfl Iff.rfl (fun hc => ?_) (fun hc => ?_)
  · have hc1 : 0 ≤ ch ∧ ch ≤ 255 := by
      rcases Int.lt_or_le ch 0 with q | q
      · rw [if_pos q] at hc; exact absurd rfl hc
      · rcases Int.lt_or_le 255 ch with q2 | q2
        · rw [if_neg (by omega), if_pos q2] at hc; exact absurd rfl hc
        · exact ⟨q, q2⟩
    refine j_run 5 2 rfl ?_
    refine j_csT 7 2 2 rfl rfl mwJ9_max_7cf53 (eJ9_max_7cf53 hA 0 0 _) rfl rfl (rok rfl rfl) (Nat.le_of_ble_eq_true rfl) (fun _ => ?_)
    refine j_run 8 3 rfl ?_
    refine j_sal 11 rfl hr ?_
    refine j_csT 12 3 2 rfl rfl mwJ9_min_7cf53 (eJ9_min_7cf53 hA (sLen r) (sLen r) _) rfl rfl (rok rfl rfl) (Nat.le_of_ble_eq_true rfl) (fun _ => ?_)
    refine j_run 13 3 rfl ?_
    have e1 : fJ9_max_7cf53 0 0 = 0 := rfl
    have e2 : fJ9_min_7cf53 (sLen r) (sLen r) = sLen r := by unfold fJ9_min_7cf53; rw [if_neg (by omega)]
    refine jb_icmp 16 (fJ9_max_7cf53 0 0 < fJ9_min_7cf53 (sLen r) (sLen r)) rfl rfl Iff.rfl (fun _ => ?_) (fun h => absurd (by rw [e1, e2]; exact hp) h)
    refine j_run 19 4 rfl ?_
    refine j_csT 23 4 4 rfl rfl mwJ1_indexOfChar_4cfef (w := wP σ) (a := sIx r ch) (As := [.inr (some (r + 1000)), .inl ch, .inl (fJ9_max_7cf53 0 0), .inl (fJ9_min_7cf53 (sLen r) (sLen r))]) ?_ rfl rfl (rok rfl rfl) (Nat.le_of_ble_eq_true rfl) (fun _ => ?_)
    · have := eJ1_indexOfChar (X := X) hA hr ch 0 (sLen r) σ
      rw [ixL_ok hr hc1.1 hc1.2] at this
      rw [e1, e2]
      exact this
    · exact j_iret 24 rfl rfl rfl
  · have hc1 : ch < 0 ∨ 255 < ch := by
      rcases Int.lt_or_le ch 0 with q | q
      · exact Or.inl q
      · rcases Int.lt_or_le 255 ch with q2 | q2
        · exact Or.inr q2
        · rw [if_neg (by omega), if_neg (by omega)] at hc; exact absurd (by decide) hc
    rw [sIx_out hr hc1]
    refine j_run 3 1 rfl ?_
    exact j_iret 4 rfl rfl rfl
theorem eJ0_indexOf2 {X : Cx} {ads : List Nat} {sk : List Sk} (hA : ads.length = sk.length ∧ sk.length ≤ 1000) {r : Nat} (hr : 1000 ≤ r ∧ r < 1024) (ch : Int) (σ : Sg) : CF X mJ0_indexOf_7cf53 ads sk [.inr (some r), .inl ch, .inl 0] σ (wP σ) (some (sIx r ch)) := by
  refine CF.of ⟨pJ0_indexOf_7cf53_ok, tbJ0_ok, hA.1, hA.2⟩ (plainFor_of_name plJ0) (Nat.le_of_ble_eq_true rfl) ?_
  refine j_run 0 1 rfl ?_
  refine j_cvST 1 1 0 rfl rfl mwJ0_isLatin1_aae02 hr rfl (eJ0_isLatin1 hA hr _) rfl rfl (rok rfl rfl) (Nat.le_of_ble_eq_true rfl) (fun _ => ?_)
  refine jb_if 2 ((1 : Int) = 0) rfl rfl Iff.rfl (fun h => absurd h (by decide)) (fun _ => ?_)
  refine j_run 3 1 rfl ?_
  refine j_sgv 4 rfl rfl hr ?_
  refine j_run 5 3 rfl ?_
  refine j_cvST 8 4 0 rfl rfl mwJ0_length_8abf5 hr rfl (eJ0_length hA hr _) rfl rfl (rok rfl rfl) (Nat.le_of_ble_eq_true rfl) (fun _ => ?_)
  refine j_csT 9 5 4 rfl rfl mwJ1_indexOf_4cfef (eJ1_indexOf hA hr ch _) rfl rfl (rok rfl rfl) (Nat.le_of_ble_eq_true rfl) (fun _ => ?_)
  refine j_goto 10 rfl rfl ?_
  exact j_iret 18 rfl rfl rfl
theorem eJ0_indexOf {X : Cx} {ads : List Nat} {sk : List Sk} (hA : ads.length = sk.length ∧ sk.length ≤ 1000) {r : Nat} (hr : 1000 ≤ r ∧ r < 1024) (ch : Int) (σ : Sg) : CF X mJ0_indexOf_0f7a4 ads sk [.inr (some r), .inl ch] σ (wP σ) (some (sIx r ch)) := by
  refine CF.of ⟨pJ0_indexOf_0f7a4_ok, tbJ0_ok, hA.1, hA.2⟩ (plainFor_of_name plJ0) (Nat.le_of_ble_eq_true rfl) ?_
  refine j_run 0 3 rfl ?_
  refine j_cvST 3 3 2 rfl rfl mwJ0_indexOf_7cf53 hr rfl (eJ0_indexOf2 hA hr ch _) rfl rfl (rok rfl rfl) (Nat.le_of_ble_eq_true rfl) (fun _ => ?_)
  exact j_iret 4 rfl rfl rfl
section JT
variable {α : Type} {X : Cx} {M : MM} {P : PG} {tb : TB} {d : Nat} {EX : EXT} {F : α → Prop × ZT} {ads : List Nat} {sk : List Sk} {L : List (Option PV)} {st : List PV} {σ : Sg} {res : Option α} {pc pc2 : Nat}
abbrev mSLen : MM := mJ0_length_8abf5
abbrev mSCh : MM := mJ0_charAt_5068e
abbrev mSIx : MM := mJ0_indexOf_0f7a4
theorem J.okA {R : Room} {kc nc : Nat} {ps : PS} (k : (ads.length = sk.length ∧ sk.length ≤ 1000) → J X M P tb R kc nc EX F ads sk ps res) : J X M P tb R kc nc EX F ads sk ps res := fun ho => k ⟨ho.2.2.1, ho.2.2.2⟩ ho
theorem j_sLen (n j : Nat) {idx r : Nat} (hn : P[n]? = some (.invokevirtual idx, pc, pc2)) (hm : tb.2.2.1[j]? = some (idx, mSLen.1)) (hr : 1000 ≤ r ∧ r < 1024) (hR : RoomOK (rmD d 0 0) mSLen 0 0 0 0) (h8 : st.length ≤ 8) (k : J X M P tb (rmD d 0 0) 0 0 EX F ads sk (pc2, L, .inl (sLen r) :: st, σ) res) : J X M P tb (rmD d 0 0) 0 0 EX F ads sk (pc, L, .inr (some r) :: st, σ) res :=
  J.okA (fun hA => j_cvST n j 0 hn hm mwJ0_length_8abf5 hr rfl (eJ0_length hA hr σ) rfl rfl hR h8 (fun _ => k))
theorem j_sCh (n j : Nat) {idx r : Nat} {i : Int} (hn : P[n]? = some (.invokevirtual idx, pc, pc2)) (hm : tb.2.2.1[j]? = some (idx, mSCh.1)) (hr : 1000 ≤ r ∧ r < 1024) (hR : RoomOK (rmD d 0 0) mSCh 0 0 0 0) (h8 : st.length ≤ 8) (k : J X M P tb (rmD d 0 0) 0 0 EX F ads sk (pc2, L, .inl (sCh r i) :: st, σ) res) : J X M P tb (rmD d 0 0) 0 0 EX F ads sk (pc, L, .inl i :: .inr (some r) :: st, σ) (grd ((0 : Int) ≤ i ∧ i < sLen r) res) :=
  J.okA (fun hA => j_grd (fun hi => j_cvST n j 1 hn hm mwJ0_charAt_5068e hr rfl (a := sCh r i) (w := wP σ) (by
    have := eJ0_charAt (X := X) hA hr i σ
    unfold grd at this
    rw [if_pos hi] at this
    exact this) rfl rfl hR h8 (fun _ => k)))
theorem j_sIx (n j : Nat) {idx r : Nat} {x : Int} (hn : P[n]? = some (.invokevirtual idx, pc, pc2)) (hm : tb.2.2.1[j]? = some (idx, mSIx.1)) (hr : 1000 ≤ r ∧ r < 1024) (hR : RoomOK (rmD d 0 0) mSIx 0 0 0 0) (h8 : st.length ≤ 8) (k : J X M P tb (rmD d 0 0) 0 0 EX F ads sk (pc2, L, .inl (sIx r x) :: st, σ) res) : J X M P tb (rmD d 0 0) 0 0 EX F ads sk (pc, L, .inl x :: .inr (some r) :: st, σ) res :=
  J.okA (fun hA => j_cvST n j 1 hn hm mwJ0_indexOf_0f7a4 hr rfl (eJ0_indexOf hA hr x σ) rfl rfl hR h8 (fun _ => k))
end JT
