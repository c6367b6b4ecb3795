/-! the classes' own tables -/
def ctF (l : List (Nat × Int)) (j : Nat) : Option Int := match l with
  | [] => none
  | q :: t => match Nat.beq q.1 j with
    | true => some q.2
    | false => ctF t j
theorem ctF_mem : ∀ (l : List (Nat × Int)) (j : Nat) (v : Int), ctF l j = some v → (j, v) ∈ l
  | [], j, v, h => by cases h
  | q :: t, j, v, h => by
    rw [ctF] at h
    split at h
    · next hb =>
      have hb := Nat.eq_of_beq_eq_true hb
      cases h
      rw [← hb]
      exact List.mem_cons_self
    · exact List.mem_cons_of_mem _ (ctF_mem t j v h)
theorem tw_allP {ws : List Cond} (is : List Nat) (h : ws = is.filterMap (fun i => (k2_sels lw_privs)[i]?)) (hg : ws.all goodWord = true) : ∀ w ∈ ws, w ∈ TW := by
  intro w hw
  have h1 := List.all_eq_true.mp hg w hw
  rw [h] at hw
  obtain ⟨i, -, hi⟩ := List.mem_filterMap.mp hw
  exact tw_ofP hi h1
def flW (own : String) (q : Nat × Nat × Nat × Int) : Cond := match vwCl[q.2.1]? with
  | some w => Cond.fieldLink own q.1 w.1 (w.2.1 q.2.2.1).2.1 (w.2.1 q.2.2.1).2.2.1
  | none => Cond.initialized ""
def flB (q : Nat × Nat × Nat × Int) : Bool := match vwCl[q.2.1]? with
  | some w => decide (q.2.2.1 < w.2.2) && decide ((w.2.1 q.2.2.1).1 = w.1) && decide ((q.2.2.1 : Int) = q.2.2.2)
  | none => false
theorem tb_of {own : String} {ct : List (Nat × Int)} {fl : List (Nat × Nat × Nat × Int)} {ml : List (Nat × MethodName)} {nl : List (Nat × MethodName × String)} {sl : List (Nat × Nat)} (wc wf wm : List Nat)
    (hc : ct.map (fun q => Cond.constant own q.1 (Int32.ofInt q.2)) = wc.filterMap (fun i => tables_1[i]?)) (gc : ((ct.map (fun q => Cond.constant own q.1 (Int32.ofInt q.2))).all goodWord && ct.all (fun q => decide (bw q.2 = q.2))) = true)
    (hf : fl.map (flW own) = wf.filterMap (fun i => tables_1[i]?)) (gf : ((fl.map (flW own)).all goodWord && fl.all flB) = true)
    (hm : ml.map (fun q => Cond.methodLink own q.1 q.2) = wm.filterMap (fun i => tables_1[i]?)) (gm : (ml.map (fun q => Cond.methodLink own q.1 q.2)).all goodWord = true)
    (gn : nl.all (fun q => decide ((own, q.1, q.2.1, q.2.2) ∈ nestL)) = true)
    (gs : sl.all (fun q => decide (q.2 < nS) && decide (sOwn.getD q.2 "" = own) && decide (sIdx.getD q.2 0 = q.1)) = true) : tbOK own (ctF ct, fl, ml, nl, sl) := by
  rw [Bool.and_eq_true] at gc gf
  refine ⟨fun j v h => ?_, fun q hq => ?_, fun q hq => tw_all wm hm gm _ (List.mem_map_of_mem hq), fun q hq => by simpa using List.all_eq_true.mp gn q hq, fun q hq => ?_⟩
  · have h1 := ctF_mem ct j v h
    exact ⟨by simpa using List.all_eq_true.mp gc.2 _ h1, tw_all wc hc gc.1 _ (List.mem_map_of_mem (f := fun q : Nat × Int => Cond.constant own q.1 (Int32.ofInt q.2)) h1)⟩
  · have h1 := List.all_eq_true.mp gf.2 q hq
    have h2 := tw_all wf hf gf.1 _ (List.mem_map_of_mem (f := flW own) hq)
    unfold flB at h1
    unfold flW at h2
    split at h1
    · next w hw =>
      simp only [hw] at h2
      simp only [Bool.and_eq_true, decide_eq_true_eq] at h1
      exact ⟨w, hw, h1.1.1, h1.1.2, h1.2, h2⟩
    · cases h1
  · have h1 := List.all_eq_true.mp gs q hq
    simp only [Bool.and_eq_true, decide_eq_true_eq] at h1
    exact ⟨h1.1.1, h1.1.2, h1.2⟩
def ctJ6 : List (Nat × Int) := [(265, 1431655765), (266, 858993459), (267, 252645135)]
def flJ6 : List (Nat × Nat × Nat × Int) := []
def mlJ6 : List (Nat × MethodName) := []
def nlJ6 : List (Nat × MethodName × String) := []
def slJ6 : List (Nat × Nat) := []
def tbJ6 : TB := (ctF ctJ6, flJ6, mlJ6, nlJ6, slJ6)
theorem tbJ6_ok : tbOK RJ6 tbJ6 := tb_of [999, 1000, 1001] [] [] (by decide +kernel) (by decide +kernel) (by decide +kernel) (by decide +kernel) (by decide +kernel) (by decide +kernel) (by decide +kernel) (by decide +kernel)
def ctJ9 : List (Nat × Int) := []
def flJ9 : List (Nat × Nat × Nat × Int) := []
def mlJ9 : List (Nat × MethodName) := []
def nlJ9 : List (Nat × MethodName × String) := []
def slJ9 : List (Nat × Nat) := []
def tbJ9 : TB := (ctF ctJ9, flJ9, mlJ9, nlJ9, slJ9)
theorem tbJ9_ok : tbOK RJ9 tbJ9 := tb_of [] [] [] (by decide +kernel) (by decide +kernel) (by decide +kernel) (by decide +kernel) (by decide +kernel) (by decide +kernel) (by decide +kernel) (by decide +kernel)
def ctX0 : List (Nat × Int) := []
def flX0 : List (Nat × Nat × Nat × Int) := [(36, 0, 5, 5), (40, 0, 6, 6), (43, 1, 6, 6), (9, 0, 0, 0), (15, 0, 1, 1), (52, 1, 0, 0), (21, 0, 3, 3), (24, 0, 4, 4), (18, 0, 2, 2), (55, 9, 10, 10), (27, 0, 7, 7), (30, 0, 8, 8), (106, 9, 8, 8), (33, 0, 9, 9)]
def mlX0 : List (Nat × MethodName) := [(48, yX1_isFree), (61, yX0_gather), (65, yX9_matchOf), (69, yX0_asksNext), (87, yX0_sumWith), (91, yJ9_max_7cf53), (72, yX9_foundOf), (75, yJ6_bitCount_0f7a4), (81, yX0_greatestSum), (84, yX0_takeFirstWay), (103, yX9_hasField), (109, yX9_liftOf), (96, yX0_firstBaring), (113, yX0_mostAlike)]
def nlX0 : List (Nat × MethodName × String) := [(100, yX10_steps, "SnowRises"), (117, yX10_held, "SnowRises")]
def slX0 : List (Nat × Nat) := []
def tbX0 : TB := (ctF ctX0, flX0, mlX0, nlX0, slX0)
theorem tbX0_ok : tbOK RX0 tbX0 := tb_of [] [329, 330, 61, 323, 325, 42, 327, 328, 326, 178, 331, 332, 173, 333] [981, 977, 982, 983, 1006, 1010, 995, 996, 1002, 1011, 1028, 1029, 1023, 1056] (by decide +kernel) (by decide +kernel) (by decide +kernel) (by decide +kernel) (by decide +kernel) (by decide +kernel) (by decide +kernel) (by decide +kernel)
def ctX1 : List (Nat × Int) := []
def flX1 : List (Nat × Nat × Nat × Int) := [(30, 1, 6, 6), (24, 1, 4, 4), (27, 1, 5, 5), (9, 1, 0, 0), (15, 1, 1, 1), (18, 1, 2, 2), (21, 1, 3, 3)]
def mlX1 : List (Nat × MethodName) := [(34, yX1_has), (38, yX1_isFree), (41, yX1_hopeAmong), (45, yJ9_max_7cf53), (51, arraycopyName)]
def nlX1 : List (Nat × MethodName × String) := []
def slX1 : List (Nat × Nat) := []
def tbX1 : TB := (ctF ctX1, flX1, mlX1, nlX1, slX1)
theorem tbX1_ok : tbOK RX1 tbX1 := tb_of [] [60, 54, 58, 41, 46, 49, 52] [480, 493, 1157, 1158, 937] (by decide +kernel) (by decide +kernel) (by decide +kernel) (by decide +kernel) (by decide +kernel) (by decide +kernel) (by decide +kernel) (by decide +kernel)
def ctX10 : List (Nat × Int) := [(351, -1000000)]
def flX10 : List (Nat × Nat × Nat × Int) := [(14, 10, 0, 0), (68, 9, 7, 7), (27, 10, 3, 3), (72, 3, 3, 3), (87, 9, 10, 10), (110, 9, 4, 4), (107, 9, 3, 3), (104, 9, 2, 2), (120, 1, 1, 1), (123, 1, 2, 2), (113, 9, 8, 8), (144, 1, 4, 4), (157, 9, 6, 6), (34, 10, 4, 4), (164, 7, 4, 4), (43, 10, 5, 5), (170, 4, 0, 0), (173, 4, 1, 1), (18, 10, 1, 1), (186, 1, 0, 0), (189, 1, 3, 3), (192, 1, 5, 5), (215, 9, 16, 16), (219, 6, 2, 2), (231, 9, 14, 14), (50, 10, 6, 6), (249, 0, 0, 0), (259, 9, 15, 15), (57, 10, 7, 7), (64, 10, 8, 8), (293, 5, 4, 4), (296, 9, 12, 12), (308, 9, 5, 5), (320, 1, 6, 6), (332, 9, 0, 0), (335, 9, 1, 1), (338, 9, 11, 11), (342, 2, 6, 6), (345, 9, 13, 13)]
def mlX10 : List (Nat × MethodName) := [(147, yJ9_min_7cf53), (352, yJ9_max_7cf53), (305, yJ9_abs_0f7a4), (79, yX10_within), (83, yX9_hasField), (91, yX1_add), (117, yX1_has), (100, yX10_setOne), (97, yX10_setValley), (126, yX1_areTwo), (129, yX1_makeKin), (133, yX1_canWed), (136, yX3_keep), (140, yX9_makeVow), (153, yX9_note), (160, yX9_passDay), (167, yX7_put), (176, yX7_split), (179, yX4_reads), (182, yX9_take), (198, yX9_matchOf), (195, yX9_foundOf), (201, yX9_meltOf), (205, yX10_steps), (208, yX9_liftOf), (212, yX9_weatherOf), (222, yX6_cell), (329, yX9_copy), (225, yX10_beginThought), (228, yX9_firstVoid), (234, yX6_greatest), (237, yX9_unmetWant), (240, yX9_worthMet), (243, yX1_isFree), (246, yX0_settle), (251, yX0_pair), (255, yX0_baring), (262, yX6_add), (265, yX9_whoCanBe), (268, yJ6_bitCount_0f7a4), (273, yX0_nextToPass), (281, yX8_fewestSteps), (284, yX9_isSteep), (287, yX8_fewestToCut), (290, yX5_make), (299, yX5_dayOf), (302, yX9_matchBy), (311, yJ9_floorDiv_7cf53), (314, yX9_worthBare), (317, yX1_allKinOf), (325, yX3_giveBack), (348, yX9_bareFields)]
def nlX10 : List (Nat × MethodName × String) := [(75, yX9_begin, "SnowRises"), (321, yX1_hopeAmong, "SnowRises")]
def slX10 : List (Nat × Nat) := []
def tbX10 : TB := (ctF ctX10, flX10, mlX10, nlX10, slX10)
theorem tbX10_ok : tbOK RX10 tbX10 := tb_of [1179] [404, 168, 407, 243, 179, 160, 158, 156, 47, 50, 172, 56, 166, 408, 271, 409, 291, 293, 405, 44, 53, 59, 198, 135, 193, 410, 324, 195, 411, 412, 392, 187, 163, 63, 152, 154, 183, 98, 190] [549, 550, 556, 445, 448, 452, 468, 464, 460, 476, 481, 489, 497, 507, 585, 594, 631, 643, 783, 865, 895, 894, 903, 908, 909, 914, 919, 928, 924, 942, 955, 956, 964, 972, 973, 991, 1019, 1034, 1039, 1051, 1052, 1071, 1084, 1085, 1108, 1122, 1130, 1135, 1138, 1146, 1163, 1175] (by decide +kernel) (by decide +kernel) (by decide +kernel) (by decide +kernel) (by decide +kernel) (by decide +kernel) (by decide +kernel) (by decide +kernel)
def ctX11 : List (Nat × Int) := [(53, 53248), (107, 1664525), (108, 1013904223), (453, 100000), (501, -1000000)]
def flX11 : List (Nat × Nat × Nat × Int) := [(7, 11, 0, 0), (86, 11, 4, 4), (116, 11, 16, 16), (31, 11, 9, 9), (119, 11, 17, 17), (122, 11, 19, 19), (183, 11, 12, 12), (201, 11, 18, 18), (213, 11, 20, 20), (216, 11, 21, 21), (219, 11, 22, 22), (25, 11, 7, 7), (228, 11, 14, 14), (231, 11, 24, 24), (262, 11, 13, 13), (22, 11, 6, 6), (28, 11, 8, 8), (271, 11, 15, 15), (303, 11, 23, 23), (40, 11, 25, 25), (34, 11, 10, 10), (37, 11, 11, 11), (16, 11, 2, 2), (347, 11, 26, 26), (44, 11, 27, 27), (389, 11, 28, 28), (19, 11, 3, 3), (50, 11, 30, 30), (47, 11, 29, 29), (57, 11, 32, 32), (54, 11, 31, 31), (60, 11, 33, 33), (63, 11, 34, 34), (66, 11, 35, 35), (462, 11, 38, 38), (69, 11, 36, 36), (72, 11, 37, 37), (75, 11, 39, 39), (13, 11, 1, 1), (495, 11, 5, 5)]
def mlX11 : List (Nat × MethodName) := [(89, yX11_isIn), (93, yX11_isOn), (82, yX11_isField), (97, yX11_isPerson), (100, yX11_size), (104, yX11_forgets), (78, yX11_begins), (109, yX11_canSet), (112, yX11_placeOf), (125, yJ0_length_8abf5), (131, yJ0_charAt_5068e), (137, yX11_is), (172, yX11_asked), (186, yX11_lawWord), (189, yX11_vowWord), (192, yX11_weatherWord), (195, yX11_wantWord), (198, yX11_see), (204, yX11_isLetter), (210, yX11_isDigit), (207, yX11_word), (225, yX11_next0), (222, yX11_bad), (238, yX11_lay), (241, yX11_unit), (234, yX11_product), (244, yX11_every), (247, yX11_oneTest), (250, yX11_opens), (253, yX11_any), (256, yX11_need), (259, yX11_sumUp), (265, yX11_aLine), (268, yX11_number), (274, yX11_told), (281, yX11_aField), (278, yX11_areUnlike), (284, yX11_aVow), (287, yX11_aWeather), (290, yX11_aWant), (293, yX11_aRow), (296, yX11_putsLaw), (299, yX11_puts), (312, yX11_putsText), (306, yX11_readsLaw), (309, yX11_readsRows), (315, yX11_both), (318, yX11_comesTo), (321, yX11_isSo), (324, yX11_lesser), (327, yX11_greater), (330, yX11_clears), (333, yX11_laysTwo), (336, yX11_says), (339, yX11_matchOf), (342, yX11_foundOf), (345, yX11_apart), (351, yX11_isFree), (354, yX11_liftOf), (358, yX11_lifts), (361, yX11_wentTo), (370, yX11_notes), (367, yX11_drifts), (364, yX11_rises), (374, yX11_canVow), (377, yX11_keeps), (380, yX11_vows), (383, yX11_weatherOf), (386, yX11_ofVow), (392, yX11_draw), (395, yX11_snows), (398, yX11_vowsOfDay), (401, yX11_slides), (404, yX11_meltOf), (407, yX11_aDay), (410, yX11_lays), (413, yX11_putsBack), (416, yX11_lastOf), (419, yX11_meetsWants), (422, yX11_nextAsked), (425, yX11_keepsFor), (428, yX11_asksOn), (432, yX11_canHave), (435, yX11_laysFound), (438, yX11_laysBest), (441, yX11_takenBy), (444, yX11_canBe), (447, yX11_whoBy), (450, yX11_count), (454, yX11_mostAlike), (459, yX11_isSafe), (465, yX11_isComeTo), (468, yX11_wayTo), (471, yX11_goesIn), (474, yX11_goesOut), (477, yX11_turns), (480, yX11_hasWay), (483, yX11_roundsFrom), (486, yX11_isAloneIn), (489, yX11_counting), (492, yX11_hopeOf), (498, yX11_bareFields)]
def nlX11 : List (Nat × MethodName × String) := []
def slX11 : List (Nat × Nat) := [(135, 9), (141, 10), (143, 11), (145, 12), (147, 13), (149, 14), (151, 15), (153, 16), (155, 17), (156, 18), (158, 2), (160, 3), (162, 4), (164, 5), (166, 6), (168, 7), (170, 8), (174, 19), (176, 20), (177, 21), (179, 22), (181, 23)]
def tbX11 : TB := (ctF ctX11, flX11, mlX11, nlX11, slX11)
theorem tbX11_ok : tbOK RX11 tbX11 := tb_of [1186, 1667, 1668, 1784, 1878] [1202, 1206, 1218, 1211, 1219, 1221, 1214, 1220, 1222, 1223, 1224, 1209, 1216, 1226, 1215, 1208, 1210, 1217, 1225, 1227, 1212, 1213, 1204, 1228, 1229, 1230, 1205, 1232, 1231, 1234, 1233, 1235, 1236, 1237, 1240, 1238, 1239, 1241, 1203, 1207] [1195, 1198, 1191, 1347, 1576, 1327, 1187, 1343, 1351, 1394, 1395, 1390, 1402, 1385, 1416, 1422, 1427, 1374, 1378, 1433, 1381, 1370, 1444, 1460, 1456, 1452, 1468, 1472, 1476, 1464, 1480, 1448, 1440, 1500, 1496, 1508, 1504, 1492, 1512, 1516, 1488, 1524, 1528, 1520, 1436, 1484, 1591, 1587, 1583, 1594, 1597, 1572, 1568, 1579, 1564, 1560, 1612, 1548, 1608, 1604, 1619, 1623, 1615, 1600, 1544, 1552, 1556, 1647, 1655, 1663, 1643, 1651, 1659, 1669, 1639, 1701, 1705, 1717, 1713, 1729, 1733, 1725, 1749, 1741, 1745, 1753, 1773, 1769, 1781, 1785, 1798, 1810, 1826, 1814, 1818, 1822, 1806, 1838, 1842, 1834, 1862, 1874] (by decide +kernel) (by decide +kernel) (by decide +kernel) (by decide +kernel) (by decide +kernel) (by decide +kernel) (by decide +kernel) (by decide +kernel)
def ctX2 : List (Nat × Int) := []
def flX2 : List (Nat × Nat × Nat × Int) := [(24, 2, 4, 4), (11, 2, 0, 0), (27, 2, 5, 5), (30, 2, 6, 6), (15, 2, 1, 1), (21, 2, 3, 3), (18, 2, 2, 2), (34, 2, 7, 7)]
def mlX2 : List (Nat × MethodName) := [(41, yJ9_max_7cf53), (46, yX2_joined), (37, yX2_run), (50, yJ9_min_7cf53), (53, arraycopyName)]
def nlX2 : List (Nat × MethodName × String) := []
def slX2 : List (Nat × Nat) := []
def tbX2 : TB := (ctF ctX2, flX2, mlX2, nlX2, slX2)
theorem tbX2_ok : tbOK RX2 tbX2 := tb_of [] [93, 86, 94, 95, 87, 91, 89, 99] [542, 543, 538, 873, 874] (by decide +kernel) (by decide +kernel) (by decide +kernel) (by decide +kernel) (by decide +kernel) (by decide +kernel) (by decide +kernel) (by decide +kernel)
def ctX3 : List (Nat × Int) := []
def flX3 : List (Nat × Nat × Nat × Int) := [(21, 9, 8, 8), (9, 3, 0, 0), (24, 3, 4, 4), (34, 9, 10, 10), (38, 1, 4, 4), (15, 3, 1, 1), (18, 3, 2, 2), (41, 9, 5, 5), (44, 9, 6, 6), (47, 9, 7, 7), (50, 9, 16, 16), (54, 6, 2, 2), (59, 3, 3, 3)]
def mlX3 : List (Nat × MethodName) := [(28, arraycopyName), (60, yJ9_min_7cf53)]
def nlX3 : List (Nat × MethodName × String) := []
def slX3 : List (Nat × Nat) := []
def tbX3 : TB := (ctF ctX3, flX3, mlX3, nlX3, slX3)
theorem tbX3_ok : tbOK RX3 tbX3 := tb_of [] [171, 240, 245, 177, 55, 241, 242, 162, 165, 169, 197, 134, 244] [501, 504] (by decide +kernel) (by decide +kernel) (by decide +kernel) (by decide +kernel) (by decide +kernel) (by decide +kernel) (by decide +kernel) (by decide +kernel)
def ctX4 : List (Nat × Int) := []
def flX4 : List (Nat × Nat × Nat × Int) := [(9, 4, 0, 0), (29, 4, 5, 5), (18, 4, 2, 2), (32, 7, 1, 1), (38, 4, 6, 6), (26, 4, 4, 4), (41, 9, 11, 11), (90, 7, 2, 2), (139, 2, 6, 6), (140, 2, 1, 1), (146, 2, 3, 3), (149, 2, 7, 7), (155, 2, 2, 2), (56, 6, 2, 2), (80, 6, 1, 1), (93, 4, 7, 7), (22, 4, 3, 3), (103, 9, 10, 10), (112, 1, 0, 0), (115, 9, 12, 12), (133, 9, 13, 13), (136, 9, 14, 14), (15, 4, 1, 1), (74, 7, 3, 3)]
def mlX4 : List (Nat × MethodName) := [(77, yX4_pass), (165, yX2_put), (172, yX2_codeOfName), (169, yX4_readsUnit), (161, yX2_codeOfJoint), (83, yX4_refuse), (158, yX4_readsSingle), (152, yX4_readsEither), (87, yX4_passes), (143, yX4_readsSum), (99, yX4_passesNumber), (107, yX1_has), (96, yX9_hasField), (119, yX4_begins), (123, yX4_passesPerson), (126, yX4_passesField), (129, yX6_add), (47, yX2_clear), (52, yX9_rowsOf), (61, yX4_lawLine), (65, yX4_vowLine), (68, yX4_weatherLine), (71, yX4_wantLine)]
def nlX4 : List (Nat × MethodName × String) := []
def slX4 : List (Nat × Nat) := []
def tbX4 : TB := (ctF ctX4, flX4, mlX4, nlX4, slX4)
theorem tbX4_ok : tbOK RX4 tbX4 := tb_of [] [290, 297, 294, 265, 298, 296, 182, 267, 97, 88, 92, 100, 90, 132, 129, 299, 295, 180, 43, 186, 189, 192, 292, 269] [800, 812, 816, 808, 819, 796, 826, 822, 830, 804, 842, 850, 855, 838, 846, 851, 856, 787, 788, 792, 834, 857, 861] (by decide +kernel) (by decide +kernel) (by decide +kernel) (by decide +kernel) (by decide +kernel) (by decide +kernel) (by decide +kernel) (by decide +kernel)
def ctX5 : List (Nat × Int) := []
def flX5 : List (Nat × Nat × Nat × Int) := [(18, 5, 2, 2), (15, 5, 1, 1), (21, 5, 3, 3), (48, 5, 4, 4), (25, 9, 10, 10), (37, 9, 12, 12), (41, 6, 2, 2), (9, 5, 0, 0)]
def mlX5 : List (Nat × MethodName) := [(55, yX5_isOpen), (51, yX5_fits), (31, yX1_wedSet), (44, yX6_cell)]
def nlX5 : List (Nat × MethodName × String) := [(59, yX10_steps, "SnowRises")]
def slX5 : List (Nat × Nat) := []
def tbX5 : TB := (ctF ctX5, flX5, mlX5, nlX5, slX5)
theorem tbX5_ok : tbOK RX5 tbX5 := tb_of [] [389, 388, 390, 391, 176, 185, 131, 387] [1117, 1114, 1112, 1113] (by decide +kernel) (by decide +kernel) (by decide +kernel) (by decide +kernel) (by decide +kernel) (by decide +kernel) (by decide +kernel) (by decide +kernel)
def ctX6 : List (Nat × Int) := []
def flX6 : List (Nat × Nat × Nat × Int) := [(25, 6, 2, 2), (15, 6, 1, 1), (21, 6, 0, 0)]
def mlX6 : List (Nat × MethodName) := [(28, yX6_cell), (9, yJ9_max_7cf53), (31, yJ9_min_7cf53), (34, arraycopyName)]
def nlX6 : List (Nat × MethodName × String) := []
def slX6 : List (Nat × Nat) := []
def tbX6 : TB := (ctF ctX6, flX6, mlX6, nlX6, slX6)
theorem tbX6_ok : tbOK RX6 tbX6 := tb_of [] [130, 128, 127] [954, 124, 880, 881] (by decide +kernel) (by decide +kernel) (by decide +kernel) (by decide +kernel) (by decide +kernel) (by decide +kernel) (by decide +kernel) (by decide +kernel)
def ctX7 : List (Nat × Int) := []
def flX7 : List (Nat × Nat × Nat × Int) := [(25, 7, 4, 4), (9, 7, 0, 0), (15, 7, 1, 1), (22, 7, 3, 3), (19, 7, 2, 2)]
def mlX7 : List (Nat × MethodName) := [(29, yX7_sign), (33, yX7_isLetter), (67, yJ0_length_8abf5), (71, yJ0_charAt_5068e), (75, yX7_isSame), (49, yX7_isDigit), (60, yJ0_indexOf_0f7a4), (52, yX7_digitsEnd), (40, yJ9_max_7cf53), (55, yX7_valueOf), (37, yX7_lettersEnd), (46, yX7_wordOf)]
def nlX7 : List (Nat × MethodName × String) := []
def slX7 : List (Nat × Nat) := [(65, 0), (58, 1)]
def tbX7 : TB := (ctF ctX7, flX7, mlX7, nlX7, slX7)
theorem tbX7_ok : tbOK RX7 tbX7 := tb_of [] [270, 263, 264, 268, 266] [647, 651, 664, 674, 712, 716, 728, 719, 658, 723, 654, 659] (by decide +kernel) (by decide +kernel) (by decide +kernel) (by decide +kernel) (by decide +kernel) (by decide +kernel) (by decide +kernel) (by decide +kernel)
def ctX8 : List (Nat × Int) := []
def flX8 : List (Nat × Nat × Nat × Int) := [(15, 8, 1, 1), (9, 8, 0, 0), (34, 8, 5, 5), (18, 8, 2, 2), (21, 8, 3, 3), (25, 8, 4, 4)]
def mlX8 : List (Nat × MethodName) := [(28, yX9_isSteep), (38, yX9_beside), (50, yX8_reach), (53, yX8_direction), (42, yX8_search), (46, yX8_addWay)]
def nlX8 : List (Nat × MethodName × String) := []
def slX8 : List (Nat × Nat) := []
def tbX8 : TB := (ctF ctX8, flX8, mlX8, nlX8, slX8)
theorem tbX8_ok : tbOK RX8 tbX8 := tb_of [] [362, 361, 366, 363, 364, 365] [1075, 1079, 1093, 1101, 1089, 1097] (by decide +kernel) (by decide +kernel) (by decide +kernel) (by decide +kernel) (by decide +kernel) (by decide +kernel) (by decide +kernel) (by decide +kernel)
def ctX9 : List (Nat × Int) := [(200, 1664525), (201, 1013904223)]
def flX9 : List (Nat × Nat × Nat × Int) := [(28, 9, 11, 11), (21, 9, 10, 10), (126, 1, 2, 2), (79, 9, 6, 6), (140, 1, 1, 1), (61, 9, 0, 0), (64, 9, 1, 1), (37, 9, 12, 12), (41, 9, 13, 13), (44, 9, 14, 14), (9, 9, 8, 8), (70, 9, 3, 3), (67, 9, 2, 2), (73, 9, 4, 4), (76, 9, 5, 5), (82, 1, 6, 6), (88, 6, 2, 2), (47, 9, 15, 15), (50, 9, 16, 16), (53, 9, 7, 7), (105, 2, 6, 6), (15, 9, 9, 9), (174, 1, 4, 4), (220, 1, 0, 0)]
def mlX9 : List (Nat × MethodName) := [(114, yJ9_abs_0f7a4), (120, yX2_forgetNames), (123, yX2_name), (129, yX1_areKin), (133, yX2_tell), (143, yX9_matchBy), (147, yJ9_min_7cf53), (85, yX2_clear), (89, arraycopyName), (95, yX1_copy), (99, yX2_copy), (102, yX6_copy), (106, yX9_rowsOf), (110, yX9_hasField), (150, yX6_cell), (153, yX6_add), (181, yX9_beside), (157, yX9_foundOf), (177, yX9_note), (163, yX9_liftOf), (171, yX9_drift), (167, yX9_rise), (202, yX9_draw), (208, yJ9_max_7cf53), (205, yX9_meltOf), (184, yX9_weatherOf), (187, yX1_canWed), (190, yX9_makeVow), (197, yX9_meltAll), (194, yX9_slide), (211, yX1_wedSet), (214, yX6_greatest), (217, yX9_isBare), (223, yX9_allStirsFit)]
def nlX9 : List (Nat × MethodName × String) := [(137, yX10_held, "SnowRises"), (160, yX10_steps, "SnowRises")]
def slX9 : List (Nat × Nat) := []
def tbX9 : TB := (ctF ctX9, flX9, mlX9, nlX9, slX9)
theorem tbX9_ok : tbOK RX9 tbX9 := tb_of [616, 617] [181, 175, 51, 164, 48, 151, 153, 184, 188, 191, 170, 157, 155, 159, 161, 62, 133, 194, 196, 167, 96, 174, 57, 45] [519, 522, 526, 530, 534, 515, 551, 147, 932, 933, 869, 876, 875, 552, 602, 577, 569, 511, 573, 557, 565, 561, 612, 626, 622, 598, 606, 607, 618, 608, 946, 950, 960, 1043] (by decide +kernel) (by decide +kernel) (by decide +kernel) (by decide +kernel) (by decide +kernel) (by decide +kernel) (by decide +kernel) (by decide +kernel)
