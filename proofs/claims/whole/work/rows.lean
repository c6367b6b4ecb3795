section
-- ===== PART A: goes FIRST, ahead of the names: the tables' words, and 'selects' of the private methods out of them =====
/-- a private method of a class that the tables say can be made, by its rows of tables_1 -/
def lw_okq (q : MethodName × Nat) : Prop := (q.1.cls ≠ "java/lang/invoke/MethodHandle" ∧ q.1.cls ≠ "java/lang/invoke/VarHandle") ∧ Cond.instantiable q.1.cls q.2 ∈ tables_1 ∧ Cond.privateMethod q.1 ∈ tables_1 ∧ Cond.instanceMethod q.1 ∈ tables_1
theorem lw_p0 : lw_okq (⟨"SnowRises$World", "begin", "(II)V"⟩, 17) := ⟨⟨by decide +kernel, by decide +kernel⟩, List.mem_of_getElem? (i := 30) (by decide +kernel), List.mem_of_getElem? (i := 144) (by decide +kernel), List.mem_of_getElem? (i := 145) (by decide +kernel)⟩
theorem lw_p1 : lw_okq (⟨"SnowRises", "setValley", "(II)Z"⟩, 9) := ⟨⟨by decide +kernel, by decide +kernel⟩, List.mem_of_getElem? (i := 22) (by decide +kernel), List.mem_of_getElem? (i := 461) (by decide +kernel), List.mem_of_getElem? (i := 462) (by decide +kernel)⟩
theorem lw_p2 : lw_okq (⟨"SnowRises", "setOne", "(III)Z"⟩, 9) := ⟨⟨by decide +kernel, by decide +kernel⟩, List.mem_of_getElem? (i := 22) (by decide +kernel), List.mem_of_getElem? (i := 465) (by decide +kernel), List.mem_of_getElem? (i := 466) (by decide +kernel)⟩
theorem lw_p3 : lw_okq (⟨"SnowRises$Law", "run", "(II)I"⟩, 8) := ⟨⟨by decide +kernel, by decide +kernel⟩, List.mem_of_getElem? (i := 81) (by decide +kernel), List.mem_of_getElem? (i := 539) (by decide +kernel), List.mem_of_getElem? (i := 540) (by decide +kernel)⟩
theorem lw_p4 : lw_okq (⟨"SnowRises$World", "rise", "()I"⟩, 17) := ⟨⟨by decide +kernel, by decide +kernel⟩, List.mem_of_getElem? (i := 30) (by decide +kernel), List.mem_of_getElem? (i := 562) (by decide +kernel), List.mem_of_getElem? (i := 563) (by decide +kernel)⟩
theorem lw_p5 : lw_okq (⟨"SnowRises$World", "drift", "()I"⟩, 17) := ⟨⟨by decide +kernel, by decide +kernel⟩, List.mem_of_getElem? (i := 30) (by decide +kernel), List.mem_of_getElem? (i := 566) (by decide +kernel), List.mem_of_getElem? (i := 567) (by decide +kernel)⟩
theorem lw_p6 : lw_okq (⟨"SnowRises$World", "slide", "()V"⟩, 17) := ⟨⟨by decide +kernel, by decide +kernel⟩, List.mem_of_getElem? (i := 30) (by decide +kernel), List.mem_of_getElem? (i := 609) (by decide +kernel), List.mem_of_getElem? (i := 610) (by decide +kernel)⟩
theorem lw_p7 : lw_okq (⟨"SnowRises$World", "draw", "(I)I"⟩, 17) := ⟨⟨by decide +kernel, by decide +kernel⟩, List.mem_of_getElem? (i := 30) (by decide +kernel), List.mem_of_getElem? (i := 613) (by decide +kernel), List.mem_of_getElem? (i := 614) (by decide +kernel)⟩
theorem lw_p8 : lw_okq (⟨"SnowRises$World", "meltAll", "()V"⟩, 17) := ⟨⟨by decide +kernel, by decide +kernel⟩, List.mem_of_getElem? (i := 30) (by decide +kernel), List.mem_of_getElem? (i := 619) (by decide +kernel), List.mem_of_getElem? (i := 620) (by decide +kernel)⟩
theorem lw_p9 : lw_okq (⟨"SnowRises$Tape", "sign", "(I)I"⟩, 5) := ⟨⟨by decide +kernel, by decide +kernel⟩, List.mem_of_getElem? (i := 258) (by decide +kernel), List.mem_of_getElem? (i := 648) (by decide +kernel), List.mem_of_getElem? (i := 649) (by decide +kernel)⟩
theorem lw_p10 : lw_okq (⟨"SnowRises$Tape", "lettersEnd", "(I)I"⟩, 5) := ⟨⟨by decide +kernel, by decide +kernel⟩, List.mem_of_getElem? (i := 258) (by decide +kernel), List.mem_of_getElem? (i := 655) (by decide +kernel), List.mem_of_getElem? (i := 656) (by decide +kernel)⟩
theorem lw_p11 : lw_okq (⟨"SnowRises$Tape", "wordOf", "(II)I"⟩, 5) := ⟨⟨by decide +kernel, by decide +kernel⟩, List.mem_of_getElem? (i := 258) (by decide +kernel), List.mem_of_getElem? (i := 660) (by decide +kernel), List.mem_of_getElem? (i := 661) (by decide +kernel)⟩
theorem lw_p12 : lw_okq (⟨"SnowRises$Tape", "isSame", "(III)Z"⟩, 5) := ⟨⟨by decide +kernel, by decide +kernel⟩, List.mem_of_getElem? (i := 258) (by decide +kernel), List.mem_of_getElem? (i := 713) (by decide +kernel), List.mem_of_getElem? (i := 714) (by decide +kernel)⟩
theorem lw_p13 : lw_okq (⟨"SnowRises$Tape", "digitsEnd", "(I)I"⟩, 5) := ⟨⟨by decide +kernel, by decide +kernel⟩, List.mem_of_getElem? (i := 258) (by decide +kernel), List.mem_of_getElem? (i := 720) (by decide +kernel), List.mem_of_getElem? (i := 721) (by decide +kernel)⟩
theorem lw_p14 : lw_okq (⟨"SnowRises$Tape", "valueOf", "(II)I"⟩, 5) := ⟨⟨by decide +kernel, by decide +kernel⟩, List.mem_of_getElem? (i := 258) (by decide +kernel), List.mem_of_getElem? (i := 724) (by decide +kernel), List.mem_of_getElem? (i := 725) (by decide +kernel)⟩
theorem lw_p15 : lw_okq (⟨"SnowRises$Reader", "lawLine", "()Z"⟩, 8) := ⟨⟨by decide +kernel, by decide +kernel⟩, List.mem_of_getElem? (i := 285) (by decide +kernel), List.mem_of_getElem? (i := 793) (by decide +kernel), List.mem_of_getElem? (i := 794) (by decide +kernel)⟩
def lw_privs_1 : List (MethodName × Nat) := [(⟨"SnowRises$World", "begin", "(II)V"⟩, 17), (⟨"SnowRises", "setValley", "(II)Z"⟩, 9), (⟨"SnowRises", "setOne", "(III)Z"⟩, 9), (⟨"SnowRises$Law", "run", "(II)I"⟩, 8), (⟨"SnowRises$World", "rise", "()I"⟩, 17), (⟨"SnowRises$World", "drift", "()I"⟩, 17), (⟨"SnowRises$World", "slide", "()V"⟩, 17), (⟨"SnowRises$World", "draw", "(I)I"⟩, 17), (⟨"SnowRises$World", "meltAll", "()V"⟩, 17), (⟨"SnowRises$Tape", "sign", "(I)I"⟩, 5), (⟨"SnowRises$Tape", "lettersEnd", "(I)I"⟩, 5), (⟨"SnowRises$Tape", "wordOf", "(II)I"⟩, 5), (⟨"SnowRises$Tape", "isSame", "(III)Z"⟩, 5), (⟨"SnowRises$Tape", "digitsEnd", "(I)I"⟩, 5), (⟨"SnowRises$Tape", "valueOf", "(II)I"⟩, 5), (⟨"SnowRises$Reader", "lawLine", "()Z"⟩, 8)]
theorem lw_r1 : ∀ q ∈ lw_privs_1, lw_okq q := List.forall_mem_cons.mpr ⟨lw_p0, List.forall_mem_cons.mpr ⟨lw_p1, List.forall_mem_cons.mpr ⟨lw_p2, List.forall_mem_cons.mpr ⟨lw_p3, List.forall_mem_cons.mpr ⟨lw_p4, List.forall_mem_cons.mpr ⟨lw_p5, List.forall_mem_cons.mpr ⟨lw_p6, List.forall_mem_cons.mpr ⟨lw_p7, List.forall_mem_cons.mpr ⟨lw_p8, List.forall_mem_cons.mpr ⟨lw_p9, List.forall_mem_cons.mpr ⟨lw_p10, List.forall_mem_cons.mpr ⟨lw_p11, List.forall_mem_cons.mpr ⟨lw_p12, List.forall_mem_cons.mpr ⟨lw_p13, List.forall_mem_cons.mpr ⟨lw_p14, List.forall_mem_cons.mpr ⟨lw_p15, fun _ h => absurd h List.not_mem_nil⟩⟩⟩⟩⟩⟩⟩⟩⟩⟩⟩⟩⟩⟩⟩⟩
theorem lw_p16 : lw_okq (⟨"SnowRises$Reader", "refuse", "(I)Z"⟩, 8) := ⟨⟨by decide +kernel, by decide +kernel⟩, List.mem_of_getElem? (i := 285) (by decide +kernel), List.mem_of_getElem? (i := 797) (by decide +kernel), List.mem_of_getElem? (i := 798) (by decide +kernel)⟩
theorem lw_p17 : lw_okq (⟨"SnowRises$Reader", "pass", "()V"⟩, 8) := ⟨⟨by decide +kernel, by decide +kernel⟩, List.mem_of_getElem? (i := 285) (by decide +kernel), List.mem_of_getElem? (i := 801) (by decide +kernel), List.mem_of_getElem? (i := 802) (by decide +kernel)⟩
theorem lw_p18 : lw_okq (⟨"SnowRises$Reader", "readsSum", "()Z"⟩, 8) := ⟨⟨by decide +kernel, by decide +kernel⟩, List.mem_of_getElem? (i := 285) (by decide +kernel), List.mem_of_getElem? (i := 805) (by decide +kernel), List.mem_of_getElem? (i := 806) (by decide +kernel)⟩
theorem lw_p19 : lw_okq (⟨"SnowRises$Reader", "readsUnit", "()Z"⟩, 8) := ⟨⟨by decide +kernel, by decide +kernel⟩, List.mem_of_getElem? (i := 285) (by decide +kernel), List.mem_of_getElem? (i := 809) (by decide +kernel), List.mem_of_getElem? (i := 810) (by decide +kernel)⟩
theorem lw_p20 : lw_okq (⟨"SnowRises$Reader", "readsEither", "(I)Z"⟩, 8) := ⟨⟨by decide +kernel, by decide +kernel⟩, List.mem_of_getElem? (i := 285) (by decide +kernel), List.mem_of_getElem? (i := 823) (by decide +kernel), List.mem_of_getElem? (i := 824) (by decide +kernel)⟩
theorem lw_p21 : lw_okq (⟨"SnowRises$Reader", "readsSingle", "(I)Z"⟩, 8) := ⟨⟨by decide +kernel, by decide +kernel⟩, List.mem_of_getElem? (i := 285) (by decide +kernel), List.mem_of_getElem? (i := 827) (by decide +kernel), List.mem_of_getElem? (i := 828) (by decide +kernel)⟩
theorem lw_p22 : lw_okq (⟨"SnowRises$Reader", "passes", "(I)Z"⟩, 8) := ⟨⟨by decide +kernel, by decide +kernel⟩, List.mem_of_getElem? (i := 285) (by decide +kernel), List.mem_of_getElem? (i := 831) (by decide +kernel), List.mem_of_getElem? (i := 832) (by decide +kernel)⟩
theorem lw_p23 : lw_okq (⟨"SnowRises$Reader", "vowLine", "()Z"⟩, 8) := ⟨⟨by decide +kernel, by decide +kernel⟩, List.mem_of_getElem? (i := 285) (by decide +kernel), List.mem_of_getElem? (i := 835) (by decide +kernel), List.mem_of_getElem? (i := 836) (by decide +kernel)⟩
theorem lw_p24 : lw_okq (⟨"SnowRises$Reader", "begins", "(ILSnowRises$Rows;)Z"⟩, 8) := ⟨⟨by decide +kernel, by decide +kernel⟩, List.mem_of_getElem? (i := 285) (by decide +kernel), List.mem_of_getElem? (i := 839) (by decide +kernel), List.mem_of_getElem? (i := 840) (by decide +kernel)⟩
theorem lw_p25 : lw_okq (⟨"SnowRises$Reader", "passesNumber", "(II)Z"⟩, 8) := ⟨⟨by decide +kernel, by decide +kernel⟩, List.mem_of_getElem? (i := 285) (by decide +kernel), List.mem_of_getElem? (i := 843) (by decide +kernel), List.mem_of_getElem? (i := 844) (by decide +kernel)⟩
theorem lw_p26 : lw_okq (⟨"SnowRises$Reader", "passesPerson", "(I)Z"⟩, 8) := ⟨⟨by decide +kernel, by decide +kernel⟩, List.mem_of_getElem? (i := 285) (by decide +kernel), List.mem_of_getElem? (i := 847) (by decide +kernel), List.mem_of_getElem? (i := 848) (by decide +kernel)⟩
theorem lw_p27 : lw_okq (⟨"SnowRises$Reader", "passesField", "()Z"⟩, 8) := ⟨⟨by decide +kernel, by decide +kernel⟩, List.mem_of_getElem? (i := 285) (by decide +kernel), List.mem_of_getElem? (i := 852) (by decide +kernel), List.mem_of_getElem? (i := 853) (by decide +kernel)⟩
theorem lw_p28 : lw_okq (⟨"SnowRises$Reader", "weatherLine", "()Z"⟩, 8) := ⟨⟨by decide +kernel, by decide +kernel⟩, List.mem_of_getElem? (i := 285) (by decide +kernel), List.mem_of_getElem? (i := 858) (by decide +kernel), List.mem_of_getElem? (i := 859) (by decide +kernel)⟩
theorem lw_p29 : lw_okq (⟨"SnowRises$Reader", "wantLine", "()Z"⟩, 8) := ⟨⟨by decide +kernel, by decide +kernel⟩, List.mem_of_getElem? (i := 285) (by decide +kernel), List.mem_of_getElem? (i := 862) (by decide +kernel), List.mem_of_getElem? (i := 863) (by decide +kernel)⟩
theorem lw_p30 : lw_okq (⟨"SnowRises", "beginThought", "()V"⟩, 9) := ⟨⟨by decide +kernel, by decide +kernel⟩, List.mem_of_getElem? (i := 22) (by decide +kernel), List.mem_of_getElem? (i := 925) (by decide +kernel), List.mem_of_getElem? (i := 926) (by decide +kernel)⟩
theorem lw_p31 : lw_okq (⟨"SnowRises$Couples", "gather", "(LSnowRises$Folk;)V"⟩, 10) := ⟨⟨by decide +kernel, by decide +kernel⟩, List.mem_of_getElem? (i := 318) (by decide +kernel), List.mem_of_getElem? (i := 978) (by decide +kernel), List.mem_of_getElem? (i := 979) (by decide +kernel)⟩
def lw_privs_2 : List (MethodName × Nat) := [(⟨"SnowRises$Reader", "refuse", "(I)Z"⟩, 8), (⟨"SnowRises$Reader", "pass", "()V"⟩, 8), (⟨"SnowRises$Reader", "readsSum", "()Z"⟩, 8), (⟨"SnowRises$Reader", "readsUnit", "()Z"⟩, 8), (⟨"SnowRises$Reader", "readsEither", "(I)Z"⟩, 8), (⟨"SnowRises$Reader", "readsSingle", "(I)Z"⟩, 8), (⟨"SnowRises$Reader", "passes", "(I)Z"⟩, 8), (⟨"SnowRises$Reader", "vowLine", "()Z"⟩, 8), (⟨"SnowRises$Reader", "begins", "(ILSnowRises$Rows;)Z"⟩, 8), (⟨"SnowRises$Reader", "passesNumber", "(II)Z"⟩, 8), (⟨"SnowRises$Reader", "passesPerson", "(I)Z"⟩, 8), (⟨"SnowRises$Reader", "passesField", "()Z"⟩, 8), (⟨"SnowRises$Reader", "weatherLine", "()Z"⟩, 8), (⟨"SnowRises$Reader", "wantLine", "()Z"⟩, 8), (⟨"SnowRises", "beginThought", "()V"⟩, 9), (⟨"SnowRises$Couples", "gather", "(LSnowRises$Folk;)V"⟩, 10)]
theorem lw_r2 : ∀ q ∈ lw_privs_2, lw_okq q := List.forall_mem_cons.mpr ⟨lw_p16, List.forall_mem_cons.mpr ⟨lw_p17, List.forall_mem_cons.mpr ⟨lw_p18, List.forall_mem_cons.mpr ⟨lw_p19, List.forall_mem_cons.mpr ⟨lw_p20, List.forall_mem_cons.mpr ⟨lw_p21, List.forall_mem_cons.mpr ⟨lw_p22, List.forall_mem_cons.mpr ⟨lw_p23, List.forall_mem_cons.mpr ⟨lw_p24, List.forall_mem_cons.mpr ⟨lw_p25, List.forall_mem_cons.mpr ⟨lw_p26, List.forall_mem_cons.mpr ⟨lw_p27, List.forall_mem_cons.mpr ⟨lw_p28, List.forall_mem_cons.mpr ⟨lw_p29, List.forall_mem_cons.mpr ⟨lw_p30, List.forall_mem_cons.mpr ⟨lw_p31, fun _ h => absurd h List.not_mem_nil⟩⟩⟩⟩⟩⟩⟩⟩⟩⟩⟩⟩⟩⟩⟩⟩
theorem lw_p32 : lw_okq (⟨"SnowRises$Couples", "asksNext", "(I)Z"⟩, 10) := ⟨⟨by decide +kernel, by decide +kernel⟩, List.mem_of_getElem? (i := 318) (by decide +kernel), List.mem_of_getElem? (i := 984) (by decide +kernel), List.mem_of_getElem? (i := 985) (by decide +kernel)⟩
theorem lw_p33 : lw_okq (⟨"SnowRises$Couples", "greatestSum", "(II)I"⟩, 10) := ⟨⟨by decide +kernel, by decide +kernel⟩, List.mem_of_getElem? (i := 318) (by decide +kernel), List.mem_of_getElem? (i := 1003) (by decide +kernel), List.mem_of_getElem? (i := 1004) (by decide +kernel)⟩
theorem lw_p34 : lw_okq (⟨"SnowRises$Couples", "sumWith", "(III)I"⟩, 10) := ⟨⟨by decide +kernel, by decide +kernel⟩, List.mem_of_getElem? (i := 318) (by decide +kernel), List.mem_of_getElem? (i := 1007) (by decide +kernel), List.mem_of_getElem? (i := 1008) (by decide +kernel)⟩
theorem lw_p35 : lw_okq (⟨"SnowRises$Couples", "takeFirstWay", "()V"⟩, 10) := ⟨⟨by decide +kernel, by decide +kernel⟩, List.mem_of_getElem? (i := 318) (by decide +kernel), List.mem_of_getElem? (i := 1012) (by decide +kernel), List.mem_of_getElem? (i := 1013) (by decide +kernel)⟩
theorem lw_p36 : lw_okq (⟨"SnowRises$Couples", "firstBaring", "(LSnowRises$World;IIII)I"⟩, 10) := ⟨⟨by decide +kernel, by decide +kernel⟩, List.mem_of_getElem? (i := 318) (by decide +kernel), List.mem_of_getElem? (i := 1024) (by decide +kernel), List.mem_of_getElem? (i := 1025) (by decide +kernel)⟩
theorem lw_p37 : lw_okq (⟨"SnowRises$World", "allStirsFit", "(II)Z"⟩, 17) := ⟨⟨by decide +kernel, by decide +kernel⟩, List.mem_of_getElem? (i := 30) (by decide +kernel), List.mem_of_getElem? (i := 1044) (by decide +kernel), List.mem_of_getElem? (i := 1045) (by decide +kernel)⟩
theorem lw_p38 : lw_okq (⟨"SnowRises$Couples", "mostAlike", "(LSnowRises$World;II)I"⟩, 10) := ⟨⟨by decide +kernel, by decide +kernel⟩, List.mem_of_getElem? (i := 318) (by decide +kernel), List.mem_of_getElem? (i := 1057) (by decide +kernel), List.mem_of_getElem? (i := 1058) (by decide +kernel)⟩
theorem lw_p39 : lw_okq (⟨"SnowRises$Ways", "search", "(LSnowRises$World;II)Z"⟩, 6) := ⟨⟨by decide +kernel, by decide +kernel⟩, List.mem_of_getElem? (i := 356) (by decide +kernel), List.mem_of_getElem? (i := 1090) (by decide +kernel), List.mem_of_getElem? (i := 1091) (by decide +kernel)⟩
theorem lw_p40 : lw_okq (⟨"SnowRises$Ways", "reach", "(II)V"⟩, 6) := ⟨⟨by decide +kernel, by decide +kernel⟩, List.mem_of_getElem? (i := 356) (by decide +kernel), List.mem_of_getElem? (i := 1094) (by decide +kernel), List.mem_of_getElem? (i := 1095) (by decide +kernel)⟩
theorem lw_p41 : lw_okq (⟨"SnowRises$Ways", "addWay", "(II)V"⟩, 6) := ⟨⟨by decide +kernel, by decide +kernel⟩, List.mem_of_getElem? (i := 356) (by decide +kernel), List.mem_of_getElem? (i := 1098) (by decide +kernel), List.mem_of_getElem? (i := 1099) (by decide +kernel)⟩
theorem lw_p42 : lw_okq (⟨"SnowRises$Rounds", "isOpen", "(II)Z"⟩, 5) := ⟨⟨by decide +kernel, by decide +kernel⟩, List.mem_of_getElem? (i := 382) (by decide +kernel), List.mem_of_getElem? (i := 1118) (by decide +kernel), List.mem_of_getElem? (i := 1119) (by decide +kernel)⟩
theorem lw_p43 : lw_okq (⟨"SnowRisesModel", "begins", "(II)V"⟩, 40) := ⟨⟨by decide +kernel, by decide +kernel⟩, List.mem_of_getElem? (i := 1181) (by decide +kernel), List.mem_of_getElem? (i := 1188) (by decide +kernel), List.mem_of_getElem? (i := 1189) (by decide +kernel)⟩
theorem lw_p44 : lw_okq (⟨"SnowRisesModel", "isField", "(I)Z"⟩, 40) := ⟨⟨by decide +kernel, by decide +kernel⟩, List.mem_of_getElem? (i := 1181) (by decide +kernel), List.mem_of_getElem? (i := 1192) (by decide +kernel), List.mem_of_getElem? (i := 1193) (by decide +kernel)⟩
theorem lw_p45 : lw_okq (⟨"SnowRisesModel", "isOn", "(II)Z"⟩, 40) := ⟨⟨by decide +kernel, by decide +kernel⟩, List.mem_of_getElem? (i := 1181) (by decide +kernel), List.mem_of_getElem? (i := 1199) (by decide +kernel), List.mem_of_getElem? (i := 1200) (by decide +kernel)⟩
theorem lw_p46 : lw_okq (⟨"SnowRisesModel", "forgets", "()V"⟩, 40) := ⟨⟨by decide +kernel, by decide +kernel⟩, List.mem_of_getElem? (i := 1181) (by decide +kernel), List.mem_of_getElem? (i := 1328) (by decide +kernel), List.mem_of_getElem? (i := 1329) (by decide +kernel)⟩
theorem lw_p47 : lw_okq (⟨"SnowRisesModel", "canSet", "(III)Z"⟩, 40) := ⟨⟨by decide +kernel, by decide +kernel⟩, List.mem_of_getElem? (i := 1181) (by decide +kernel), List.mem_of_getElem? (i := 1344) (by decide +kernel), List.mem_of_getElem? (i := 1345) (by decide +kernel)⟩
def lw_privs_3 : List (MethodName × Nat) := [(⟨"SnowRises$Couples", "asksNext", "(I)Z"⟩, 10), (⟨"SnowRises$Couples", "greatestSum", "(II)I"⟩, 10), (⟨"SnowRises$Couples", "sumWith", "(III)I"⟩, 10), (⟨"SnowRises$Couples", "takeFirstWay", "()V"⟩, 10), (⟨"SnowRises$Couples", "firstBaring", "(LSnowRises$World;IIII)I"⟩, 10), (⟨"SnowRises$World", "allStirsFit", "(II)Z"⟩, 17), (⟨"SnowRises$Couples", "mostAlike", "(LSnowRises$World;II)I"⟩, 10), (⟨"SnowRises$Ways", "search", "(LSnowRises$World;II)Z"⟩, 6), (⟨"SnowRises$Ways", "reach", "(II)V"⟩, 6), (⟨"SnowRises$Ways", "addWay", "(II)V"⟩, 6), (⟨"SnowRises$Rounds", "isOpen", "(II)Z"⟩, 5), (⟨"SnowRisesModel", "begins", "(II)V"⟩, 40), (⟨"SnowRisesModel", "isField", "(I)Z"⟩, 40), (⟨"SnowRisesModel", "isOn", "(II)Z"⟩, 40), (⟨"SnowRisesModel", "forgets", "()V"⟩, 40), (⟨"SnowRisesModel", "canSet", "(III)Z"⟩, 40)]
theorem lw_r3 : ∀ q ∈ lw_privs_3, lw_okq q := List.forall_mem_cons.mpr ⟨lw_p32, List.forall_mem_cons.mpr ⟨lw_p33, List.forall_mem_cons.mpr ⟨lw_p34, List.forall_mem_cons.mpr ⟨lw_p35, List.forall_mem_cons.mpr ⟨lw_p36, List.forall_mem_cons.mpr ⟨lw_p37, List.forall_mem_cons.mpr ⟨lw_p38, List.forall_mem_cons.mpr ⟨lw_p39, List.forall_mem_cons.mpr ⟨lw_p40, List.forall_mem_cons.mpr ⟨lw_p41, List.forall_mem_cons.mpr ⟨lw_p42, List.forall_mem_cons.mpr ⟨lw_p43, List.forall_mem_cons.mpr ⟨lw_p44, List.forall_mem_cons.mpr ⟨lw_p45, List.forall_mem_cons.mpr ⟨lw_p46, List.forall_mem_cons.mpr ⟨lw_p47, fun _ h => absurd h List.not_mem_nil⟩⟩⟩⟩⟩⟩⟩⟩⟩⟩⟩⟩⟩⟩⟩⟩
theorem lw_p48 : lw_okq (⟨"SnowRisesModel", "isPerson", "(I)Z"⟩, 40) := ⟨⟨by decide +kernel, by decide +kernel⟩, List.mem_of_getElem? (i := 1181) (by decide +kernel), List.mem_of_getElem? (i := 1348) (by decide +kernel), List.mem_of_getElem? (i := 1349) (by decide +kernel)⟩
theorem lw_p49 : lw_okq (⟨"SnowRisesModel", "next0", "()V"⟩, 40) := ⟨⟨by decide +kernel, by decide +kernel⟩, List.mem_of_getElem? (i := 1181) (by decide +kernel), List.mem_of_getElem? (i := 1371) (by decide +kernel), List.mem_of_getElem? (i := 1372) (by decide +kernel)⟩
theorem lw_p50 : lw_okq (⟨"SnowRisesModel", "see", "(I)I"⟩, 40) := ⟨⟨by decide +kernel, by decide +kernel⟩, List.mem_of_getElem? (i := 1181) (by decide +kernel), List.mem_of_getElem? (i := 1375) (by decide +kernel), List.mem_of_getElem? (i := 1376) (by decide +kernel)⟩
theorem lw_p51 : lw_okq (⟨"SnowRisesModel", "word", "()I"⟩, 40) := ⟨⟨by decide +kernel, by decide +kernel⟩, List.mem_of_getElem? (i := 1181) (by decide +kernel), List.mem_of_getElem? (i := 1382) (by decide +kernel), List.mem_of_getElem? (i := 1383) (by decide +kernel)⟩
theorem lw_p52 : lw_okq (⟨"SnowRisesModel", "lawWord", "()I"⟩, 40) := ⟨⟨by decide +kernel, by decide +kernel⟩, List.mem_of_getElem? (i := 1181) (by decide +kernel), List.mem_of_getElem? (i := 1386) (by decide +kernel), List.mem_of_getElem? (i := 1387) (by decide +kernel)⟩
theorem lw_p53 : lw_okq (⟨"SnowRisesModel", "is", "(Ljava/lang/String;)Z"⟩, 40) := ⟨⟨by decide +kernel, by decide +kernel⟩, List.mem_of_getElem? (i := 1181) (by decide +kernel), List.mem_of_getElem? (i := 1391) (by decide +kernel), List.mem_of_getElem? (i := 1392) (by decide +kernel)⟩
theorem lw_p54 : lw_okq (⟨"SnowRisesModel", "asked", "()I"⟩, 40) := ⟨⟨by decide +kernel, by decide +kernel⟩, List.mem_of_getElem? (i := 1181) (by decide +kernel), List.mem_of_getElem? (i := 1403) (by decide +kernel), List.mem_of_getElem? (i := 1404) (by decide +kernel)⟩
theorem lw_p55 : lw_okq (⟨"SnowRisesModel", "vowWord", "()I"⟩, 40) := ⟨⟨by decide +kernel, by decide +kernel⟩, List.mem_of_getElem? (i := 1181) (by decide +kernel), List.mem_of_getElem? (i := 1417) (by decide +kernel), List.mem_of_getElem? (i := 1418) (by decide +kernel)⟩
theorem lw_p56 : lw_okq (⟨"SnowRisesModel", "weatherWord", "()I"⟩, 40) := ⟨⟨by decide +kernel, by decide +kernel⟩, List.mem_of_getElem? (i := 1181) (by decide +kernel), List.mem_of_getElem? (i := 1423) (by decide +kernel), List.mem_of_getElem? (i := 1424) (by decide +kernel)⟩
theorem lw_p57 : lw_okq (⟨"SnowRisesModel", "wantWord", "()I"⟩, 40) := ⟨⟨by decide +kernel, by decide +kernel⟩, List.mem_of_getElem? (i := 1181) (by decide +kernel), List.mem_of_getElem? (i := 1428) (by decide +kernel), List.mem_of_getElem? (i := 1429) (by decide +kernel)⟩
theorem lw_p58 : lw_okq (⟨"SnowRisesModel", "readsLaw", "()Z"⟩, 40) := ⟨⟨by decide +kernel, by decide +kernel⟩, List.mem_of_getElem? (i := 1181) (by decide +kernel), List.mem_of_getElem? (i := 1437) (by decide +kernel), List.mem_of_getElem? (i := 1438) (by decide +kernel)⟩
theorem lw_p59 : lw_okq (⟨"SnowRisesModel", "aLine", "()Z"⟩, 40) := ⟨⟨by decide +kernel, by decide +kernel⟩, List.mem_of_getElem? (i := 1181) (by decide +kernel), List.mem_of_getElem? (i := 1441) (by decide +kernel), List.mem_of_getElem? (i := 1442) (by decide +kernel)⟩
theorem lw_p60 : lw_okq (⟨"SnowRisesModel", "bad", "(I)Z"⟩, 40) := ⟨⟨by decide +kernel, by decide +kernel⟩, List.mem_of_getElem? (i := 1181) (by decide +kernel), List.mem_of_getElem? (i := 1445) (by decide +kernel), List.mem_of_getElem? (i := 1446) (by decide +kernel)⟩
theorem lw_p61 : lw_okq (⟨"SnowRisesModel", "sumUp", "()Z"⟩, 40) := ⟨⟨by decide +kernel, by decide +kernel⟩, List.mem_of_getElem? (i := 1181) (by decide +kernel), List.mem_of_getElem? (i := 1449) (by decide +kernel), List.mem_of_getElem? (i := 1450) (by decide +kernel)⟩
theorem lw_p62 : lw_okq (⟨"SnowRisesModel", "product", "()Z"⟩, 40) := ⟨⟨by decide +kernel, by decide +kernel⟩, List.mem_of_getElem? (i := 1181) (by decide +kernel), List.mem_of_getElem? (i := 1453) (by decide +kernel), List.mem_of_getElem? (i := 1454) (by decide +kernel)⟩
theorem lw_p63 : lw_okq (⟨"SnowRisesModel", "unit", "()Z"⟩, 40) := ⟨⟨by decide +kernel, by decide +kernel⟩, List.mem_of_getElem? (i := 1181) (by decide +kernel), List.mem_of_getElem? (i := 1457) (by decide +kernel), List.mem_of_getElem? (i := 1458) (by decide +kernel)⟩
def lw_privs_4 : List (MethodName × Nat) := [(⟨"SnowRisesModel", "isPerson", "(I)Z"⟩, 40), (⟨"SnowRisesModel", "next0", "()V"⟩, 40), (⟨"SnowRisesModel", "see", "(I)I"⟩, 40), (⟨"SnowRisesModel", "word", "()I"⟩, 40), (⟨"SnowRisesModel", "lawWord", "()I"⟩, 40), (⟨"SnowRisesModel", "is", "(Ljava/lang/String;)Z"⟩, 40), (⟨"SnowRisesModel", "asked", "()I"⟩, 40), (⟨"SnowRisesModel", "vowWord", "()I"⟩, 40), (⟨"SnowRisesModel", "weatherWord", "()I"⟩, 40), (⟨"SnowRisesModel", "wantWord", "()I"⟩, 40), (⟨"SnowRisesModel", "readsLaw", "()Z"⟩, 40), (⟨"SnowRisesModel", "aLine", "()Z"⟩, 40), (⟨"SnowRisesModel", "bad", "(I)Z"⟩, 40), (⟨"SnowRisesModel", "sumUp", "()Z"⟩, 40), (⟨"SnowRisesModel", "product", "()Z"⟩, 40), (⟨"SnowRisesModel", "unit", "()Z"⟩, 40)]
theorem lw_r4 : ∀ q ∈ lw_privs_4, lw_okq q := List.forall_mem_cons.mpr ⟨lw_p48, List.forall_mem_cons.mpr ⟨lw_p49, List.forall_mem_cons.mpr ⟨lw_p50, List.forall_mem_cons.mpr ⟨lw_p51, List.forall_mem_cons.mpr ⟨lw_p52, List.forall_mem_cons.mpr ⟨lw_p53, List.forall_mem_cons.mpr ⟨lw_p54, List.forall_mem_cons.mpr ⟨lw_p55, List.forall_mem_cons.mpr ⟨lw_p56, List.forall_mem_cons.mpr ⟨lw_p57, List.forall_mem_cons.mpr ⟨lw_p58, List.forall_mem_cons.mpr ⟨lw_p59, List.forall_mem_cons.mpr ⟨lw_p60, List.forall_mem_cons.mpr ⟨lw_p61, List.forall_mem_cons.mpr ⟨lw_p62, List.forall_mem_cons.mpr ⟨lw_p63, fun _ h => absurd h List.not_mem_nil⟩⟩⟩⟩⟩⟩⟩⟩⟩⟩⟩⟩⟩⟩⟩⟩
theorem lw_p64 : lw_okq (⟨"SnowRisesModel", "lay", "(II)V"⟩, 40) := ⟨⟨by decide +kernel, by decide +kernel⟩, List.mem_of_getElem? (i := 1181) (by decide +kernel), List.mem_of_getElem? (i := 1461) (by decide +kernel), List.mem_of_getElem? (i := 1462) (by decide +kernel)⟩
theorem lw_p65 : lw_okq (⟨"SnowRisesModel", "any", "()Z"⟩, 40) := ⟨⟨by decide +kernel, by decide +kernel⟩, List.mem_of_getElem? (i := 1181) (by decide +kernel), List.mem_of_getElem? (i := 1465) (by decide +kernel), List.mem_of_getElem? (i := 1466) (by decide +kernel)⟩
theorem lw_p66 : lw_okq (⟨"SnowRisesModel", "every", "()Z"⟩, 40) := ⟨⟨by decide +kernel, by decide +kernel⟩, List.mem_of_getElem? (i := 1181) (by decide +kernel), List.mem_of_getElem? (i := 1469) (by decide +kernel), List.mem_of_getElem? (i := 1470) (by decide +kernel)⟩
theorem lw_p67 : lw_okq (⟨"SnowRisesModel", "oneTest", "()Z"⟩, 40) := ⟨⟨by decide +kernel, by decide +kernel⟩, List.mem_of_getElem? (i := 1181) (by decide +kernel), List.mem_of_getElem? (i := 1473) (by decide +kernel), List.mem_of_getElem? (i := 1474) (by decide +kernel)⟩
theorem lw_p68 : lw_okq (⟨"SnowRisesModel", "opens", "()Z"⟩, 40) := ⟨⟨by decide +kernel, by decide +kernel⟩, List.mem_of_getElem? (i := 1181) (by decide +kernel), List.mem_of_getElem? (i := 1477) (by decide +kernel), List.mem_of_getElem? (i := 1478) (by decide +kernel)⟩
theorem lw_p69 : lw_okq (⟨"SnowRisesModel", "need", "(I)Z"⟩, 40) := ⟨⟨by decide +kernel, by decide +kernel⟩, List.mem_of_getElem? (i := 1181) (by decide +kernel), List.mem_of_getElem? (i := 1481) (by decide +kernel), List.mem_of_getElem? (i := 1482) (by decide +kernel)⟩
theorem lw_p70 : lw_okq (⟨"SnowRisesModel", "readsRows", "()Z"⟩, 40) := ⟨⟨by decide +kernel, by decide +kernel⟩, List.mem_of_getElem? (i := 1181) (by decide +kernel), List.mem_of_getElem? (i := 1485) (by decide +kernel), List.mem_of_getElem? (i := 1486) (by decide +kernel)⟩
theorem lw_p71 : lw_okq (⟨"SnowRisesModel", "aRow", "()Z"⟩, 40) := ⟨⟨by decide +kernel, by decide +kernel⟩, List.mem_of_getElem? (i := 1181) (by decide +kernel), List.mem_of_getElem? (i := 1489) (by decide +kernel), List.mem_of_getElem? (i := 1490) (by decide +kernel)⟩
theorem lw_p72 : lw_okq (⟨"SnowRisesModel", "aVow", "()Z"⟩, 40) := ⟨⟨by decide +kernel, by decide +kernel⟩, List.mem_of_getElem? (i := 1181) (by decide +kernel), List.mem_of_getElem? (i := 1493) (by decide +kernel), List.mem_of_getElem? (i := 1494) (by decide +kernel)⟩
theorem lw_p73 : lw_okq (⟨"SnowRisesModel", "told", "(IIII)Z"⟩, 40) := ⟨⟨by decide +kernel, by decide +kernel⟩, List.mem_of_getElem? (i := 1181) (by decide +kernel), List.mem_of_getElem? (i := 1497) (by decide +kernel), List.mem_of_getElem? (i := 1498) (by decide +kernel)⟩
theorem lw_p74 : lw_okq (⟨"SnowRisesModel", "number", "(III)Z"⟩, 40) := ⟨⟨by decide +kernel, by decide +kernel⟩, List.mem_of_getElem? (i := 1181) (by decide +kernel), List.mem_of_getElem? (i := 1501) (by decide +kernel), List.mem_of_getElem? (i := 1502) (by decide +kernel)⟩
theorem lw_p75 : lw_okq (⟨"SnowRisesModel", "areUnlike", "(II)Z"⟩, 40) := ⟨⟨by decide +kernel, by decide +kernel⟩, List.mem_of_getElem? (i := 1181) (by decide +kernel), List.mem_of_getElem? (i := 1505) (by decide +kernel), List.mem_of_getElem? (i := 1506) (by decide +kernel)⟩
theorem lw_p76 : lw_okq (⟨"SnowRisesModel", "aField", "(II)Z"⟩, 40) := ⟨⟨by decide +kernel, by decide +kernel⟩, List.mem_of_getElem? (i := 1181) (by decide +kernel), List.mem_of_getElem? (i := 1509) (by decide +kernel), List.mem_of_getElem? (i := 1510) (by decide +kernel)⟩
theorem lw_p77 : lw_okq (⟨"SnowRisesModel", "aWeather", "()Z"⟩, 40) := ⟨⟨by decide +kernel, by decide +kernel⟩, List.mem_of_getElem? (i := 1181) (by decide +kernel), List.mem_of_getElem? (i := 1513) (by decide +kernel), List.mem_of_getElem? (i := 1514) (by decide +kernel)⟩
theorem lw_p78 : lw_okq (⟨"SnowRisesModel", "aWant", "()Z"⟩, 40) := ⟨⟨by decide +kernel, by decide +kernel⟩, List.mem_of_getElem? (i := 1181) (by decide +kernel), List.mem_of_getElem? (i := 1517) (by decide +kernel), List.mem_of_getElem? (i := 1518) (by decide +kernel)⟩
theorem lw_p79 : lw_okq (⟨"SnowRisesModel", "putsText", "(I)I"⟩, 40) := ⟨⟨by decide +kernel, by decide +kernel⟩, List.mem_of_getElem? (i := 1181) (by decide +kernel), List.mem_of_getElem? (i := 1521) (by decide +kernel), List.mem_of_getElem? (i := 1522) (by decide +kernel)⟩
def lw_privs_5 : List (MethodName × Nat) := [(⟨"SnowRisesModel", "lay", "(II)V"⟩, 40), (⟨"SnowRisesModel", "any", "()Z"⟩, 40), (⟨"SnowRisesModel", "every", "()Z"⟩, 40), (⟨"SnowRisesModel", "oneTest", "()Z"⟩, 40), (⟨"SnowRisesModel", "opens", "()Z"⟩, 40), (⟨"SnowRisesModel", "need", "(I)Z"⟩, 40), (⟨"SnowRisesModel", "readsRows", "()Z"⟩, 40), (⟨"SnowRisesModel", "aRow", "()Z"⟩, 40), (⟨"SnowRisesModel", "aVow", "()Z"⟩, 40), (⟨"SnowRisesModel", "told", "(IIII)Z"⟩, 40), (⟨"SnowRisesModel", "number", "(III)Z"⟩, 40), (⟨"SnowRisesModel", "areUnlike", "(II)Z"⟩, 40), (⟨"SnowRisesModel", "aField", "(II)Z"⟩, 40), (⟨"SnowRisesModel", "aWeather", "()Z"⟩, 40), (⟨"SnowRisesModel", "aWant", "()Z"⟩, 40), (⟨"SnowRisesModel", "putsText", "(I)I"⟩, 40)]
theorem lw_r5 : ∀ q ∈ lw_privs_5, lw_okq q := List.forall_mem_cons.mpr ⟨lw_p64, List.forall_mem_cons.mpr ⟨lw_p65, List.forall_mem_cons.mpr ⟨lw_p66, List.forall_mem_cons.mpr ⟨lw_p67, List.forall_mem_cons.mpr ⟨lw_p68, List.forall_mem_cons.mpr ⟨lw_p69, List.forall_mem_cons.mpr ⟨lw_p70, List.forall_mem_cons.mpr ⟨lw_p71, List.forall_mem_cons.mpr ⟨lw_p72, List.forall_mem_cons.mpr ⟨lw_p73, List.forall_mem_cons.mpr ⟨lw_p74, List.forall_mem_cons.mpr ⟨lw_p75, List.forall_mem_cons.mpr ⟨lw_p76, List.forall_mem_cons.mpr ⟨lw_p77, List.forall_mem_cons.mpr ⟨lw_p78, List.forall_mem_cons.mpr ⟨lw_p79, fun _ h => absurd h List.not_mem_nil⟩⟩⟩⟩⟩⟩⟩⟩⟩⟩⟩⟩⟩⟩⟩⟩
theorem lw_p80 : lw_okq (⟨"SnowRisesModel", "putsLaw", "()I"⟩, 40) := ⟨⟨by decide +kernel, by decide +kernel⟩, List.mem_of_getElem? (i := 1181) (by decide +kernel), List.mem_of_getElem? (i := 1525) (by decide +kernel), List.mem_of_getElem? (i := 1526) (by decide +kernel)⟩
theorem lw_p81 : lw_okq (⟨"SnowRisesModel", "puts", "(III)I"⟩, 40) := ⟨⟨by decide +kernel, by decide +kernel⟩, List.mem_of_getElem? (i := 1181) (by decide +kernel), List.mem_of_getElem? (i := 1529) (by decide +kernel), List.mem_of_getElem? (i := 1530) (by decide +kernel)⟩
theorem lw_p82 : lw_okq (⟨"SnowRisesModel", "canVow", "(III)Z"⟩, 40) := ⟨⟨by decide +kernel, by decide +kernel⟩, List.mem_of_getElem? (i := 1181) (by decide +kernel), List.mem_of_getElem? (i := 1545) (by decide +kernel), List.mem_of_getElem? (i := 1546) (by decide +kernel)⟩
theorem lw_p83 : lw_okq (⟨"SnowRisesModel", "isFree", "(I)Z"⟩, 40) := ⟨⟨by decide +kernel, by decide +kernel⟩, List.mem_of_getElem? (i := 1181) (by decide +kernel), List.mem_of_getElem? (i := 1549) (by decide +kernel), List.mem_of_getElem? (i := 1550) (by decide +kernel)⟩
theorem lw_p84 : lw_okq (⟨"SnowRisesModel", "keeps", "()V"⟩, 40) := ⟨⟨by decide +kernel, by decide +kernel⟩, List.mem_of_getElem? (i := 1181) (by decide +kernel), List.mem_of_getElem? (i := 1553) (by decide +kernel), List.mem_of_getElem? (i := 1554) (by decide +kernel)⟩
theorem lw_p85 : lw_okq (⟨"SnowRisesModel", "vows", "(III)I"⟩, 40) := ⟨⟨by decide +kernel, by decide +kernel⟩, List.mem_of_getElem? (i := 1181) (by decide +kernel), List.mem_of_getElem? (i := 1557) (by decide +kernel), List.mem_of_getElem? (i := 1558) (by decide +kernel)⟩
theorem lw_p86 : lw_okq (⟨"SnowRisesModel", "foundOf", "(II)I"⟩, 40) := ⟨⟨by decide +kernel, by decide +kernel⟩, List.mem_of_getElem? (i := 1181) (by decide +kernel), List.mem_of_getElem? (i := 1561) (by decide +kernel), List.mem_of_getElem? (i := 1562) (by decide +kernel)⟩
theorem lw_p87 : lw_okq (⟨"SnowRisesModel", "matchOf", "(II)I"⟩, 40) := ⟨⟨by decide +kernel, by decide +kernel⟩, List.mem_of_getElem? (i := 1181) (by decide +kernel), List.mem_of_getElem? (i := 1565) (by decide +kernel), List.mem_of_getElem? (i := 1566) (by decide +kernel)⟩
theorem lw_p88 : lw_okq (⟨"SnowRisesModel", "laysTwo", "(II)V"⟩, 40) := ⟨⟨by decide +kernel, by decide +kernel⟩, List.mem_of_getElem? (i := 1181) (by decide +kernel), List.mem_of_getElem? (i := 1569) (by decide +kernel), List.mem_of_getElem? (i := 1570) (by decide +kernel)⟩
theorem lw_p89 : lw_okq (⟨"SnowRisesModel", "clears", "()V"⟩, 40) := ⟨⟨by decide +kernel, by decide +kernel⟩, List.mem_of_getElem? (i := 1181) (by decide +kernel), List.mem_of_getElem? (i := 1573) (by decide +kernel), List.mem_of_getElem? (i := 1574) (by decide +kernel)⟩
theorem lw_p90 : lw_okq (⟨"SnowRisesModel", "says", "(III)I"⟩, 40) := ⟨⟨by decide +kernel, by decide +kernel⟩, List.mem_of_getElem? (i := 1181) (by decide +kernel), List.mem_of_getElem? (i := 1580) (by decide +kernel), List.mem_of_getElem? (i := 1581) (by decide +kernel)⟩
theorem lw_p91 : lw_okq (⟨"SnowRisesModel", "isSo", "(I)Z"⟩, 40) := ⟨⟨by decide +kernel, by decide +kernel⟩, List.mem_of_getElem? (i := 1181) (by decide +kernel), List.mem_of_getElem? (i := 1584) (by decide +kernel), List.mem_of_getElem? (i := 1585) (by decide +kernel)⟩
theorem lw_p92 : lw_okq (⟨"SnowRisesModel", "comesTo", "(III)I"⟩, 40) := ⟨⟨by decide +kernel, by decide +kernel⟩, List.mem_of_getElem? (i := 1181) (by decide +kernel), List.mem_of_getElem? (i := 1588) (by decide +kernel), List.mem_of_getElem? (i := 1589) (by decide +kernel)⟩
theorem lw_p93 : lw_okq (⟨"SnowRisesModel", "rises", "(III)I"⟩, 40) := ⟨⟨by decide +kernel, by decide +kernel⟩, List.mem_of_getElem? (i := 1181) (by decide +kernel), List.mem_of_getElem? (i := 1601) (by decide +kernel), List.mem_of_getElem? (i := 1602) (by decide +kernel)⟩
theorem lw_p94 : lw_okq (⟨"SnowRisesModel", "lifts", "(IIII)I"⟩, 40) := ⟨⟨by decide +kernel, by decide +kernel⟩, List.mem_of_getElem? (i := 1181) (by decide +kernel), List.mem_of_getElem? (i := 1605) (by decide +kernel), List.mem_of_getElem? (i := 1606) (by decide +kernel)⟩
theorem lw_p95 : lw_okq (⟨"SnowRisesModel", "liftOf", "(IIII)I"⟩, 40) := ⟨⟨by decide +kernel, by decide +kernel⟩, List.mem_of_getElem? (i := 1181) (by decide +kernel), List.mem_of_getElem? (i := 1609) (by decide +kernel), List.mem_of_getElem? (i := 1610) (by decide +kernel)⟩
def lw_privs_6 : List (MethodName × Nat) := [(⟨"SnowRisesModel", "putsLaw", "()I"⟩, 40), (⟨"SnowRisesModel", "puts", "(III)I"⟩, 40), (⟨"SnowRisesModel", "canVow", "(III)Z"⟩, 40), (⟨"SnowRisesModel", "isFree", "(I)Z"⟩, 40), (⟨"SnowRisesModel", "keeps", "()V"⟩, 40), (⟨"SnowRisesModel", "vows", "(III)I"⟩, 40), (⟨"SnowRisesModel", "foundOf", "(II)I"⟩, 40), (⟨"SnowRisesModel", "matchOf", "(II)I"⟩, 40), (⟨"SnowRisesModel", "laysTwo", "(II)V"⟩, 40), (⟨"SnowRisesModel", "clears", "()V"⟩, 40), (⟨"SnowRisesModel", "says", "(III)I"⟩, 40), (⟨"SnowRisesModel", "isSo", "(I)Z"⟩, 40), (⟨"SnowRisesModel", "comesTo", "(III)I"⟩, 40), (⟨"SnowRisesModel", "rises", "(III)I"⟩, 40), (⟨"SnowRisesModel", "lifts", "(IIII)I"⟩, 40), (⟨"SnowRisesModel", "liftOf", "(IIII)I"⟩, 40)]
theorem lw_r6 : ∀ q ∈ lw_privs_6, lw_okq q := List.forall_mem_cons.mpr ⟨lw_p80, List.forall_mem_cons.mpr ⟨lw_p81, List.forall_mem_cons.mpr ⟨lw_p82, List.forall_mem_cons.mpr ⟨lw_p83, List.forall_mem_cons.mpr ⟨lw_p84, List.forall_mem_cons.mpr ⟨lw_p85, List.forall_mem_cons.mpr ⟨lw_p86, List.forall_mem_cons.mpr ⟨lw_p87, List.forall_mem_cons.mpr ⟨lw_p88, List.forall_mem_cons.mpr ⟨lw_p89, List.forall_mem_cons.mpr ⟨lw_p90, List.forall_mem_cons.mpr ⟨lw_p91, List.forall_mem_cons.mpr ⟨lw_p92, List.forall_mem_cons.mpr ⟨lw_p93, List.forall_mem_cons.mpr ⟨lw_p94, List.forall_mem_cons.mpr ⟨lw_p95, fun _ h => absurd h List.not_mem_nil⟩⟩⟩⟩⟩⟩⟩⟩⟩⟩⟩⟩⟩⟩⟩⟩
theorem lw_p96 : lw_okq (⟨"SnowRisesModel", "drifts", "(III)I"⟩, 40) := ⟨⟨by decide +kernel, by decide +kernel⟩, List.mem_of_getElem? (i := 1181) (by decide +kernel), List.mem_of_getElem? (i := 1616) (by decide +kernel), List.mem_of_getElem? (i := 1617) (by decide +kernel)⟩
theorem lw_p97 : lw_okq (⟨"SnowRisesModel", "wentTo", "(II)I"⟩, 40) := ⟨⟨by decide +kernel, by decide +kernel⟩, List.mem_of_getElem? (i := 1181) (by decide +kernel), List.mem_of_getElem? (i := 1620) (by decide +kernel), List.mem_of_getElem? (i := 1621) (by decide +kernel)⟩
theorem lw_p98 : lw_okq (⟨"SnowRisesModel", "notes", "(III)V"⟩, 40) := ⟨⟨by decide +kernel, by decide +kernel⟩, List.mem_of_getElem? (i := 1181) (by decide +kernel), List.mem_of_getElem? (i := 1624) (by decide +kernel), List.mem_of_getElem? (i := 1625) (by decide +kernel)⟩
theorem lw_p99 : lw_okq (⟨"SnowRisesModel", "aDay", "()I"⟩, 40) := ⟨⟨by decide +kernel, by decide +kernel⟩, List.mem_of_getElem? (i := 1181) (by decide +kernel), List.mem_of_getElem? (i := 1640) (by decide +kernel), List.mem_of_getElem? (i := 1641) (by decide +kernel)⟩
theorem lw_p100 : lw_okq (⟨"SnowRisesModel", "snows", "()V"⟩, 40) := ⟨⟨by decide +kernel, by decide +kernel⟩, List.mem_of_getElem? (i := 1181) (by decide +kernel), List.mem_of_getElem? (i := 1644) (by decide +kernel), List.mem_of_getElem? (i := 1645) (by decide +kernel)⟩
theorem lw_p101 : lw_okq (⟨"SnowRisesModel", "weatherOf", "(I)I"⟩, 40) := ⟨⟨by decide +kernel, by decide +kernel⟩, List.mem_of_getElem? (i := 1181) (by decide +kernel), List.mem_of_getElem? (i := 1648) (by decide +kernel), List.mem_of_getElem? (i := 1649) (by decide +kernel)⟩
theorem lw_p102 : lw_okq (⟨"SnowRisesModel", "vowsOfDay", "()I"⟩, 40) := ⟨⟨by decide +kernel, by decide +kernel⟩, List.mem_of_getElem? (i := 1181) (by decide +kernel), List.mem_of_getElem? (i := 1652) (by decide +kernel), List.mem_of_getElem? (i := 1653) (by decide +kernel)⟩
theorem lw_p103 : lw_okq (⟨"SnowRisesModel", "ofVow", "(II)I"⟩, 40) := ⟨⟨by decide +kernel, by decide +kernel⟩, List.mem_of_getElem? (i := 1181) (by decide +kernel), List.mem_of_getElem? (i := 1656) (by decide +kernel), List.mem_of_getElem? (i := 1657) (by decide +kernel)⟩
theorem lw_p104 : lw_okq (⟨"SnowRisesModel", "slides", "()V"⟩, 40) := ⟨⟨by decide +kernel, by decide +kernel⟩, List.mem_of_getElem? (i := 1181) (by decide +kernel), List.mem_of_getElem? (i := 1660) (by decide +kernel), List.mem_of_getElem? (i := 1661) (by decide +kernel)⟩
theorem lw_p105 : lw_okq (⟨"SnowRisesModel", "draw", "(I)I"⟩, 40) := ⟨⟨by decide +kernel, by decide +kernel⟩, List.mem_of_getElem? (i := 1181) (by decide +kernel), List.mem_of_getElem? (i := 1664) (by decide +kernel), List.mem_of_getElem? (i := 1665) (by decide +kernel)⟩
theorem lw_p106 : lw_okq (⟨"SnowRisesModel", "meltOf", "(I)I"⟩, 40) := ⟨⟨by decide +kernel, by decide +kernel⟩, List.mem_of_getElem? (i := 1181) (by decide +kernel), List.mem_of_getElem? (i := 1670) (by decide +kernel), List.mem_of_getElem? (i := 1671) (by decide +kernel)⟩
theorem lw_p107 : lw_okq (⟨"SnowRisesModel", "lays", "()V"⟩, 40) := ⟨⟨by decide +kernel, by decide +kernel⟩, List.mem_of_getElem? (i := 1181) (by decide +kernel), List.mem_of_getElem? (i := 1702) (by decide +kernel), List.mem_of_getElem? (i := 1703) (by decide +kernel)⟩
theorem lw_p108 : lw_okq (⟨"SnowRisesModel", "putsBack", "()V"⟩, 40) := ⟨⟨by decide +kernel, by decide +kernel⟩, List.mem_of_getElem? (i := 1181) (by decide +kernel), List.mem_of_getElem? (i := 1706) (by decide +kernel), List.mem_of_getElem? (i := 1707) (by decide +kernel)⟩
theorem lw_p109 : lw_okq (⟨"SnowRisesModel", "meetsWants", "(I)I"⟩, 40) := ⟨⟨by decide +kernel, by decide +kernel⟩, List.mem_of_getElem? (i := 1181) (by decide +kernel), List.mem_of_getElem? (i := 1714) (by decide +kernel), List.mem_of_getElem? (i := 1715) (by decide +kernel)⟩
theorem lw_p110 : lw_okq (⟨"SnowRisesModel", "lastOf", "(III)I"⟩, 40) := ⟨⟨by decide +kernel, by decide +kernel⟩, List.mem_of_getElem? (i := 1181) (by decide +kernel), List.mem_of_getElem? (i := 1718) (by decide +kernel), List.mem_of_getElem? (i := 1719) (by decide +kernel)⟩
theorem lw_p111 : lw_okq (⟨"SnowRisesModel", "asksOn", "(I)V"⟩, 40) := ⟨⟨by decide +kernel, by decide +kernel⟩, List.mem_of_getElem? (i := 1181) (by decide +kernel), List.mem_of_getElem? (i := 1726) (by decide +kernel), List.mem_of_getElem? (i := 1727) (by decide +kernel)⟩
def lw_privs_7 : List (MethodName × Nat) := [(⟨"SnowRisesModel", "drifts", "(III)I"⟩, 40), (⟨"SnowRisesModel", "wentTo", "(II)I"⟩, 40), (⟨"SnowRisesModel", "notes", "(III)V"⟩, 40), (⟨"SnowRisesModel", "aDay", "()I"⟩, 40), (⟨"SnowRisesModel", "snows", "()V"⟩, 40), (⟨"SnowRisesModel", "weatherOf", "(I)I"⟩, 40), (⟨"SnowRisesModel", "vowsOfDay", "()I"⟩, 40), (⟨"SnowRisesModel", "ofVow", "(II)I"⟩, 40), (⟨"SnowRisesModel", "slides", "()V"⟩, 40), (⟨"SnowRisesModel", "draw", "(I)I"⟩, 40), (⟨"SnowRisesModel", "meltOf", "(I)I"⟩, 40), (⟨"SnowRisesModel", "lays", "()V"⟩, 40), (⟨"SnowRisesModel", "putsBack", "()V"⟩, 40), (⟨"SnowRisesModel", "meetsWants", "(I)I"⟩, 40), (⟨"SnowRisesModel", "lastOf", "(III)I"⟩, 40), (⟨"SnowRisesModel", "asksOn", "(I)V"⟩, 40)]
theorem lw_r7 : ∀ q ∈ lw_privs_7, lw_okq q := List.forall_mem_cons.mpr ⟨lw_p96, List.forall_mem_cons.mpr ⟨lw_p97, List.forall_mem_cons.mpr ⟨lw_p98, List.forall_mem_cons.mpr ⟨lw_p99, List.forall_mem_cons.mpr ⟨lw_p100, List.forall_mem_cons.mpr ⟨lw_p101, List.forall_mem_cons.mpr ⟨lw_p102, List.forall_mem_cons.mpr ⟨lw_p103, List.forall_mem_cons.mpr ⟨lw_p104, List.forall_mem_cons.mpr ⟨lw_p105, List.forall_mem_cons.mpr ⟨lw_p106, List.forall_mem_cons.mpr ⟨lw_p107, List.forall_mem_cons.mpr ⟨lw_p108, List.forall_mem_cons.mpr ⟨lw_p109, List.forall_mem_cons.mpr ⟨lw_p110, List.forall_mem_cons.mpr ⟨lw_p111, fun _ h => absurd h List.not_mem_nil⟩⟩⟩⟩⟩⟩⟩⟩⟩⟩⟩⟩⟩⟩⟩⟩
theorem lw_p112 : lw_okq (⟨"SnowRisesModel", "nextAsked", "(I)I"⟩, 40) := ⟨⟨by decide +kernel, by decide +kernel⟩, List.mem_of_getElem? (i := 1181) (by decide +kernel), List.mem_of_getElem? (i := 1730) (by decide +kernel), List.mem_of_getElem? (i := 1731) (by decide +kernel)⟩
theorem lw_p113 : lw_okq (⟨"SnowRisesModel", "keepsFor", "(II)Z"⟩, 40) := ⟨⟨by decide +kernel, by decide +kernel⟩, List.mem_of_getElem? (i := 1181) (by decide +kernel), List.mem_of_getElem? (i := 1734) (by decide +kernel), List.mem_of_getElem? (i := 1735) (by decide +kernel)⟩
theorem lw_p114 : lw_okq (⟨"SnowRisesModel", "laysFound", "()V"⟩, 40) := ⟨⟨by decide +kernel, by decide +kernel⟩, List.mem_of_getElem? (i := 1181) (by decide +kernel), List.mem_of_getElem? (i := 1742) (by decide +kernel), List.mem_of_getElem? (i := 1743) (by decide +kernel)⟩
theorem lw_p115 : lw_okq (⟨"SnowRisesModel", "laysBest", "()V"⟩, 40) := ⟨⟨by decide +kernel, by decide +kernel⟩, List.mem_of_getElem? (i := 1181) (by decide +kernel), List.mem_of_getElem? (i := 1746) (by decide +kernel), List.mem_of_getElem? (i := 1747) (by decide +kernel)⟩
theorem lw_p116 : lw_okq (⟨"SnowRisesModel", "canHave", "(III)Z"⟩, 40) := ⟨⟨by decide +kernel, by decide +kernel⟩, List.mem_of_getElem? (i := 1181) (by decide +kernel), List.mem_of_getElem? (i := 1750) (by decide +kernel), List.mem_of_getElem? (i := 1751) (by decide +kernel)⟩
theorem lw_p117 : lw_okq (⟨"SnowRisesModel", "takenBy", "(II)I"⟩, 40) := ⟨⟨by decide +kernel, by decide +kernel⟩, List.mem_of_getElem? (i := 1181) (by decide +kernel), List.mem_of_getElem? (i := 1754) (by decide +kernel), List.mem_of_getElem? (i := 1755) (by decide +kernel)⟩
theorem lw_p118 : lw_okq (⟨"SnowRisesModel", "whoBy", "(I)I"⟩, 40) := ⟨⟨by decide +kernel, by decide +kernel⟩, List.mem_of_getElem? (i := 1181) (by decide +kernel), List.mem_of_getElem? (i := 1770) (by decide +kernel), List.mem_of_getElem? (i := 1771) (by decide +kernel)⟩
theorem lw_p119 : lw_okq (⟨"SnowRisesModel", "canBe", "(II)Z"⟩, 40) := ⟨⟨by decide +kernel, by decide +kernel⟩, List.mem_of_getElem? (i := 1181) (by decide +kernel), List.mem_of_getElem? (i := 1774) (by decide +kernel), List.mem_of_getElem? (i := 1775) (by decide +kernel)⟩
theorem lw_p120 : lw_okq (⟨"SnowRisesModel", "mostAlike", "(II)I"⟩, 40) := ⟨⟨by decide +kernel, by decide +kernel⟩, List.mem_of_getElem? (i := 1181) (by decide +kernel), List.mem_of_getElem? (i := 1786) (by decide +kernel), List.mem_of_getElem? (i := 1787) (by decide +kernel)⟩
theorem lw_p121 : lw_okq (⟨"SnowRisesModel", "isSafe", "(I)Z"⟩, 40) := ⟨⟨by decide +kernel, by decide +kernel⟩, List.mem_of_getElem? (i := 1181) (by decide +kernel), List.mem_of_getElem? (i := 1799) (by decide +kernel), List.mem_of_getElem? (i := 1800) (by decide +kernel)⟩
theorem lw_p122 : lw_okq (⟨"SnowRisesModel", "hasWay", "(II)Z"⟩, 40) := ⟨⟨by decide +kernel, by decide +kernel⟩, List.mem_of_getElem? (i := 1181) (by decide +kernel), List.mem_of_getElem? (i := 1807) (by decide +kernel), List.mem_of_getElem? (i := 1808) (by decide +kernel)⟩
theorem lw_p123 : lw_okq (⟨"SnowRisesModel", "isComeTo", "(II)V"⟩, 40) := ⟨⟨by decide +kernel, by decide +kernel⟩, List.mem_of_getElem? (i := 1181) (by decide +kernel), List.mem_of_getElem? (i := 1811) (by decide +kernel), List.mem_of_getElem? (i := 1812) (by decide +kernel)⟩
theorem lw_p124 : lw_okq (⟨"SnowRisesModel", "goesIn", "(I)V"⟩, 40) := ⟨⟨by decide +kernel, by decide +kernel⟩, List.mem_of_getElem? (i := 1181) (by decide +kernel), List.mem_of_getElem? (i := 1815) (by decide +kernel), List.mem_of_getElem? (i := 1816) (by decide +kernel)⟩
theorem lw_p125 : lw_okq (⟨"SnowRisesModel", "goesOut", "(I)V"⟩, 40) := ⟨⟨by decide +kernel, by decide +kernel⟩, List.mem_of_getElem? (i := 1181) (by decide +kernel), List.mem_of_getElem? (i := 1819) (by decide +kernel), List.mem_of_getElem? (i := 1820) (by decide +kernel)⟩
theorem lw_p126 : lw_okq (⟨"SnowRisesModel", "turns", "(II)V"⟩, 40) := ⟨⟨by decide +kernel, by decide +kernel⟩, List.mem_of_getElem? (i := 1181) (by decide +kernel), List.mem_of_getElem? (i := 1823) (by decide +kernel), List.mem_of_getElem? (i := 1824) (by decide +kernel)⟩
theorem lw_p127 : lw_okq (⟨"SnowRisesModel", "wayTo", "(II)I"⟩, 40) := ⟨⟨by decide +kernel, by decide +kernel⟩, List.mem_of_getElem? (i := 1181) (by decide +kernel), List.mem_of_getElem? (i := 1827) (by decide +kernel), List.mem_of_getElem? (i := 1828) (by decide +kernel)⟩
def lw_privs_8 : List (MethodName × Nat) := [(⟨"SnowRisesModel", "nextAsked", "(I)I"⟩, 40), (⟨"SnowRisesModel", "keepsFor", "(II)Z"⟩, 40), (⟨"SnowRisesModel", "laysFound", "()V"⟩, 40), (⟨"SnowRisesModel", "laysBest", "()V"⟩, 40), (⟨"SnowRisesModel", "canHave", "(III)Z"⟩, 40), (⟨"SnowRisesModel", "takenBy", "(II)I"⟩, 40), (⟨"SnowRisesModel", "whoBy", "(I)I"⟩, 40), (⟨"SnowRisesModel", "canBe", "(II)Z"⟩, 40), (⟨"SnowRisesModel", "mostAlike", "(II)I"⟩, 40), (⟨"SnowRisesModel", "isSafe", "(I)Z"⟩, 40), (⟨"SnowRisesModel", "hasWay", "(II)Z"⟩, 40), (⟨"SnowRisesModel", "isComeTo", "(II)V"⟩, 40), (⟨"SnowRisesModel", "goesIn", "(I)V"⟩, 40), (⟨"SnowRisesModel", "goesOut", "(I)V"⟩, 40), (⟨"SnowRisesModel", "turns", "(II)V"⟩, 40), (⟨"SnowRisesModel", "wayTo", "(II)I"⟩, 40)]
theorem lw_r8 : ∀ q ∈ lw_privs_8, lw_okq q := List.forall_mem_cons.mpr ⟨lw_p112, List.forall_mem_cons.mpr ⟨lw_p113, List.forall_mem_cons.mpr ⟨lw_p114, List.forall_mem_cons.mpr ⟨lw_p115, List.forall_mem_cons.mpr ⟨lw_p116, List.forall_mem_cons.mpr ⟨lw_p117, List.forall_mem_cons.mpr ⟨lw_p118, List.forall_mem_cons.mpr ⟨lw_p119, List.forall_mem_cons.mpr ⟨lw_p120, List.forall_mem_cons.mpr ⟨lw_p121, List.forall_mem_cons.mpr ⟨lw_p122, List.forall_mem_cons.mpr ⟨lw_p123, List.forall_mem_cons.mpr ⟨lw_p124, List.forall_mem_cons.mpr ⟨lw_p125, List.forall_mem_cons.mpr ⟨lw_p126, List.forall_mem_cons.mpr ⟨lw_p127, fun _ h => absurd h List.not_mem_nil⟩⟩⟩⟩⟩⟩⟩⟩⟩⟩⟩⟩⟩⟩⟩⟩
theorem lw_p128 : lw_okq (⟨"SnowRisesModel", "counting", "()I"⟩, 40) := ⟨⟨by decide +kernel, by decide +kernel⟩, List.mem_of_getElem? (i := 1181) (by decide +kernel), List.mem_of_getElem? (i := 1835) (by decide +kernel), List.mem_of_getElem? (i := 1836) (by decide +kernel)⟩
theorem lw_p129 : lw_okq (⟨"SnowRisesModel", "roundsFrom", "(III)Z"⟩, 40) := ⟨⟨by decide +kernel, by decide +kernel⟩, List.mem_of_getElem? (i := 1181) (by decide +kernel), List.mem_of_getElem? (i := 1839) (by decide +kernel), List.mem_of_getElem? (i := 1840) (by decide +kernel)⟩
theorem lw_p130 : lw_okq (⟨"SnowRisesModel", "isAloneIn", "(II)Z"⟩, 40) := ⟨⟨by decide +kernel, by decide +kernel⟩, List.mem_of_getElem? (i := 1181) (by decide +kernel), List.mem_of_getElem? (i := 1843) (by decide +kernel), List.mem_of_getElem? (i := 1844) (by decide +kernel)⟩
theorem lw_p131 : lw_okq (⟨"SnowRisesModel", "hopeOf", "(I)I"⟩, 40) := ⟨⟨by decide +kernel, by decide +kernel⟩, List.mem_of_getElem? (i := 1181) (by decide +kernel), List.mem_of_getElem? (i := 1863) (by decide +kernel), List.mem_of_getElem? (i := 1864) (by decide +kernel)⟩
theorem lw_p132 : lw_okq (⟨"SnowRisesModel", "bareFields", "()I"⟩, 40) := ⟨⟨by decide +kernel, by decide +kernel⟩, List.mem_of_getElem? (i := 1181) (by decide +kernel), List.mem_of_getElem? (i := 1875) (by decide +kernel), List.mem_of_getElem? (i := 1876) (by decide +kernel)⟩
def lw_privs_9 : List (MethodName × Nat) := [(⟨"SnowRisesModel", "counting", "()I"⟩, 40), (⟨"SnowRisesModel", "roundsFrom", "(III)Z"⟩, 40), (⟨"SnowRisesModel", "isAloneIn", "(II)Z"⟩, 40), (⟨"SnowRisesModel", "hopeOf", "(I)I"⟩, 40), (⟨"SnowRisesModel", "bareFields", "()I"⟩, 40)]
theorem lw_r9 : ∀ q ∈ lw_privs_9, lw_okq q := List.forall_mem_cons.mpr ⟨lw_p128, List.forall_mem_cons.mpr ⟨lw_p129, List.forall_mem_cons.mpr ⟨lw_p130, List.forall_mem_cons.mpr ⟨lw_p131, List.forall_mem_cons.mpr ⟨lw_p132, fun _ h => absurd h List.not_mem_nil⟩⟩⟩⟩⟩
def lw_privs : List (MethodName × Nat) := lw_privs_1 ++ (lw_privs_2 ++ (lw_privs_3 ++ (lw_privs_4 ++ (lw_privs_5 ++ (lw_privs_6 ++ (lw_privs_7 ++ (lw_privs_8 ++ (lw_privs_9))))))))
def lw_tbl : List Cond := k2_sels lw_privs ++ tables_1
theorem lw_privs_ok : ∀ q ∈ lw_privs, lw_okq q := by
  show ∀ q ∈ lw_privs_1 ++ (lw_privs_2 ++ (lw_privs_3 ++ (lw_privs_4 ++ (lw_privs_5 ++ (lw_privs_6 ++ (lw_privs_7 ++ (lw_privs_8 ++ (lw_privs_9)))))))), lw_okq q
  exact List.forall_mem_append.mpr ⟨lw_r1, List.forall_mem_append.mpr ⟨lw_r2, List.forall_mem_append.mpr ⟨lw_r3, List.forall_mem_append.mpr ⟨lw_r4, List.forall_mem_append.mpr ⟨lw_r5, List.forall_mem_append.mpr ⟨lw_r6, List.forall_mem_append.mpr ⟨lw_r7, List.forall_mem_append.mpr ⟨lw_r8, lw_r9⟩⟩⟩⟩⟩⟩⟩⟩
end
section
def RX0 : String := "SnowRises$Couples"
def RX1 : String := "SnowRises$Folk"
def RX2 : String := "SnowRises$Law"
def RX3 : String := "SnowRises$Past"
def RX4 : String := "SnowRises$Reader"
def RX5 : String := "SnowRises$Rounds"
def RX6 : String := "SnowRises$Rows"
def RX7 : String := "SnowRises$Tape"
def RX8 : String := "SnowRises$Ways"
def RX9 : String := "SnowRises$World"
def RX10 : String := "SnowRises"
def RX11 : String := "SnowRisesModel"
def RJ11 : String := "java/lang/Character"
def RJ6 : String := "java/lang/Integer"
def RJ9 : String := "java/lang/Math"
def RJ0 : String := "java/lang/String"
def RJ1 : String := "java/lang/StringLatin1"
def RJ2 : String := "java/lang/StringUTF16"
def RJ10 : String := "java/lang/System"
def RJ3 : String := "jdk/internal/util/Preconditions"
def RL : String := "SnowRisesLaw"
def TX0 : u_T := fun k => match k with
  | 0 => ("SnowRises$Couples", "has", "[I", true)
  | 1 => ("SnowRises$Couples", "asked", "[I", true)
  | 2 => ("SnowRises$Couples", "fits", "[I", true)
  | 3 => ("SnowRises$Couples", "left", "[I", true)
  | 4 => ("SnowRises$Couples", "right", "[I", true)
  | 5 => ("SnowRises$Couples", "lefts", "I", false)
  | 6 => ("SnowRises$Couples", "rights", "I", false)
  | 7 => ("SnowRises$Couples", "sums", "[I", true)
  | 8 => ("SnowRises$Couples", "byFar", "[I", true)
  | _ => ("SnowRises$Couples", "tally", "[I", true)
def TX1 : u_T := fun k => match k with
  | 0 => ("SnowRises$Folk", "side", "[I", true)
  | 1 => ("SnowRises$Folk", "temper", "[I", true)
  | 2 => ("SnowRises$Folk", "hope", "[I", true)
  | 3 => ("SnowRises$Folk", "home", "[I", true)
  | 4 => ("SnowRises$Folk", "wed", "[I", true)
  | 5 => ("SnowRises$Folk", "kin", "[I", true)
  | _ => ("SnowRises$Folk", "count", "I", false)
def TX2 : u_T := fun k => match k with
  | 0 => ("SnowRises$Law", "code", "[I", true)
  | 1 => ("SnowRises$Law", "about", "[I", true)
  | 2 => ("SnowRises$Law", "start", "[I", true)
  | 3 => ("SnowRises$Law", "when", "[I", true)
  | 4 => ("SnowRises$Law", "told", "[I", true)
  | 5 => ("SnowRises$Law", "stack", "[I", true)
  | 6 => ("SnowRises$Law", "count", "I", false)
  | _ => ("SnowRises$Law", "size", "I", false)
def TX3 : u_T := fun k => match k with
  | 0 => ("SnowRises$Past", "snow", "[I", true)
  | 1 => ("SnowRises$Past", "wed", "[I", true)
  | 2 => ("SnowRises$Past", "rest", "[I", true)
  | 3 => ("SnowRises$Past", "count", "I", false)
  | _ => ("SnowRises$Past", "slot", "I", false)
def TX4 : u_T := fun k => match k with
  | 0 => ("SnowRises$Reader", "fault", "I", false)
  | 1 => ("SnowRises$Reader", "faultPlace", "I", false)
  | 2 => ("SnowRises$Reader", "tape", "LSnowRises$Tape;", true)
  | 3 => ("SnowRises$Reader", "told", "LSnowRises$World;", true)
  | 4 => ("SnowRises$Reader", "draft", "LSnowRises$World;", true)
  | 5 => ("SnowRises$Reader", "i", "I", false)
  | 6 => ("SnowRises$Reader", "kind", "I", false)
  | _ => ("SnowRises$Reader", "number", "I", false)
def TX5 : u_T := fun k => match k with
  | 0 => ("SnowRises$Rounds", "lines", "[I", true)
  | 1 => ("SnowRises$Rounds", "fields", "[I", true)
  | 2 => ("SnowRises$Rounds", "given", "[I", true)
  | 3 => ("SnowRises$Rounds", "count", "I", false)
  | _ => ("SnowRises$Rounds", "days", "I", false)
def TX6 : u_T := fun k => match k with
  | 0 => ("SnowRises$Rows", "cells", "[I", true)
  | 1 => ("SnowRises$Rows", "most", "I", true)
  | _ => ("SnowRises$Rows", "count", "I", false)
def TX7 : u_T := fun k => match k with
  | 0 => ("SnowRises$Tape", "bytes", "[B", true)
  | 1 => ("SnowRises$Tape", "kinds", "[I", true)
  | 2 => ("SnowRises$Tape", "values", "[I", true)
  | 3 => ("SnowRises$Tape", "places", "[I", true)
  | _ => ("SnowRises$Tape", "size", "I", false)
def TX8 : u_T := fun k => match k with
  | 0 => ("SnowRises$Ways", "queue", "[I", true)
  | 1 => ("SnowRises$Ways", "dist", "[I", true)
  | 2 => ("SnowRises$Ways", "cameBy", "[I", true)
  | 3 => ("SnowRises$Ways", "through", "[Z", true)
  | 4 => ("SnowRises$Ways", "goes", "[Z", true)
  | _ => ("SnowRises$Ways", "queued", "I", false)
def TX9 : u_T := fun k => match k with
  | 0 => ("SnowRises$World", "w", "I", false)
  | 1 => ("SnowRises$World", "h", "I", false)
  | 2 => ("SnowRises$World", "wind", "I", false)
  | 3 => ("SnowRises$World", "steep", "I", false)
  | 4 => ("SnowRises$World", "odds", "I", false)
  | 5 => ("SnowRises$World", "next", "I", false)
  | 6 => ("SnowRises$World", "day", "I", false)
  | 7 => ("SnowRises$World", "draws", "I", false)
  | 8 => ("SnowRises$World", "snow", "[I", true)
  | 9 => ("SnowRises$World", "lifts", "[I", true)
  | 10 => ("SnowRises$World", "folk", "LSnowRises$Folk;", true)
  | 11 => ("SnowRises$World", "law", "LSnowRises$Law;", true)
  | 12 => ("SnowRises$World", "vows", "LSnowRises$Rows;", true)
  | 13 => ("SnowRises$World", "weather", "LSnowRises$Rows;", true)
  | 14 => ("SnowRises$World", "wants", "LSnowRises$Rows;", true)
  | 15 => ("SnowRises$World", "stirs", "LSnowRises$Rows;", true)
  | _ => ("SnowRises$World", "book", "LSnowRises$Rows;", true)
def TX10 : u_T := fun k => match k with
  | 0 => ("SnowRises", "now", "LSnowRises$World;", true)
  | 1 => ("SnowRises", "thought", "LSnowRises$World;", true)
  | 2 => ("SnowRises", "kept", "LSnowRises$World;", false)
  | 3 => ("SnowRises", "past", "LSnowRises$Past;", true)
  | 4 => ("SnowRises", "tape", "LSnowRises$Tape;", true)
  | 5 => ("SnowRises", "reader", "LSnowRises$Reader;", true)
  | 6 => ("SnowRises", "couples", "LSnowRises$Couples;", true)
  | 7 => ("SnowRises", "ways", "LSnowRises$Ways;", true)
  | _ => ("SnowRises", "plan", "LSnowRises$Rounds;", true)
def TX11 : u_T := fun k => match k with
  | 0 => ("SnowRisesModel", "w", "[I", true)
  | 1 => ("SnowRisesModel", "kept", "[I", true)
  | 2 => ("SnowRisesModel", "back", "[I", true)
  | 3 => ("SnowRisesModel", "lying", "[I", true)
  | 4 => ("SnowRisesModel", "backMany", "I", false)
  | 5 => ("SnowRisesModel", "hasImage", "Z", false)
  | 6 => ("SnowRisesModel", "freshLine", "[I", true)
  | 7 => ("SnowRisesModel", "freshStep", "[I", true)
  | 8 => ("SnowRisesModel", "freshRow", "[I", true)
  | 9 => ("SnowRisesModel", "tape", "[I", true)
  | 10 => ("SnowRisesModel", "pile", "[I", true)
  | 11 => ("SnowRisesModel", "facts", "[I", true)
  | 12 => ("SnowRisesModel", "reading", "I", false)
  | 13 => ("SnowRisesModel", "lines", "I", false)
  | 14 => ("SnowRisesModel", "steps", "I", false)
  | 15 => ("SnowRisesModel", "rows", "I", false)
  | 16 => ("SnowRisesModel", "taped", "I", false)
  | 17 => ("SnowRisesModel", "at", "I", false)
  | 18 => ("SnowRisesModel", "token", "I", false)
  | 19 => ("SnowRisesModel", "tokenAt", "I", false)
  | 20 => ("SnowRisesModel", "value", "I", false)
  | 21 => ("SnowRisesModel", "wrong", "I", false)
  | 22 => ("SnowRisesModel", "wrongAt", "I", false)
  | 23 => ("SnowRisesModel", "faultKind", "I", false)
  | 24 => ("SnowRisesModel", "depth", "I", false)
  | 25 => ("SnowRisesModel", "faultPlace", "I", false)
  | 26 => ("SnowRisesModel", "isTrue", "Z", false)
  | 27 => ("SnowRisesModel", "lifted", "[I", true)
  | 28 => ("SnowRisesModel", "firstVoid", "I", false)
  | 29 => ("SnowRisesModel", "has", "[I", true)
  | 30 => ("SnowRisesModel", "asked", "[I", true)
  | 31 => ("SnowRisesModel", "bestFrom", "[I", true)
  | 32 => ("SnowRisesModel", "found", "[I", true)
  | 33 => ("SnowRisesModel", "alike", "[I", true)
  | 34 => ("SnowRisesModel", "by", "[I", true)
  | 35 => ("SnowRisesModel", "queue", "[I", true)
  | 36 => ("SnowRisesModel", "through", "[I", true)
  | 37 => ("SnowRisesModel", "flows", "[I", true)
  | 38 => ("SnowRisesModel", "queued", "I", false)
  | _ => ("SnowRisesModel", "round", "[I", true)
def tyX0 : Nat → FieldType := fun k => match k with
  | 0 => .array .int
  | 1 => .array .int
  | 2 => .array .int
  | 3 => .array .int
  | 4 => .array .int
  | 5 => .int
  | 6 => .int
  | 7 => .array .int
  | 8 => .array .int
  | _ => .array .int
def tyX1 : Nat → FieldType := fun k => match k with
  | 0 => .array .int
  | 1 => .array .int
  | 2 => .array .int
  | 3 => .array .int
  | 4 => .array .int
  | 5 => .array .int
  | _ => .int
def tyX2 : Nat → FieldType := fun k => match k with
  | 0 => .array .int
  | 1 => .array .int
  | 2 => .array .int
  | 3 => .array .int
  | 4 => .array .int
  | 5 => .array .int
  | 6 => .int
  | _ => .int
def tyX3 : Nat → FieldType := fun k => match k with
  | 0 => .array .int
  | 1 => .array .int
  | 2 => .array .int
  | 3 => .int
  | _ => .int
def tyX4 : Nat → FieldType := fun k => match k with
  | 0 => .int
  | 1 => .int
  | 2 => .object "SnowRises$Tape"
  | 3 => .object "SnowRises$World"
  | 4 => .object "SnowRises$World"
  | 5 => .int
  | 6 => .int
  | _ => .int
def tyX5 : Nat → FieldType := fun k => match k with
  | 0 => .array .int
  | 1 => .array .int
  | 2 => .array .int
  | 3 => .int
  | _ => .int
def tyX6 : Nat → FieldType := fun k => match k with
  | 0 => .array .int
  | 1 => .int
  | _ => .int
def tyX7 : Nat → FieldType := fun k => match k with
  | 0 => .array .byte
  | 1 => .array .int
  | 2 => .array .int
  | 3 => .array .int
  | _ => .int
def tyX8 : Nat → FieldType := fun k => match k with
  | 0 => .array .int
  | 1 => .array .int
  | 2 => .array .int
  | 3 => .array .boolean
  | 4 => .array .boolean
  | _ => .int
def tyX9 : Nat → FieldType := fun k => match k with
  | 0 => .int
  | 1 => .int
  | 2 => .int
  | 3 => .int
  | 4 => .int
  | 5 => .int
  | 6 => .int
  | 7 => .int
  | 8 => .array .int
  | 9 => .array .int
  | 10 => .object "SnowRises$Folk"
  | 11 => .object "SnowRises$Law"
  | 12 => .object "SnowRises$Rows"
  | 13 => .object "SnowRises$Rows"
  | 14 => .object "SnowRises$Rows"
  | 15 => .object "SnowRises$Rows"
  | _ => .object "SnowRises$Rows"
def tyX10 : Nat → FieldType := fun k => match k with
  | 0 => .object "SnowRises$World"
  | 1 => .object "SnowRises$World"
  | 2 => .object "SnowRises$World"
  | 3 => .object "SnowRises$Past"
  | 4 => .object "SnowRises$Tape"
  | 5 => .object "SnowRises$Reader"
  | 6 => .object "SnowRises$Couples"
  | 7 => .object "SnowRises$Ways"
  | _ => .object "SnowRises$Rounds"
def tyX11 : Nat → FieldType := fun k => match k with
  | 0 => .array .int
  | 1 => .array .int
  | 2 => .array .int
  | 3 => .array .int
  | 4 => .int
  | 5 => .boolean
  | 6 => .array .int
  | 7 => .array .int
  | 8 => .array .int
  | 9 => .array .int
  | 10 => .array .int
  | 11 => .array .int
  | 12 => .int
  | 13 => .int
  | 14 => .int
  | 15 => .int
  | 16 => .int
  | 17 => .int
  | 18 => .int
  | 19 => .int
  | 20 => .int
  | 21 => .int
  | 22 => .int
  | 23 => .int
  | 24 => .int
  | 25 => .int
  | 26 => .boolean
  | 27 => .array .int
  | 28 => .int
  | 29 => .array .int
  | 30 => .array .int
  | 31 => .array .int
  | 32 => .array .int
  | 33 => .array .int
  | 34 => .array .int
  | 35 => .array .int
  | 36 => .array .int
  | 37 => .array .int
  | 38 => .int
  | _ => .array .int
abbrev wsX00 : List Cond := u_ws RX0 TX0 10
abbrev wsX10 : List Cond := u_ws RX1 TX1 7
abbrev wsX20 : List Cond := u_ws RX2 TX2 8
abbrev wsX30 : List Cond := u_ws RX3 TX3 5
abbrev wsX40 : List Cond := u_ws RX4 TX4 8
abbrev wsX50 : List Cond := u_ws RX5 TX5 5
abbrev wsX60 : List Cond := u_ws RX6 TX6 3
abbrev wsX70 : List Cond := u_ws RX7 TX7 5
abbrev wsX80 : List Cond := u_ws RX8 TX8 6
abbrev wsX90 : List Cond := u_ws RX9 TX9 17
abbrev wsX100 : List Cond := u_ws RX10 TX10 9
abbrev wsX110 : List Cond := u_ws RX11 TX11 40
theorem nmX0 : ∀ a, a < 10 → ∀ b, b < 10 → a ≠ b → (TX0 a).2.1 ≠ (TX0 b).2.1 := by decide +kernel
theorem nmX1 : ∀ a, a < 7 → ∀ b, b < 7 → a ≠ b → (TX1 a).2.1 ≠ (TX1 b).2.1 := by decide +kernel
theorem nmX2 : ∀ a, a < 8 → ∀ b, b < 8 → a ≠ b → (TX2 a).2.1 ≠ (TX2 b).2.1 := by decide +kernel
theorem nmX3 : ∀ a, a < 5 → ∀ b, b < 5 → a ≠ b → (TX3 a).2.1 ≠ (TX3 b).2.1 := by decide +kernel
theorem nmX4 : ∀ a, a < 8 → ∀ b, b < 8 → a ≠ b → (TX4 a).2.1 ≠ (TX4 b).2.1 := by decide +kernel
theorem nmX5 : ∀ a, a < 5 → ∀ b, b < 5 → a ≠ b → (TX5 a).2.1 ≠ (TX5 b).2.1 := by decide +kernel
theorem nmX6 : ∀ a, a < 3 → ∀ b, b < 3 → a ≠ b → (TX6 a).2.1 ≠ (TX6 b).2.1 := by decide +kernel
theorem nmX7 : ∀ a, a < 5 → ∀ b, b < 5 → a ≠ b → (TX7 a).2.1 ≠ (TX7 b).2.1 := by decide +kernel
theorem nmX8 : ∀ a, a < 6 → ∀ b, b < 6 → a ≠ b → (TX8 a).2.1 ≠ (TX8 b).2.1 := by decide +kernel
theorem nmX9 : ∀ a, a < 17 → ∀ b, b < 17 → a ≠ b → (TX9 a).2.1 ≠ (TX9 b).2.1 := by decide +kernel
theorem nmX10 : ∀ a, a < 9 → ∀ b, b < 9 → a ≠ b → (TX10 a).2.1 ≠ (TX10 b).2.1 := by decide +kernel
theorem nmX11 : ∀ a, a < 40 → ∀ b, b < 40 → a ≠ b → (TX11 a).2.1 ≠ (TX11 b).2.1 := by decide +kernel
theorem tyX0_ok : ∀ k, k < 10 → parseFieldDescriptor (TX0 k).2.2.1 = some (tyX0 k) := by decide +kernel
theorem tyX1_ok : ∀ k, k < 7 → parseFieldDescriptor (TX1 k).2.2.1 = some (tyX1 k) := by decide +kernel
theorem tyX2_ok : ∀ k, k < 8 → parseFieldDescriptor (TX2 k).2.2.1 = some (tyX2 k) := by decide +kernel
theorem tyX3_ok : ∀ k, k < 5 → parseFieldDescriptor (TX3 k).2.2.1 = some (tyX3 k) := by decide +kernel
theorem tyX4_ok : ∀ k, k < 8 → parseFieldDescriptor (TX4 k).2.2.1 = some (tyX4 k) := by decide +kernel
theorem tyX5_ok : ∀ k, k < 5 → parseFieldDescriptor (TX5 k).2.2.1 = some (tyX5 k) := by decide +kernel
theorem tyX6_ok : ∀ k, k < 3 → parseFieldDescriptor (TX6 k).2.2.1 = some (tyX6 k) := by decide +kernel
theorem tyX7_ok : ∀ k, k < 5 → parseFieldDescriptor (TX7 k).2.2.1 = some (tyX7 k) := by decide +kernel
theorem tyX8_ok : ∀ k, k < 6 → parseFieldDescriptor (TX8 k).2.2.1 = some (tyX8 k) := by decide +kernel
theorem tyX9_ok : ∀ k, k < 17 → parseFieldDescriptor (TX9 k).2.2.1 = some (tyX9 k) := by decide +kernel
theorem tyX10_ok : ∀ k, k < 9 → parseFieldDescriptor (TX10 k).2.2.1 = some (tyX10 k) := by decide +kernel
theorem tyX11_ok : ∀ k, k < 40 → parseFieldDescriptor (TX11 k).2.2.1 = some (tyX11 k) := by decide +kernel
abbrev cX0_init : ByteArray := prog_2_method_1_code
abbrev cX0_gather : ByteArray := prog_2_method_2_code
abbrev cX0_settle : ByteArray := prog_2_method_3_code
abbrev cX0_asksNext : ByteArray := prog_2_method_4_code
abbrev cX0_pair : ByteArray := prog_2_method_5_code
abbrev cX0_greatestSum : ByteArray := prog_2_method_6_code
abbrev cX0_sumWith : ByteArray := prog_2_method_7_code
abbrev cX0_takeFirstWay : ByteArray := prog_2_method_8_code
abbrev cX0_baring : ByteArray := prog_2_method_9_code
abbrev cX0_firstBaring : ByteArray := prog_2_method_10_code
abbrev cX0_nextToPass : ByteArray := prog_2_method_11_code
abbrev cX0_mostAlike : ByteArray := prog_2_method_12_code
abbrev cX1_init : ByteArray := prog_3_method_1_code
abbrev cX1_add : ByteArray := prog_3_method_2_code
abbrev cX1_has : ByteArray := prog_3_method_3_code
abbrev cX1_areTwo : ByteArray := prog_3_method_4_code
abbrev cX1_isFree : ByteArray := prog_3_method_5_code
abbrev cX1_canWed : ByteArray := prog_3_method_6_code
abbrev cX1_areKin : ByteArray := prog_3_method_7_code
abbrev cX1_makeKin : ByteArray := prog_3_method_8_code
abbrev cX1_wedSet : ByteArray := prog_3_method_9_code
abbrev cX1_allKinOf : ByteArray := prog_3_method_10_code
abbrev cX1_hopeAmong : ByteArray := prog_3_method_11_code
abbrev cX1_copy : ByteArray := prog_3_method_12_code
abbrev cX2_init : ByteArray := prog_4_method_1_code
abbrev cX2_clear : ByteArray := prog_4_method_2_code
abbrev cX2_codeOfName : ByteArray := prog_4_method_3_code
abbrev cX2_codeOfJoint : ByteArray := prog_4_method_4_code
abbrev cX2_put : ByteArray := prog_4_method_5_code
abbrev cX2_forgetNames : ByteArray := prog_4_method_6_code
abbrev cX2_name : ByteArray := prog_4_method_7_code
abbrev cX2_tell : ByteArray := prog_4_method_8_code
abbrev cX2_run : ByteArray := prog_4_method_9_code
abbrev cX2_joined : ByteArray := prog_4_method_10_code
abbrev cX2_copy : ByteArray := prog_4_method_11_code
abbrev cX3_init : ByteArray := prog_5_method_1_code
abbrev cX3_keep : ByteArray := prog_5_method_2_code
abbrev cX3_giveBack : ByteArray := prog_5_method_3_code
abbrev cX4_init : ByteArray := prog_6_method_1_code
abbrev cX4_reads : ByteArray := prog_6_method_2_code
abbrev cX4_pass : ByteArray := prog_6_method_3_code
abbrev cX4_refuse : ByteArray := prog_6_method_4_code
abbrev cX4_passes : ByteArray := prog_6_method_5_code
abbrev cX4_begins : ByteArray := prog_6_method_6_code
abbrev cX4_passesNumber : ByteArray := prog_6_method_7_code
abbrev cX4_passesField : ByteArray := prog_6_method_8_code
abbrev cX4_passesPerson : ByteArray := prog_6_method_9_code
abbrev cX4_vowLine : ByteArray := prog_6_method_10_code
abbrev cX4_weatherLine : ByteArray := prog_6_method_11_code
abbrev cX4_wantLine : ByteArray := prog_6_method_12_code
abbrev cX4_lawLine : ByteArray := prog_6_method_13_code
abbrev cX4_readsEither : ByteArray := prog_6_method_14_code
abbrev cX4_readsSingle : ByteArray := prog_6_method_15_code
abbrev cX4_readsSum : ByteArray := prog_6_method_16_code
abbrev cX4_readsUnit : ByteArray := prog_6_method_17_code
abbrev cX5_init : ByteArray := prog_7_method_1_code
abbrev cX5_make : ByteArray := prog_7_method_2_code
abbrev cX5_fits : ByteArray := prog_7_method_3_code
abbrev cX5_isOpen : ByteArray := prog_7_method_4_code
abbrev cX5_dayOf : ByteArray := prog_7_method_5_code
abbrev cX6_init : ByteArray := prog_8_method_1_code
abbrev cX6_add : ByteArray := prog_8_method_2_code
abbrev cX6_cell : ByteArray := prog_8_method_3_code
abbrev cX6_greatest : ByteArray := prog_8_method_4_code
abbrev cX6_copy : ByteArray := prog_8_method_5_code
abbrev cX7_init : ByteArray := prog_9_method_1_code
abbrev cX7_put : ByteArray := prog_9_method_2_code
abbrev cX7_sign : ByteArray := prog_9_method_3_code
abbrev cX7_isLetter : ByteArray := prog_9_method_4_code
abbrev cX7_isDigit : ByteArray := prog_9_method_5_code
abbrev cX7_split : ByteArray := prog_9_method_6_code
abbrev cX7_lettersEnd : ByteArray := prog_9_method_7_code
abbrev cX7_digitsEnd : ByteArray := prog_9_method_8_code
abbrev cX7_valueOf : ByteArray := prog_9_method_9_code
abbrev cX7_wordOf : ByteArray := prog_9_method_10_code
abbrev cX7_isSame : ByteArray := prog_9_method_11_code
abbrev cX8_init : ByteArray := prog_10_method_1_code
abbrev cX8_fewestSteps : ByteArray := prog_10_method_2_code
abbrev cX8_fewestToCut : ByteArray := prog_10_method_3_code
abbrev cX8_search : ByteArray := prog_10_method_4_code
abbrev cX8_reach : ByteArray := prog_10_method_5_code
abbrev cX8_addWay : ByteArray := prog_10_method_6_code
abbrev cX8_direction : ByteArray := prog_10_method_7_code
abbrev cX9_init : ByteArray := prog_11_method_1_code
abbrev cX9_begin : ByteArray := prog_11_method_2_code
abbrev cX9_copy : ByteArray := prog_11_method_3_code
abbrev cX9_take : ByteArray := prog_11_method_4_code
abbrev cX9_rowsOf : ByteArray := prog_11_method_5_code
abbrev cX9_hasField : ByteArray := prog_11_method_6_code
abbrev cX9_beside : ByteArray := prog_11_method_7_code
abbrev cX9_isSteep : ByteArray := prog_11_method_8_code
abbrev cX9_bareFields : ByteArray := prog_11_method_9_code
abbrev cX9_matchBy : ByteArray := prog_11_method_10_code
abbrev cX9_matchOf : ByteArray := prog_11_method_11_code
abbrev cX9_foundOf : ByteArray := prog_11_method_12_code
abbrev cX9_liftOf : ByteArray := prog_11_method_13_code
abbrev cX9_meltOf : ByteArray := prog_11_method_14_code
abbrev cX9_weatherOf : ByteArray := prog_11_method_15_code
abbrev cX9_note : ByteArray := prog_11_method_16_code
abbrev cX9_makeVow : ByteArray := prog_11_method_17_code
abbrev cX9_rise : ByteArray := prog_11_method_18_code
abbrev cX9_drift : ByteArray := prog_11_method_19_code
abbrev cX9_passDay : ByteArray := prog_11_method_20_code
abbrev cX9_draw : ByteArray := prog_11_method_21_code
abbrev cX9_slide : ByteArray := prog_11_method_22_code
abbrev cX9_meltAll : ByteArray := prog_11_method_23_code
abbrev cX9_firstVoid : ByteArray := prog_11_method_24_code
abbrev cX9_isBare : ByteArray := prog_11_method_25_code
abbrev cX9_unmetWant : ByteArray := prog_11_method_26_code
abbrev cX9_worthMet : ByteArray := prog_11_method_27_code
abbrev cX9_worthBare : ByteArray := prog_11_method_28_code
abbrev cX9_whoCanBe : ByteArray := prog_11_method_29_code
abbrev cX9_allStirsFit : ByteArray := prog_11_method_30_code
abbrev cX10_init : ByteArray := prog_1_method_1_code
abbrev cX10_state : ByteArray := prog_1_method_2_code
abbrev cX10_valley : ByteArray := prog_1_method_3_code
abbrev cX10_person : ByteArray := prog_1_method_4_code
abbrev cX10_set : ByteArray := prog_1_method_5_code
abbrev cX10_setValley : ByteArray := prog_1_method_6_code
abbrev cX10_setOne : ByteArray := prog_1_method_7_code
abbrev cX10_kin : ByteArray := prog_1_method_8_code
abbrev cX10_vow : ByteArray := prog_1_method_9_code
abbrev cX10_part : ByteArray := prog_1_method_10_code
abbrev cX10_sweep : ByteArray := prog_1_method_11_code
abbrev cX10_days : ByteArray := prog_1_method_12_code
abbrev cX10_feed : ByteArray := prog_1_method_13_code
abbrev cX10_end : ByteArray := prog_1_method_14_code
abbrev cX10_text : ByteArray := prog_1_method_15_code
abbrev cX10_fault : ByteArray := prog_1_method_16_code
abbrev cX10_of : ByteArray := prog_1_method_17_code
abbrev cX10_match : ByteArray := prog_1_method_18_code
abbrev cX10_at : ByteArray := prog_1_method_19_code
abbrev cX10_lift : ByteArray := prog_1_method_20_code
abbrev cX10_weather : ByteArray := prog_1_method_21_code
abbrev cX10_book : ByteArray := prog_1_method_22_code
abbrev cX10_lies : ByteArray := prog_1_method_23_code
abbrev cX10_meets : ByteArray := prog_1_method_24_code
abbrev cX10_stable : ByteArray := prog_1_method_25_code
abbrev cX10_best : ByteArray := prog_1_method_26_code
abbrev cX10_bares : ByteArray := prog_1_method_27_code
abbrev cX10_stir : ByteArray := prog_1_method_28_code
abbrev cX10_who : ByteArray := prog_1_method_29_code
abbrev cX10_ask : ByteArray := prog_1_method_30_code
abbrev cX10_fans : ByteArray := prog_1_method_31_code
abbrev cX10_safe : ByteArray := prog_1_method_32_code
abbrev cX10_cut : ByteArray := prog_1_method_33_code
abbrev cX10_rounds : ByteArray := prog_1_method_34_code
abbrev cX10_comes : ByteArray := prog_1_method_35_code
abbrev cX10_asks : ByteArray := prog_1_method_36_code
abbrev cX10_tribe : ByteArray := prog_1_method_37_code
abbrev cX10_hopes : ByteArray := prog_1_method_38_code
abbrev cX10_undo : ByteArray := prog_1_method_39_code
abbrev cX10_image : ByteArray := prog_1_method_40_code
abbrev cX10_look : ByteArray := prog_1_method_41_code
abbrev cX10_beginThought : ByteArray := prog_1_method_42_code
abbrev cX10_within : ByteArray := prog_1_method_43_code
abbrev cX10_held : ByteArray := prog_1_method_44_code
abbrev cX10_steps : ByteArray := prog_1_method_45_code
abbrev cX11_init : ByteArray := prog_13_method_1_code
abbrev cX11_begins : ByteArray := prog_13_method_2_code
abbrev cX11_isIn : ByteArray := prog_13_method_3_code
abbrev cX11_lesser : ByteArray := prog_13_method_4_code
abbrev cX11_greater : ByteArray := prog_13_method_5_code
abbrev cX11_size : ByteArray := prog_13_method_6_code
abbrev cX11_isOn : ByteArray := prog_13_method_7_code
abbrev cX11_isField : ByteArray := prog_13_method_8_code
abbrev cX11_isPerson : ByteArray := prog_13_method_9_code
abbrev cX11_isFree : ByteArray := prog_13_method_10_code
abbrev cX11_areUnlike : ByteArray := prog_13_method_11_code
abbrev cX11_wentTo : ByteArray := prog_13_method_12_code
abbrev cX11_apart : ByteArray := prog_13_method_13_code
abbrev cX11_count : ByteArray := prog_13_method_14_code
abbrev cX11_forgets : ByteArray := prog_13_method_15_code
abbrev cX11_state : ByteArray := prog_13_method_16_code
abbrev cX11_draw : ByteArray := prog_13_method_17_code
abbrev cX11_valley : ByteArray := prog_13_method_18_code
abbrev cX11_person : ByteArray := prog_13_method_19_code
abbrev cX11_canSet : ByteArray := prog_13_method_20_code
abbrev cX11_placeOf : ByteArray := prog_13_method_21_code
abbrev cX11_set : ByteArray := prog_13_method_22_code
abbrev cX11_kin : ByteArray := prog_13_method_23_code
abbrev cX11_feed : ByteArray := prog_13_method_24_code
abbrev cX11_end : ByteArray := prog_13_method_25_code
abbrev cX11_see : ByteArray := prog_13_method_26_code
abbrev cX11_isLetter : ByteArray := prog_13_method_27_code
abbrev cX11_isDigit : ByteArray := prog_13_method_28_code
abbrev cX11_is : ByteArray := prog_13_method_29_code
abbrev cX11_asked : ByteArray := prog_13_method_30_code
abbrev cX11_lawWord : ByteArray := prog_13_method_31_code
abbrev cX11_vowWord : ByteArray := prog_13_method_32_code
abbrev cX11_weatherWord : ByteArray := prog_13_method_33_code
abbrev cX11_wantWord : ByteArray := prog_13_method_34_code
abbrev cX11_word : ByteArray := prog_13_method_35_code
abbrev cX11_next0 : ByteArray := prog_13_method_36_code
abbrev cX11_bad : ByteArray := prog_13_method_37_code
abbrev cX11_need : ByteArray := prog_13_method_38_code
abbrev cX11_lay : ByteArray := prog_13_method_39_code
abbrev cX11_opens : ByteArray := prog_13_method_40_code
abbrev cX11_sumUp : ByteArray := prog_13_method_41_code
abbrev cX11_product : ByteArray := prog_13_method_42_code
abbrev cX11_unit : ByteArray := prog_13_method_43_code
abbrev cX11_any : ByteArray := prog_13_method_44_code
abbrev cX11_every : ByteArray := prog_13_method_45_code
abbrev cX11_oneTest : ByteArray := prog_13_method_46_code
abbrev cX11_aLine : ByteArray := prog_13_method_47_code
abbrev cX11_readsLaw : ByteArray := prog_13_method_48_code
abbrev cX11_number : ByteArray := prog_13_method_49_code
abbrev cX11_told : ByteArray := prog_13_method_50_code
abbrev cX11_aField : ByteArray := prog_13_method_51_code
abbrev cX11_aVow : ByteArray := prog_13_method_52_code
abbrev cX11_aWeather : ByteArray := prog_13_method_53_code
abbrev cX11_aWant : ByteArray := prog_13_method_54_code
abbrev cX11_aRow : ByteArray := prog_13_method_55_code
abbrev cX11_readsRows : ByteArray := prog_13_method_56_code
abbrev cX11_putsLaw : ByteArray := prog_13_method_57_code
abbrev cX11_puts : ByteArray := prog_13_method_58_code
abbrev cX11_putsText : ByteArray := prog_13_method_59_code
abbrev cX11_text : ByteArray := prog_13_method_60_code
abbrev cX11_fault : ByteArray := prog_13_method_61_code
abbrev cX11_both : ByteArray := prog_13_method_62_code
abbrev cX11_comesTo : ByteArray := prog_13_method_63_code
abbrev cX11_isSo : ByteArray := prog_13_method_64_code
abbrev cX11_clears : ByteArray := prog_13_method_65_code
abbrev cX11_says : ByteArray := prog_13_method_66_code
abbrev cX11_laysTwo : ByteArray := prog_13_method_67_code
abbrev cX11_matchOf : ByteArray := prog_13_method_68_code
abbrev cX11_foundOf : ByteArray := prog_13_method_69_code
abbrev cX11_liftOf : ByteArray := prog_13_method_70_code
abbrev cX11_meltOf : ByteArray := prog_13_method_71_code
abbrev cX11_keeps : ByteArray := prog_13_method_72_code
abbrev cX11_undo : ByteArray := prog_13_method_73_code
abbrev cX11_notes : ByteArray := prog_13_method_74_code
abbrev cX11_canVow : ByteArray := prog_13_method_75_code
abbrev cX11_lifts : ByteArray := prog_13_method_76_code
abbrev cX11_rises : ByteArray := prog_13_method_77_code
abbrev cX11_drifts : ByteArray := prog_13_method_78_code
abbrev cX11_vows : ByteArray := prog_13_method_79_code
abbrev cX11_vow : ByteArray := prog_13_method_80_code
abbrev cX11_part : ByteArray := prog_13_method_81_code
abbrev cX11_sweep : ByteArray := prog_13_method_82_code
abbrev cX11_weatherOf : ByteArray := prog_13_method_83_code
abbrev cX11_ofVow : ByteArray := prog_13_method_84_code
abbrev cX11_snows : ByteArray := prog_13_method_85_code
abbrev cX11_vowsOfDay : ByteArray := prog_13_method_86_code
abbrev cX11_slides : ByteArray := prog_13_method_87_code
abbrev cX11_aDay : ByteArray := prog_13_method_88_code
abbrev cX11_days : ByteArray := prog_13_method_89_code
abbrev cX11_of : ByteArray := prog_13_method_90_code
abbrev cX11_match : ByteArray := prog_13_method_91_code
abbrev cX11_at : ByteArray := prog_13_method_92_code
abbrev cX11_lift : ByteArray := prog_13_method_93_code
abbrev cX11_weather : ByteArray := prog_13_method_94_code
abbrev cX11_book : ByteArray := prog_13_method_95_code
abbrev cX11_lays : ByteArray := prog_13_method_96_code
abbrev cX11_putsBack : ByteArray := prog_13_method_97_code
abbrev cX11_lies : ByteArray := prog_13_method_98_code
abbrev cX11_lastOf : ByteArray := prog_13_method_99_code
abbrev cX11_meetsWants : ByteArray := prog_13_method_100_code
abbrev cX11_meets : ByteArray := prog_13_method_101_code
abbrev cX11_nextAsked : ByteArray := prog_13_method_102_code
abbrev cX11_keepsFor : ByteArray := prog_13_method_103_code
abbrev cX11_asksOn : ByteArray := prog_13_method_104_code
abbrev cX11_stable : ByteArray := prog_13_method_105_code
abbrev cX11_canHave : ByteArray := prog_13_method_106_code
abbrev cX11_laysBest : ByteArray := prog_13_method_107_code
abbrev cX11_laysFound : ByteArray := prog_13_method_108_code
abbrev cX11_takenBy : ByteArray := prog_13_method_109_code
abbrev cX11_best : ByteArray := prog_13_method_110_code
abbrev cX11_bares : ByteArray := prog_13_method_111_code
abbrev cX11_stir : ByteArray := prog_13_method_112_code
abbrev cX11_canBe : ByteArray := prog_13_method_113_code
abbrev cX11_whoBy : ByteArray := prog_13_method_114_code
abbrev cX11_who : ByteArray := prog_13_method_115_code
abbrev cX11_mostAlike : ByteArray := prog_13_method_116_code
abbrev cX11_ask : ByteArray := prog_13_method_117_code
abbrev cX11_fans : ByteArray := prog_13_method_118_code
abbrev cX11_isSafe : ByteArray := prog_13_method_119_code
abbrev cX11_safe : ByteArray := prog_13_method_120_code
abbrev cX11_isComeTo : ByteArray := prog_13_method_121_code
abbrev cX11_goesIn : ByteArray := prog_13_method_122_code
abbrev cX11_goesOut : ByteArray := prog_13_method_123_code
abbrev cX11_wayTo : ByteArray := prog_13_method_124_code
abbrev cX11_turns : ByteArray := prog_13_method_125_code
abbrev cX11_hasWay : ByteArray := prog_13_method_126_code
abbrev cX11_cut : ByteArray := prog_13_method_127_code
abbrev cX11_counting : ByteArray := prog_13_method_128_code
abbrev cX11_isAloneIn : ByteArray := prog_13_method_129_code
abbrev cX11_roundsFrom : ByteArray := prog_13_method_130_code
abbrev cX11_rounds : ByteArray := prog_13_method_131_code
abbrev cX11_comes : ByteArray := prog_13_method_132_code
abbrev cX11_asks : ByteArray := prog_13_method_133_code
abbrev cX11_tribe : ByteArray := prog_13_method_134_code
abbrev cX11_hopeOf : ByteArray := prog_13_method_135_code
abbrev cX11_hopes : ByteArray := prog_13_method_136_code
abbrev cX11_image : ByteArray := prog_13_method_137_code
abbrev cX11_bareFields : ByteArray := prog_13_method_138_code
abbrev cX11_look : ByteArray := prog_13_method_139_code
abbrev cJ11_isValidCodePoint_9a6ad : ByteArray := prog_14_method_11_code
abbrev cJ11_highSurrogate_5068e : ByteArray := prog_14_method_28_code
abbrev cJ11_lowSurrogate_5068e : ByteArray := prog_14_method_29_code
abbrev cJ6_bitCount_0f7a4 : ByteArray := prog_15_method_49_code
abbrev cJ9_floorDiv_7cf53 : ByteArray := prog_16_method_47_code
abbrev cJ9_abs_0f7a4 : ByteArray := prog_16_method_59_code
abbrev cJ9_max_7cf53 : ByteArray := prog_16_method_65_code
abbrev cJ9_min_7cf53 : ByteArray := prog_16_method_69_code
abbrev cJ0_length_8abf5 : ByteArray := prog_17_method_54_code
abbrev cJ0_charAt_5068e : ByteArray := prog_17_method_56_code
abbrev cJ0_indexOf_0f7a4 : ByteArray := prog_17_method_79_code
abbrev cJ0_indexOf_7cf53 : ByteArray := prog_17_method_80_code
abbrev cJ0_coder_7d493 : ByteArray := prog_17_method_152_code
abbrev cJ0_isLatin1_aae02 : ByteArray := prog_17_method_154_code
abbrev cJ0_checkIndex_df160 : ByteArray := prog_17_method_155_code
abbrev cJ0_checkBoundsBeginEnd_23922 : ByteArray := prog_17_method_158_code
abbrev cJ1_charAt_3b067 : ByteArray := prog_18_method_2_code
abbrev cJ1_canEncode_9a6ad : ByteArray := prog_18_method_4_code
abbrev cJ1_indexOf_4cfef : ByteArray := prog_18_method_22_code
abbrev cJ1_indexOfChar_4cfef : ByteArray := prog_18_method_23_code
abbrev cJ2_getChar_3b067 : ByteArray := prog_19_method_5_code
abbrev cJ2_length_9d52b : ByteArray := prog_19_method_6_code
abbrev cJ2_indexOf_4cfef : ByteArray := prog_19_method_40_code
abbrev cJ2_indexOfChar_4cfef : ByteArray := prog_19_method_47_code
abbrev cJ2_indexOfCharUnsafe_4cfef : ByteArray := prog_19_method_48_code
abbrev cJ2_indexOfSupplementary_4cfef : ByteArray := prog_19_method_49_code
abbrev cJ2_charAt_3b067 : ByteArray := prog_19_method_83_code
abbrev cJ2_checkIndex_2214a : ByteArray := prog_19_method_91_code
abbrev cJ2_checkBoundsBeginEnd_d044e : ByteArray := prog_19_method_93_code
abbrev cJ3_checkIndex_8e157 : ByteArray := prog_21_method_11_code
abbrev cJ3_checkFromToIndex_8c36e : ByteArray := prog_21_method_12_code
abbrev cL_law : ByteArray := code
def yX0_init : MethodName := ⟨RX0, "<init>", "()V"⟩
def yX0_gather : MethodName := ⟨RX0, "gather", "(LSnowRises$Folk;)V"⟩
def yX0_settle : MethodName := ⟨RX0, "settle", "(LSnowRises$World;)V"⟩
def yX0_asksNext : MethodName := ⟨RX0, "asksNext", "(I)Z"⟩
def yX0_pair : MethodName := ⟨RX0, "pair", "(LSnowRises$World;)I"⟩
def yX0_greatestSum : MethodName := ⟨RX0, "greatestSum", "(II)I"⟩
def yX0_sumWith : MethodName := ⟨RX0, "sumWith", "(III)I"⟩
def yX0_takeFirstWay : MethodName := ⟨RX0, "takeFirstWay", "()V"⟩
def yX0_baring : MethodName := ⟨RX0, "baring", "(LSnowRises$World;I)I"⟩
def yX0_firstBaring : MethodName := ⟨RX0, "firstBaring", "(LSnowRises$World;IIII)I"⟩
def yX0_nextToPass : MethodName := ⟨RX0, "nextToPass", "(LSnowRises$World;II)I"⟩
def yX0_mostAlike : MethodName := ⟨RX0, "mostAlike", "(LSnowRises$World;II)I"⟩
def yX1_init : MethodName := ⟨RX1, "<init>", "()V"⟩
def yX1_add : MethodName := ⟨RX1, "add", "(IIII)I"⟩
def yX1_has : MethodName := ⟨RX1, "has", "(I)Z"⟩
def yX1_areTwo : MethodName := ⟨RX1, "areTwo", "(II)Z"⟩
def yX1_isFree : MethodName := ⟨RX1, "isFree", "(I)Z"⟩
def yX1_canWed : MethodName := ⟨RX1, "canWed", "(II)Z"⟩
def yX1_areKin : MethodName := ⟨RX1, "areKin", "(II)Z"⟩
def yX1_makeKin : MethodName := ⟨RX1, "makeKin", "(IIZ)V"⟩
def yX1_wedSet : MethodName := ⟨RX1, "wedSet", "()I"⟩
def yX1_allKinOf : MethodName := ⟨RX1, "allKinOf", "(I)I"⟩
def yX1_hopeAmong : MethodName := ⟨RX1, "hopeAmong", "(LSnowRises$Folk;II)I"⟩
def yX1_copy : MethodName := ⟨RX1, "copy", "(LSnowRises$Folk;)V"⟩
def yX2_init : MethodName := ⟨RX2, "<init>", "()V"⟩
def yX2_clear : MethodName := ⟨RX2, "clear", "()V"⟩
def yX2_codeOfName : MethodName := ⟨RX2, "codeOfName", "(I)I"⟩
def yX2_codeOfJoint : MethodName := ⟨RX2, "codeOfJoint", "(I)I"⟩
def yX2_put : MethodName := ⟨RX2, "put", "(I)V"⟩
def yX2_forgetNames : MethodName := ⟨RX2, "forgetNames", "()V"⟩
def yX2_name : MethodName := ⟨RX2, "name", "(II)V"⟩
def yX2_tell : MethodName := ⟨RX2, "tell", "(II)I"⟩
def yX2_run : MethodName := ⟨RX2, "run", "(II)I"⟩
def yX2_joined : MethodName := ⟨RX2, "joined", "(III)I"⟩
def yX2_copy : MethodName := ⟨RX2, "copy", "(LSnowRises$Law;)V"⟩
def yX3_init : MethodName := ⟨RX3, "<init>", "()V"⟩
def yX3_keep : MethodName := ⟨RX3, "keep", "(LSnowRises$World;)V"⟩
def yX3_giveBack : MethodName := ⟨RX3, "giveBack", "(LSnowRises$World;)Z"⟩
def yX4_init : MethodName := ⟨RX4, "<init>", "(LSnowRises$Tape;LSnowRises$World;LSnowRises$World;)V"⟩
def yX4_reads : MethodName := ⟨RX4, "reads", "(I)Z"⟩
def yX4_pass : MethodName := ⟨RX4, "pass", "()V"⟩
def yX4_refuse : MethodName := ⟨RX4, "refuse", "(I)Z"⟩
def yX4_passes : MethodName := ⟨RX4, "passes", "(I)Z"⟩
def yX4_begins : MethodName := ⟨RX4, "begins", "(ILSnowRises$Rows;)Z"⟩
def yX4_passesNumber : MethodName := ⟨RX4, "passesNumber", "(II)Z"⟩
def yX4_passesField : MethodName := ⟨RX4, "passesField", "()Z"⟩
def yX4_passesPerson : MethodName := ⟨RX4, "passesPerson", "(I)Z"⟩
def yX4_vowLine : MethodName := ⟨RX4, "vowLine", "()Z"⟩
def yX4_weatherLine : MethodName := ⟨RX4, "weatherLine", "()Z"⟩
def yX4_wantLine : MethodName := ⟨RX4, "wantLine", "()Z"⟩
def yX4_lawLine : MethodName := ⟨RX4, "lawLine", "()Z"⟩
def yX4_readsEither : MethodName := ⟨RX4, "readsEither", "(I)Z"⟩
def yX4_readsSingle : MethodName := ⟨RX4, "readsSingle", "(I)Z"⟩
def yX4_readsSum : MethodName := ⟨RX4, "readsSum", "()Z"⟩
def yX4_readsUnit : MethodName := ⟨RX4, "readsUnit", "()Z"⟩
def yX5_init : MethodName := ⟨RX5, "<init>", "()V"⟩
def yX5_make : MethodName := ⟨RX5, "make", "(LSnowRises$World;)V"⟩
def yX5_fits : MethodName := ⟨RX5, "fits", "(LSnowRises$Rounds;I)Z"⟩
def yX5_isOpen : MethodName := ⟨RX5, "isOpen", "(II)Z"⟩
def yX5_dayOf : MethodName := ⟨RX5, "dayOf", "(I)I"⟩
def yX6_init : MethodName := ⟨RX6, "<init>", "(I)V"⟩
def yX6_add : MethodName := ⟨RX6, "add", "(IIII)Z"⟩
def yX6_cell : MethodName := ⟨RX6, "cell", "(II)I"⟩
def yX6_greatest : MethodName := ⟨RX6, "greatest", "(I)I"⟩
def yX6_copy : MethodName := ⟨RX6, "copy", "(LSnowRises$Rows;)V"⟩
def yX7_init : MethodName := ⟨RX7, "<init>", "()V"⟩
def yX7_put : MethodName := ⟨RX7, "put", "(I)V"⟩
def yX7_sign : MethodName := ⟨RX7, "sign", "(I)I"⟩
def yX7_isLetter : MethodName := ⟨RX7, "isLetter", "(I)Z"⟩
def yX7_isDigit : MethodName := ⟨RX7, "isDigit", "(I)Z"⟩
def yX7_split : MethodName := ⟨RX7, "split", "()V"⟩
def yX7_lettersEnd : MethodName := ⟨RX7, "lettersEnd", "(I)I"⟩
def yX7_digitsEnd : MethodName := ⟨RX7, "digitsEnd", "(I)I"⟩
def yX7_valueOf : MethodName := ⟨RX7, "valueOf", "(II)I"⟩
def yX7_wordOf : MethodName := ⟨RX7, "wordOf", "(II)I"⟩
def yX7_isSame : MethodName := ⟨RX7, "isSame", "(III)Z"⟩
def yX8_init : MethodName := ⟨RX8, "<init>", "()V"⟩
def yX8_fewestSteps : MethodName := ⟨RX8, "fewestSteps", "(LSnowRises$World;II)I"⟩
def yX8_fewestToCut : MethodName := ⟨RX8, "fewestToCut", "(LSnowRises$World;II)I"⟩
def yX8_search : MethodName := ⟨RX8, "search", "(LSnowRises$World;II)Z"⟩
def yX8_reach : MethodName := ⟨RX8, "reach", "(II)V"⟩
def yX8_addWay : MethodName := ⟨RX8, "addWay", "(II)V"⟩
def yX8_direction : MethodName := ⟨RX8, "direction", "(II)I"⟩
def yX9_init : MethodName := ⟨RX9, "<init>", "(I)V"⟩
def yX9_begin : MethodName := ⟨RX9, "begin", "(II)V"⟩
def yX9_copy : MethodName := ⟨RX9, "copy", "(LSnowRises$World;)V"⟩
def yX9_take : MethodName := ⟨RX9, "take", "(ILSnowRises$World;)I"⟩
def yX9_rowsOf : MethodName := ⟨RX9, "rowsOf", "(I)LSnowRises$Rows;"⟩
def yX9_hasField : MethodName := ⟨RX9, "hasField", "(I)Z"⟩
def yX9_beside : MethodName := ⟨RX9, "beside", "(II)I"⟩
def yX9_isSteep : MethodName := ⟨RX9, "isSteep", "(I)Z"⟩
def yX9_bareFields : MethodName := ⟨RX9, "bareFields", "()I"⟩
def yX9_matchBy : MethodName := ⟨RX9, "matchBy", "(IIII)I"⟩
def yX9_matchOf : MethodName := ⟨RX9, "matchOf", "(II)I"⟩
def yX9_foundOf : MethodName := ⟨RX9, "foundOf", "(II)I"⟩
def yX9_liftOf : MethodName := ⟨RX9, "liftOf", "(IIIII)I"⟩
def yX9_meltOf : MethodName := ⟨RX9, "meltOf", "(I)I"⟩
def yX9_weatherOf : MethodName := ⟨RX9, "weatherOf", "(I)I"⟩
def yX9_note : MethodName := ⟨RX9, "note", "(III)V"⟩
def yX9_makeVow : MethodName := ⟨RX9, "makeVow", "(III)I"⟩
def yX9_rise : MethodName := ⟨RX9, "rise", "()I"⟩
def yX9_drift : MethodName := ⟨RX9, "drift", "()I"⟩
def yX9_passDay : MethodName := ⟨RX9, "passDay", "()I"⟩
def yX9_draw : MethodName := ⟨RX9, "draw", "(I)I"⟩
def yX9_slide : MethodName := ⟨RX9, "slide", "()V"⟩
def yX9_meltAll : MethodName := ⟨RX9, "meltAll", "()V"⟩
def yX9_firstVoid : MethodName := ⟨RX9, "firstVoid", "()I"⟩
def yX9_isBare : MethodName := ⟨RX9, "isBare", "(I)Z"⟩
def yX9_unmetWant : MethodName := ⟨RX9, "unmetWant", "(I)I"⟩
def yX9_worthMet : MethodName := ⟨RX9, "worthMet", "(I)I"⟩
def yX9_worthBare : MethodName := ⟨RX9, "worthBare", "()I"⟩
def yX9_whoCanBe : MethodName := ⟨RX9, "whoCanBe", "(I)I"⟩
def yX9_allStirsFit : MethodName := ⟨RX9, "allStirsFit", "(II)Z"⟩
def yX10_init : MethodName := ⟨RX10, "<init>", "()V"⟩
def yX10_state : MethodName := ⟨RX10, "state", "(I)I"⟩
def yX10_valley : MethodName := ⟨RX10, "valley", "(II)Z"⟩
def yX10_person : MethodName := ⟨RX10, "person", "(IIII)I"⟩
def yX10_set : MethodName := ⟨RX10, "set", "(III)Z"⟩
def yX10_setValley : MethodName := ⟨RX10, "setValley", "(II)Z"⟩
def yX10_setOne : MethodName := ⟨RX10, "setOne", "(III)Z"⟩
def yX10_kin : MethodName := ⟨RX10, "kin", "(IIZ)Z"⟩
def yX10_vow : MethodName := ⟨RX10, "vow", "(III)I"⟩
def yX10_part : MethodName := ⟨RX10, "part", "(II)Z"⟩
def yX10_sweep : MethodName := ⟨RX10, "sweep", "(I)I"⟩
def yX10_days : MethodName := ⟨RX10, "days", "(I)I"⟩
def yX10_feed : MethodName := ⟨RX10, "feed", "(IIIII)I"⟩
def yX10_end : MethodName := ⟨RX10, "end", "(I)Z"⟩
def yX10_text : MethodName := ⟨RX10, "text", "(I)I"⟩
def yX10_fault : MethodName := ⟨RX10, "fault", "(I)I"⟩
def yX10_of : MethodName := ⟨RX10, "of", "(II)I"⟩
def yX10_match : MethodName := ⟨RX10, "match", "(IIZ)I"⟩
def yX10_at : MethodName := ⟨RX10, "at", "(II)I"⟩
def yX10_lift : MethodName := ⟨RX10, "lift", "(IIII)I"⟩
def yX10_weather : MethodName := ⟨RX10, "weather", "(I)I"⟩
def yX10_book : MethodName := ⟨RX10, "book", "(II)I"⟩
def yX10_lies : MethodName := ⟨RX10, "lies", "(II)I"⟩
def yX10_meets : MethodName := ⟨RX10, "meets", "(I)I"⟩
def yX10_stable : MethodName := ⟨RX10, "stable", "(I)I"⟩
def yX10_best : MethodName := ⟨RX10, "best", "(I)I"⟩
def yX10_bares : MethodName := ⟨RX10, "bares", "(II)I"⟩
def yX10_stir : MethodName := ⟨RX10, "stir", "(IIZ)I"⟩
def yX10_who : MethodName := ⟨RX10, "who", "(I)I"⟩
def yX10_ask : MethodName := ⟨RX10, "ask", "(I)I"⟩
def yX10_fans : MethodName := ⟨RX10, "fans", "(II)I"⟩
def yX10_safe : MethodName := ⟨RX10, "safe", "(II)I"⟩
def yX10_cut : MethodName := ⟨RX10, "cut", "(II)I"⟩
def yX10_rounds : MethodName := ⟨RX10, "rounds", "(I)I"⟩
def yX10_comes : MethodName := ⟨RX10, "comes", "(II)I"⟩
def yX10_asks : MethodName := ⟨RX10, "asks", "()I"⟩
def yX10_tribe : MethodName := ⟨RX10, "tribe", "(I)I"⟩
def yX10_hopes : MethodName := ⟨RX10, "hopes", "(I)I"⟩
def yX10_undo : MethodName := ⟨RX10, "undo", "()Z"⟩
def yX10_image : MethodName := ⟨RX10, "image", "(Z)Z"⟩
def yX10_look : MethodName := ⟨RX10, "look", "(I)I"⟩
def yX10_beginThought : MethodName := ⟨RX10, "beginThought", "()V"⟩
def yX10_within : MethodName := ⟨RX10, "within", "(II)Z"⟩
def yX10_held : MethodName := ⟨RX10, "held", "(II)I"⟩
def yX10_steps : MethodName := ⟨RX10, "steps", "(II)I"⟩
def yX11_init : MethodName := ⟨RX11, "<init>", "()V"⟩
def yX11_begins : MethodName := ⟨RX11, "begins", "(II)V"⟩
def yX11_isIn : MethodName := ⟨RX11, "isIn", "(III)Z"⟩
def yX11_lesser : MethodName := ⟨RX11, "lesser", "(II)I"⟩
def yX11_greater : MethodName := ⟨RX11, "greater", "(II)I"⟩
def yX11_size : MethodName := ⟨RX11, "size", "(I)I"⟩
def yX11_isOn : MethodName := ⟨RX11, "isOn", "(II)Z"⟩
def yX11_isField : MethodName := ⟨RX11, "isField", "(I)Z"⟩
def yX11_isPerson : MethodName := ⟨RX11, "isPerson", "(I)Z"⟩
def yX11_isFree : MethodName := ⟨RX11, "isFree", "(I)Z"⟩
def yX11_areUnlike : MethodName := ⟨RX11, "areUnlike", "(II)Z"⟩
def yX11_wentTo : MethodName := ⟨RX11, "wentTo", "(II)I"⟩
def yX11_apart : MethodName := ⟨RX11, "apart", "(II)I"⟩
def yX11_count : MethodName := ⟨RX11, "count", "(I)I"⟩
def yX11_forgets : MethodName := ⟨RX11, "forgets", "()V"⟩
def yX11_state : MethodName := ⟨RX11, "state", "(I)I"⟩
def yX11_draw : MethodName := ⟨RX11, "draw", "(I)I"⟩
def yX11_valley : MethodName := ⟨RX11, "valley", "(II)Z"⟩
def yX11_person : MethodName := ⟨RX11, "person", "(IIII)I"⟩
def yX11_canSet : MethodName := ⟨RX11, "canSet", "(III)Z"⟩
def yX11_placeOf : MethodName := ⟨RX11, "placeOf", "(II)I"⟩
def yX11_set : MethodName := ⟨RX11, "set", "(III)Z"⟩
def yX11_kin : MethodName := ⟨RX11, "kin", "(IIZ)Z"⟩
def yX11_feed : MethodName := ⟨RX11, "feed", "(IIIII)I"⟩
def yX11_end : MethodName := ⟨RX11, "end", "(I)Z"⟩
def yX11_see : MethodName := ⟨RX11, "see", "(I)I"⟩
def yX11_isLetter : MethodName := ⟨RX11, "isLetter", "(I)Z"⟩
def yX11_isDigit : MethodName := ⟨RX11, "isDigit", "(I)Z"⟩
def yX11_is : MethodName := ⟨RX11, "is", "(Ljava/lang/String;)Z"⟩
def yX11_asked : MethodName := ⟨RX11, "asked", "()I"⟩
def yX11_lawWord : MethodName := ⟨RX11, "lawWord", "()I"⟩
def yX11_vowWord : MethodName := ⟨RX11, "vowWord", "()I"⟩
def yX11_weatherWord : MethodName := ⟨RX11, "weatherWord", "()I"⟩
def yX11_wantWord : MethodName := ⟨RX11, "wantWord", "()I"⟩
def yX11_word : MethodName := ⟨RX11, "word", "()I"⟩
def yX11_next0 : MethodName := ⟨RX11, "next0", "()V"⟩
def yX11_bad : MethodName := ⟨RX11, "bad", "(I)Z"⟩
def yX11_need : MethodName := ⟨RX11, "need", "(I)Z"⟩
def yX11_lay : MethodName := ⟨RX11, "lay", "(II)V"⟩
def yX11_opens : MethodName := ⟨RX11, "opens", "()Z"⟩
def yX11_sumUp : MethodName := ⟨RX11, "sumUp", "()Z"⟩
def yX11_product : MethodName := ⟨RX11, "product", "()Z"⟩
def yX11_unit : MethodName := ⟨RX11, "unit", "()Z"⟩
def yX11_any : MethodName := ⟨RX11, "any", "()Z"⟩
def yX11_every : MethodName := ⟨RX11, "every", "()Z"⟩
def yX11_oneTest : MethodName := ⟨RX11, "oneTest", "()Z"⟩
def yX11_aLine : MethodName := ⟨RX11, "aLine", "()Z"⟩
def yX11_readsLaw : MethodName := ⟨RX11, "readsLaw", "()Z"⟩
def yX11_number : MethodName := ⟨RX11, "number", "(III)Z"⟩
def yX11_told : MethodName := ⟨RX11, "told", "(IIII)Z"⟩
def yX11_aField : MethodName := ⟨RX11, "aField", "(II)Z"⟩
def yX11_aVow : MethodName := ⟨RX11, "aVow", "()Z"⟩
def yX11_aWeather : MethodName := ⟨RX11, "aWeather", "()Z"⟩
def yX11_aWant : MethodName := ⟨RX11, "aWant", "()Z"⟩
def yX11_aRow : MethodName := ⟨RX11, "aRow", "()Z"⟩
def yX11_readsRows : MethodName := ⟨RX11, "readsRows", "()Z"⟩
def yX11_putsLaw : MethodName := ⟨RX11, "putsLaw", "()I"⟩
def yX11_puts : MethodName := ⟨RX11, "puts", "(III)I"⟩
def yX11_putsText : MethodName := ⟨RX11, "putsText", "(I)I"⟩
def yX11_text : MethodName := ⟨RX11, "text", "(I)I"⟩
def yX11_fault : MethodName := ⟨RX11, "fault", "(I)I"⟩
def yX11_both : MethodName := ⟨RX11, "both", "(III)I"⟩
def yX11_comesTo : MethodName := ⟨RX11, "comesTo", "(III)I"⟩
def yX11_isSo : MethodName := ⟨RX11, "isSo", "(I)Z"⟩
def yX11_clears : MethodName := ⟨RX11, "clears", "()V"⟩
def yX11_says : MethodName := ⟨RX11, "says", "(III)I"⟩
def yX11_laysTwo : MethodName := ⟨RX11, "laysTwo", "(II)V"⟩
def yX11_matchOf : MethodName := ⟨RX11, "matchOf", "(II)I"⟩
def yX11_foundOf : MethodName := ⟨RX11, "foundOf", "(II)I"⟩
def yX11_liftOf : MethodName := ⟨RX11, "liftOf", "(IIII)I"⟩
def yX11_meltOf : MethodName := ⟨RX11, "meltOf", "(I)I"⟩
def yX11_keeps : MethodName := ⟨RX11, "keeps", "()V"⟩
def yX11_undo : MethodName := ⟨RX11, "undo", "()Z"⟩
def yX11_notes : MethodName := ⟨RX11, "notes", "(III)V"⟩
def yX11_canVow : MethodName := ⟨RX11, "canVow", "(III)Z"⟩
def yX11_lifts : MethodName := ⟨RX11, "lifts", "(IIII)I"⟩
def yX11_rises : MethodName := ⟨RX11, "rises", "(III)I"⟩
def yX11_drifts : MethodName := ⟨RX11, "drifts", "(III)I"⟩
def yX11_vows : MethodName := ⟨RX11, "vows", "(III)I"⟩
def yX11_vow : MethodName := ⟨RX11, "vow", "(III)I"⟩
def yX11_part : MethodName := ⟨RX11, "part", "(II)Z"⟩
def yX11_sweep : MethodName := ⟨RX11, "sweep", "(I)I"⟩
def yX11_weatherOf : MethodName := ⟨RX11, "weatherOf", "(I)I"⟩
def yX11_ofVow : MethodName := ⟨RX11, "ofVow", "(II)I"⟩
def yX11_snows : MethodName := ⟨RX11, "snows", "()V"⟩
def yX11_vowsOfDay : MethodName := ⟨RX11, "vowsOfDay", "()I"⟩
def yX11_slides : MethodName := ⟨RX11, "slides", "()V"⟩
def yX11_aDay : MethodName := ⟨RX11, "aDay", "()I"⟩
def yX11_days : MethodName := ⟨RX11, "days", "(I)I"⟩
def yX11_of : MethodName := ⟨RX11, "of", "(II)I"⟩
def yX11_match : MethodName := ⟨RX11, "match", "(IIZ)I"⟩
def yX11_at : MethodName := ⟨RX11, "at", "(II)I"⟩
def yX11_lift : MethodName := ⟨RX11, "lift", "(IIII)I"⟩
def yX11_weather : MethodName := ⟨RX11, "weather", "(I)I"⟩
def yX11_book : MethodName := ⟨RX11, "book", "(II)I"⟩
def yX11_lays : MethodName := ⟨RX11, "lays", "()V"⟩
def yX11_putsBack : MethodName := ⟨RX11, "putsBack", "()V"⟩
def yX11_lies : MethodName := ⟨RX11, "lies", "(II)I"⟩
def yX11_lastOf : MethodName := ⟨RX11, "lastOf", "(III)I"⟩
def yX11_meetsWants : MethodName := ⟨RX11, "meetsWants", "(I)I"⟩
def yX11_meets : MethodName := ⟨RX11, "meets", "(I)I"⟩
def yX11_nextAsked : MethodName := ⟨RX11, "nextAsked", "(I)I"⟩
def yX11_keepsFor : MethodName := ⟨RX11, "keepsFor", "(II)Z"⟩
def yX11_asksOn : MethodName := ⟨RX11, "asksOn", "(I)V"⟩
def yX11_stable : MethodName := ⟨RX11, "stable", "(I)I"⟩
def yX11_canHave : MethodName := ⟨RX11, "canHave", "(III)Z"⟩
def yX11_laysBest : MethodName := ⟨RX11, "laysBest", "()V"⟩
def yX11_laysFound : MethodName := ⟨RX11, "laysFound", "()V"⟩
def yX11_takenBy : MethodName := ⟨RX11, "takenBy", "(II)I"⟩
def yX11_best : MethodName := ⟨RX11, "best", "(I)I"⟩
def yX11_bares : MethodName := ⟨RX11, "bares", "(II)I"⟩
def yX11_stir : MethodName := ⟨RX11, "stir", "(IIZ)I"⟩
def yX11_canBe : MethodName := ⟨RX11, "canBe", "(II)Z"⟩
def yX11_whoBy : MethodName := ⟨RX11, "whoBy", "(I)I"⟩
def yX11_who : MethodName := ⟨RX11, "who", "(I)I"⟩
def yX11_mostAlike : MethodName := ⟨RX11, "mostAlike", "(II)I"⟩
def yX11_ask : MethodName := ⟨RX11, "ask", "(I)I"⟩
def yX11_fans : MethodName := ⟨RX11, "fans", "(II)I"⟩
def yX11_isSafe : MethodName := ⟨RX11, "isSafe", "(I)Z"⟩
def yX11_safe : MethodName := ⟨RX11, "safe", "(II)I"⟩
def yX11_isComeTo : MethodName := ⟨RX11, "isComeTo", "(II)V"⟩
def yX11_goesIn : MethodName := ⟨RX11, "goesIn", "(I)V"⟩
def yX11_goesOut : MethodName := ⟨RX11, "goesOut", "(I)V"⟩
def yX11_wayTo : MethodName := ⟨RX11, "wayTo", "(II)I"⟩
def yX11_turns : MethodName := ⟨RX11, "turns", "(II)V"⟩
def yX11_hasWay : MethodName := ⟨RX11, "hasWay", "(II)Z"⟩
def yX11_cut : MethodName := ⟨RX11, "cut", "(II)I"⟩
def yX11_counting : MethodName := ⟨RX11, "counting", "()I"⟩
def yX11_isAloneIn : MethodName := ⟨RX11, "isAloneIn", "(II)Z"⟩
def yX11_roundsFrom : MethodName := ⟨RX11, "roundsFrom", "(III)Z"⟩
def yX11_rounds : MethodName := ⟨RX11, "rounds", "(I)I"⟩
def yX11_comes : MethodName := ⟨RX11, "comes", "(II)I"⟩
def yX11_asks : MethodName := ⟨RX11, "asks", "()I"⟩
def yX11_tribe : MethodName := ⟨RX11, "tribe", "(I)I"⟩
def yX11_hopeOf : MethodName := ⟨RX11, "hopeOf", "(I)I"⟩
def yX11_hopes : MethodName := ⟨RX11, "hopes", "(I)I"⟩
def yX11_image : MethodName := ⟨RX11, "image", "(Z)Z"⟩
def yX11_bareFields : MethodName := ⟨RX11, "bareFields", "()I"⟩
def yX11_look : MethodName := ⟨RX11, "look", "(I)I"⟩
def yJ11_isValidCodePoint_9a6ad : MethodName := ⟨RJ11, "isValidCodePoint", "(I)Z"⟩
def yJ11_highSurrogate_5068e : MethodName := ⟨RJ11, "highSurrogate", "(I)C"⟩
def yJ11_lowSurrogate_5068e : MethodName := ⟨RJ11, "lowSurrogate", "(I)C"⟩
def yJ6_bitCount_0f7a4 : MethodName := ⟨RJ6, "bitCount", "(I)I"⟩
def yJ9_floorDiv_7cf53 : MethodName := ⟨RJ9, "floorDiv", "(II)I"⟩
def yJ9_abs_0f7a4 : MethodName := ⟨RJ9, "abs", "(I)I"⟩
def yJ9_max_7cf53 : MethodName := ⟨RJ9, "max", "(II)I"⟩
def yJ9_min_7cf53 : MethodName := ⟨RJ9, "min", "(II)I"⟩
def yJ0_length_8abf5 : MethodName := ⟨RJ0, "length", "()I"⟩
def yJ0_charAt_5068e : MethodName := ⟨RJ0, "charAt", "(I)C"⟩
def yJ0_indexOf_0f7a4 : MethodName := ⟨RJ0, "indexOf", "(I)I"⟩
def yJ0_indexOf_7cf53 : MethodName := ⟨RJ0, "indexOf", "(II)I"⟩
def yJ0_coder_7d493 : MethodName := ⟨RJ0, "coder", "()B"⟩
def yJ0_isLatin1_aae02 : MethodName := ⟨RJ0, "isLatin1", "()Z"⟩
def yJ0_checkIndex_df160 : MethodName := ⟨RJ0, "checkIndex", "(II)V"⟩
def yJ0_checkBoundsBeginEnd_23922 : MethodName := ⟨RJ0, "checkBoundsBeginEnd", "(III)V"⟩
def yJ1_charAt_3b067 : MethodName := ⟨RJ1, "charAt", "([BI)C"⟩
def yJ1_canEncode_9a6ad : MethodName := ⟨RJ1, "canEncode", "(I)Z"⟩
def yJ1_indexOf_4cfef : MethodName := ⟨RJ1, "indexOf", "([BIII)I"⟩
def yJ1_indexOfChar_4cfef : MethodName := ⟨RJ1, "indexOfChar", "([BIII)I"⟩
def yJ2_getChar_3b067 : MethodName := ⟨RJ2, "getChar", "([BI)C"⟩
def yJ2_length_9d52b : MethodName := ⟨RJ2, "length", "([B)I"⟩
def yJ2_indexOf_4cfef : MethodName := ⟨RJ2, "indexOf", "([BIII)I"⟩
def yJ2_indexOfChar_4cfef : MethodName := ⟨RJ2, "indexOfChar", "([BIII)I"⟩
def yJ2_indexOfCharUnsafe_4cfef : MethodName := ⟨RJ2, "indexOfCharUnsafe", "([BIII)I"⟩
def yJ2_indexOfSupplementary_4cfef : MethodName := ⟨RJ2, "indexOfSupplementary", "([BIII)I"⟩
def yJ2_charAt_3b067 : MethodName := ⟨RJ2, "charAt", "([BI)C"⟩
def yJ2_checkIndex_2214a : MethodName := ⟨RJ2, "checkIndex", "(I[B)V"⟩
def yJ2_checkBoundsBeginEnd_d044e : MethodName := ⟨RJ2, "checkBoundsBeginEnd", "(II[B)V"⟩
def yJ3_checkIndex_8e157 : MethodName := ⟨RJ3, "checkIndex", "(IILjava/util/function/BiFunction;)I"⟩
def yJ3_checkFromToIndex_8c36e : MethodName := ⟨RJ3, "checkFromToIndex", "(IIILjava/util/function/BiFunction;)I"⟩
def yL_law : MethodName := ⟨RL, "law", "([I)Z"⟩
abbrev vwCl : List vw_C := [(RX0, TX0, 10), (RX1, TX1, 7), (RX2, TX2, 8), (RX3, TX3, 5), (RX4, TX4, 8), (RX5, TX5, 5), (RX6, TX6, 3), (RX7, TX7, 5), (RX8, TX8, 6), (RX9, TX9, 17), (RX10, TX10, 9), (RX11, TX11, 40)]
/-- the words that every method may use -/
def TW : List Cond := lw_tbl.filter goodWord
theorem tw_of {w : Cond} {i : Nat} (h : tables_1[i]? = some w) (hg : goodWord w = true) : w ∈ TW := List.mem_filter.mpr ⟨List.mem_append_right _ (List.mem_of_getElem? h), hg⟩
theorem tw_ofP {w : Cond} {i : Nat} (h : (k2_sels lw_privs)[i]? = some w) (hg : goodWord w = true) : w ∈ TW := List.mem_filter.mpr ⟨List.mem_append_left _ (List.mem_of_getElem? h), hg⟩
theorem tw_all {ws : List Cond} (is : List Nat) (h : ws = is.filterMap (fun i => tables_1[i]?)) (hg : ws.all goodWord = true) : ∀ w ∈ ws, w ∈ TW := by
  intro w hw
  have h1 := List.all_eq_true.mp hg w hw
  rw [h] at hw
  obtain ⟨i, -, hi⟩ := List.mem_filterMap.mp hw
  exact tw_of hi h1
theorem tw_good {big : List Cond} (hb : ∀ w ∈ TW, w ∈ big) {c : Cond} (hc : c ∈ TW) : GoodIn big (c :: TW) := by
  intro w hw
  have h1 : w ∈ TW := by rcases List.mem_cons.mp hw with h | h
                         · rw [h]; exact hc
                         · exact h
  exact ⟨hb w h1, good_of_word (List.mem_filter.mp h1).2⟩
theorem inX0 : ∀ w ∈ wsX00, w ∈ TW := tw_all [334, 336, 338, 340, 342, 344, 346, 348, 350, 352] (by decide +kernel) (by decide +kernel)
theorem inX1 : ∀ w ∈ wsX10, w ∈ TW := tw_all [64, 66, 68, 70, 72, 74, 76] (by decide +kernel) (by decide +kernel)
theorem inX2 : ∀ w ∈ wsX20, w ∈ TW := tw_all [101, 103, 105, 107, 109, 111, 113, 115] (by decide +kernel) (by decide +kernel)
theorem inX3 : ∀ w ∈ wsX30, w ∈ TW := tw_all [246, 248, 250, 252, 254] (by decide +kernel) (by decide +kernel)
theorem inX4 : ∀ w ∈ wsX40, w ∈ TW := tw_all [300, 302, 304, 306, 308, 310, 312, 314] (by decide +kernel) (by decide +kernel)
theorem inX5 : ∀ w ∈ wsX50, w ∈ TW := tw_all [393, 395, 397, 399, 401] (by decide +kernel) (by decide +kernel)
theorem inX6 : ∀ w ∈ wsX60, w ∈ TW := tw_all [136, 138, 140] (by decide +kernel) (by decide +kernel)
theorem inX7 : ∀ w ∈ wsX70, w ∈ TW := tw_all [272, 274, 276, 278, 280] (by decide +kernel) (by decide +kernel)
theorem inX8 : ∀ w ∈ wsX80, w ∈ TW := tw_all [367, 369, 371, 373, 375, 377] (by decide +kernel) (by decide +kernel)
theorem inX9 : ∀ w ∈ wsX90, w ∈ TW := tw_all [199, 201, 203, 205, 207, 209, 211, 213, 215, 217, 219, 221, 223, 225, 227, 229, 231] (by decide +kernel) (by decide +kernel)
theorem inX10 : ∀ w ∈ wsX100, w ∈ TW := tw_all [413, 415, 417, 419, 421, 423, 425, 427, 429] (by decide +kernel) (by decide +kernel)
theorem inX11 : ∀ w ∈ wsX110, w ∈ TW := tw_all [1242, 1244, 1246, 1248, 1250, 1252, 1254, 1256, 1258, 1260, 1262, 1264, 1266, 1268, 1270, 1272, 1274, 1276, 1278, 1280, 1282, 1284, 1286, 1288, 1290, 1292, 1294, 1296, 1298, 1300, 1302, 1304, 1306, 1308, 1310, 1312, 1314, 1316, 1318, 1320] (by decide +kernel) (by decide +kernel)
end
section
/-! the text constants, in the order of the tables -/
def nS : Nat := 24
def sOwn : List String := ["SnowRises$Tape", "SnowRises$Tape", "SnowRisesModel", "SnowRisesModel", "SnowRisesModel", "SnowRisesModel", "SnowRisesModel", "SnowRisesModel", "SnowRisesModel", "SnowRisesModel", "SnowRisesModel", "SnowRisesModel", "SnowRisesModel", "SnowRisesModel", "SnowRisesModel", "SnowRisesModel", "SnowRisesModel", "SnowRisesModel", "SnowRisesModel", "SnowRisesModel", "SnowRisesModel", "SnowRisesModel", "SnowRisesModel", "SnowRisesModel"]
def sIdx : List Nat := [65, 58, 158, 160, 162, 164, 166, 168, 170, 135, 141, 143, 145, 147, 149, 151, 153, 155, 156, 174, 176, 177, 179, 181]
def sTx : List String := ["match lift melt when or and not temper hope other wish kin apart far snow found day on at for bare worth ", ";+-*/()<=>", "when", "or", "and", "not", "match", "lift", "melt", "temper", "hope", "other", "wish", "kin", "apart", "far", "snow", "found", "day", "on", "at", "for", "bare", "worth"]
def lenS : List Nat := [105, 10, 4, 2, 3, 3, 5, 4, 4, 6, 4, 5, 4, 3, 5, 3, 4, 5, 3, 2, 2, 3, 4, 5]
def bytS : List (List Int32) := [[109, 97, 116, 99, 104, 32, 108, 105, 102, 116, 32, 109, 101, 108, 116, 32, 119, 104, 101, 110, 32, 111, 114, 32, 97, 110, 100, 32, 110, 111, 116, 32, 116, 101, 109, 112, 101, 114, 32, 104, 111, 112, 101, 32, 111, 116, 104, 101, 114, 32, 119, 105, 115, 104, 32, 107, 105, 110, 32, 97, 112, 97, 114, 116, 32, 102, 97, 114, 32, 115, 110, 111, 119, 32, 102, 111, 117, 110, 100, 32, 100, 97, 121, 32, 111, 110, 32, 97, 116, 32, 102, 111, 114, 32, 98, 97, 114, 101, 32, 119, 111, 114, 116, 104, 32],
  [59, 43, 45, 42, 47, 40, 41, 60, 61, 62],
  [119, 104, 101, 110],
  [111, 114],
  [97, 110, 100],
  [110, 111, 116],
  [109, 97, 116, 99, 104],
  [108, 105, 102, 116],
  [109, 101, 108, 116],
  [116, 101, 109, 112, 101, 114],
  [104, 111, 112, 101],
  [111, 116, 104, 101, 114],
  [119, 105, 115, 104],
  [107, 105, 110],
  [97, 112, 97, 114, 116],
  [102, 97, 114],
  [115, 110, 111, 119],
  [102, 111, 117, 110, 100],
  [100, 97, 121],
  [111, 110],
  [97, 116],
  [102, 111, 114],
  [98, 97, 114, 101],
  [119, 111, 114, 116, 104]]
end
section
/-! THE CORE: one judgement WP over the kit's W. X: launch, layout, array classes, where our cells begin, the text constants' cells. -/
abbrev Cx : Type := Launch × va_G × (ClassId × ClassId × ClassId) × Nat × (Nat → Nat) × (Nat → Nat)
abbrev MM : Type := MethodName × ByteArray × Nat × Option FieldType × Nat
abbrev tyL (X : Cx) : List (ClassId × FieldType) := [(X.2.2.1.1, .int), (X.2.2.1.2.1, .byte), (X.2.2.1.2.2, .boolean)]
abbrev AA (X : Cx) : Nat → Prop := fun q => X.2.2.2.1 ≤ q
def rmD (d k n : Nat) : Room := { frames := d, cells := k, slots := n, locals := 64 * d }
def SD (X : Cx) (U : State) (H : Heap) : Prop :=
  (∀ i : Nat, i < nS → vk_R (sOwn.getD i "") (sIdx.getD i 0) (sTx.getD i "") (X.2.2.2.2.1 i) U) ∧ vk_S nS lenS bytS X.2.2.2.2.1 X.2.2.2.2.2 (AA X) U H ∧ va_Z "java/lang/String" "COMPACT_STRINGS" "Z" (.int 1) (AA X) U H
theorem SD.go {X : Cx} {s t : State} (h : SD X s s.heap) (hW : s.WarmedH t.vm) (hF : va_F (AA X) s t) : SD X t t.heap :=
  ⟨fun i hi => (h.1 i hi).warm hW, (vk_S.moved hW.alike h.2.1).kept hF.2, (va_Z.moved hW.alike h.2.2).kept hF.2⟩
def WD (X : Cx) (ws : va_W) (U : State) : Prop := va_P X.2.1 vwCl ws U.heap ∧ va_K X.2.1 vwCl (tyL X) U ∧ va_D (AA X) ws ∧ SD X U U.heap ∧ X.2.2.2.1 ≤ U.heap.size
def QC (X : Cx) (Q : Option Value → va_W → Prop) : Array Value → State → Outcome → State → Prop := fun _ s o t => (∃ (r : Option Value) (ws : va_W), o = .returned r ∧ Q r ws ∧ WD X ws t) ∧ va_F (AA X) s t
def FX (X : Cx) (M : MM) (p : Program) (s : State) (m : MethodId) (args : Array Value) (meth : Method) (c : Code) : Prop :=
  p.tables.exec = Jvm.exec ∧ c.code = M.2.1 ∧ c.maxLocals = M.2.2.1 ∧ meth.sig.returnType = M.2.2.2.1 ∧ s.vm.findClass M.1.cls = some m.cls ∧ (∀ w ∈ TW, w.before args s = true) ∧ meth.locks = false ∧ meth.name = M.1.name ∧ va_K X.2.1 vwCl (tyL X) s ∧ SD X s s.heap ∧ X.2.2.2.1 ≤ s.heap.size
def lvx : Nat → List (Option Value) → List (Nat × Value)
  | _, [] => []
  | i, none :: t => lvx (i + 1) t
  | i, some v :: t => (i, v) :: lvx (i + 1) t
theorem lvx_mem : ∀ (L : List (Option Value)) (i : Nat) (q : Nat × Value), q ∈ lvx i L ↔ i ≤ q.1 ∧ L[q.1 - i]? = some (some q.2)
  | [], i, q => by simp [lvx]
  | none :: t, i, q => by
    rw [lvx, lvx_mem t (i + 1) q]
    constructor
    · rintro ⟨h1, h2⟩
      refine ⟨by omega, ?_⟩
      rw [show q.1 - i = (q.1 - (i + 1)) + 1 by omega, List.getElem?_cons_succ]; exact h2
    · rintro ⟨h1, h2⟩
      rcases Nat.lt_or_ge i q.1 with h | h
      · refine ⟨h, ?_⟩
        rw [show q.1 - i = (q.1 - (i + 1)) + 1 by omega, List.getElem?_cons_succ] at h2; exact h2
      · rw [show q.1 - i = 0 by omega] at h2; simp at h2
  | some v :: t, i, q => by
    rw [lvx, List.mem_cons, lvx_mem t (i + 1) q]
    constructor
    · rintro (h | ⟨h1, h2⟩)
      · subst h; simp
      · refine ⟨by omega, ?_⟩
        rw [show q.1 - i = (q.1 - (i + 1)) + 1 by omega, List.getElem?_cons_succ]; exact h2
    · rintro ⟨h1, h2⟩
      rcases Nat.lt_or_ge i q.1 with h | h
      · right
        refine ⟨h, ?_⟩
        rw [show q.1 - i = (q.1 - (i + 1)) + 1 by omega, List.getElem?_cons_succ] at h2; exact h2
      · left
        rw [show q.1 - i = 0 by omega] at h2
        simp at h2
        have : q.1 = i := by omega
        cases q; simp_all
def lvL (ls : Array Slot) (n : Nat) (L : List (Option Value)) : Prop := lv_has ls n (lvx 0 L)
theorem lvL.at {ls : Array Slot} {n i : Nat} {L : List (Option Value)} {v : Value} (h : lvL ls n L) (hi : L[i]? = some (some v)) : ls[i]? = some (.val v) :=
  h.2.2 (i, v) ((lvx_mem L 0 (i, v)).mpr ⟨Nat.zero_le _, hi⟩)
def okS (L : List (Option Value)) (i : Nat) : Bool := match i with
  | 0 => true
  | i + 1 => match L.getD i none with
    | some v => v.category == 1
    | none => true
theorem lvL.st {ls : Array Slot} {n i : Nat} {L : List (Option Value)} {v : Value} (h : lv_has ls n ((i, v) :: (lvx 0 L).filter (fun q => !(q.1 == i) && !(q.1 + 1 == i && q.2.category == 2)))) (ho : okS L i = true) : lvL ls n (L.set i (some v)) := by
  refine ⟨h.1, h.2.1, fun q hq => ?_⟩
  obtain ⟨-, hq2⟩ := (lvx_mem _ 0 q).mp hq
  rw [Nat.sub_zero] at hq2
  rcases Nat.decEq q.1 i with hne | he
  · rw [List.getElem?_set_ne (fun e => hne e.symm)] at hq2
    refine h.2.2 q (List.mem_cons_of_mem _ (List.mem_filter.mpr ⟨(lvx_mem L 0 q).mpr ⟨Nat.zero_le _, hq2⟩, ?_⟩))
    have h1 : (q.1 + 1 == i && q.2.category == 2) = false := by
      rcases Nat.decEq (q.1 + 1) i with hn | hn
      · simp [hn]
      · subst hn
        simp only [okS, List.getD_eq_getElem?_getD, hq2, Option.getD_some, beq_iff_eq] at ho
        simp [ho]
    simp [hne, h1]
  · subst he
    have h2 : q.1 < L.length := by
      rcases Nat.lt_or_ge q.1 L.length with h3 | h3
      · exact h3
      · rw [List.getElem?_eq_none (by simpa using h3)] at hq2; cases hq2
    rw [List.getElem?_set_self h2] at hq2
    have h3 : q = (q.1, v) := by
      have := Option.some.inj (Option.some.inj hq2)
      cases q; simp_all
    rw [h3]
    exact h.2.2 _ List.mem_cons_self
abbrev ZT : Type := List Frame → Array Value → State → State → Prop
abbrev EXT : Type := Array Value → State → Prop
def WZ (X : Cx) (M : MM) (R : Room) (kc nc : Nat) (EX : EXT) (Z : ZT) (pc : Nat) (L : List (Option Value)) (st : List Value) (ws : va_W) : Prop :=
  ∀ (p : Program) (e : Env) (s : State) (m : MethodId) (args : Array Value) (below : List Frame) (meth : Method) (c : Code) (H : Heap) (locs : List Loc) (ls : Array Slot),
    FX X M p s m args meth c → EX args s → va_P X.2.1 vwCl ws H → va_D (AA X) ws → va_S (AA X) s.heap H locs → lvL ls M.2.2.1 L →
    W p X.1 e R s m args below meth c H locs kc nc (Z below args s) (F0 m pc ls st)
def ZM (X : Cx) (Q : Option Value → va_W → Prop) (mc ms : Nat) : ZT := fun below args s => MQ below (QC X Q) args s mc ms (AA X)
abbrev E0 : EXT := fun _ _ => True
def CI (X : Cx) (M : MM) (As : List Value) (ws : va_W) (mc ms : Nat) (Q : Option Value → va_W → Prop) : Prop :=
  Met X.1 M.1 (Cond.code M.1 M.2.1 M.2.2.1 M.2.2.2.1 :: TW) (rmD M.2.2.2.2 mc ms) (va_Pc As (WD X ws)) (QC X Q) mc ms (AA X)
theorem WD.blind {X : Cx} {ws : va_W} {As : List Value} : FrameBlind (va_Pc As (WD X ws)) := by
  intro a U g mk h
  obtain ⟨h1, hP, hK, hD, hS, hb⟩ := h
  exact ⟨h1, hP, va_K.moved (u := U) (U := U.calling g mk a) (Vm.Alike.refl U.vm) hK, hD, ⟨fun i hi => vk_R.same (u := U) rfl (hS.1 i hi), vk_S.moved (u := U) (U := U.calling g mk a) (Vm.Alike.refl U.vm) hS.2.1, va_Z.moved (u := U) (U := U.calling g mk a) (Vm.Alike.refl U.vm) hS.2.2⟩, hb⟩
theorem WD.here {X : Cx} {ws : va_W} {s U : State} {H : Heap} {locs : List Loc} (hK : va_K X.2.1 vwCl (tyL X) s) (hS0 : SD X s s.heap) (hb : X.2.2.2.1 ≤ s.heap.size) (hP : va_P X.2.1 vwCl ws H) (hD : va_D (AA X) ws) (hS : va_S (AA X) s.heap H locs) (hU : U.heap = H) (hW : s.WarmedH U.vm) : WD X ws U :=
  ⟨by rw [hU]; exact hP, va_K.moved hW.alike hK, hD, hS0.go hW (hS.F hU), by rw [hU]; exact Nat.le_trans hb hS.1⟩
def argL (As : List Value) (n : Nat) : List (Option Value) := As.map some ++ List.replicate (n - As.length) none
theorem lvx_none : ∀ (k n : Nat), lvx k (List.replicate n none) = []
  | _, 0 => rfl
  | k, n + 1 => by rw [List.replicate_succ, lvx]; exact lvx_none (k + 1) n
theorem lvx_args : ∀ (As : List Value) (k n : Nat), (∀ v ∈ As, v.category = 1) → lvx k (As.map some ++ List.replicate n none) = lv_args k As
  | [], k, n, _ => by rw [List.map_nil, List.nil_append, lvx_none]; rfl
  | v :: t, k, n, h => by
    have h1 : ¬ v.category = 2 := by rw [h v List.mem_cons_self]; decide
    rw [List.map_cons, List.cons_append, lvx, lv_args, if_neg h1, lvx_args t (k + 1) n (fun w hw => h w (List.mem_cons_of_mem _ hw))]
theorem lg_sl_len : ∀ (As : List Value), (∀ v ∈ As, v.category = 1) → (lg_sl As).length = As.length
  | [], _ => rfl
  | v :: t, h => by
    have h1 : ¬ v.category = 2 := by rw [h v List.mem_cons_self]; decide
    have h2 := lg_sl_len t (fun w hw => h w (List.mem_cons_of_mem _ hw))
    rw [lg_sl] at h2 ⊢
    rw [List.flatMap_cons, List.length_append, if_neg h1, h2, List.length_cons]
    simp; omega
/-- a contract out of the walk of its body -/
theorem CI.of {X : Cx} {M : MM} {As : List Value} {ws : va_W} {mc ms : Nat} {Q : Option Value → va_W → Prop} (hy : plainName M.1.cls = true) (hc : As.all (fun v => v.category == 1) = true) (hn : As.length ≤ M.2.2.1)
    (k : WZ X M (rmD M.2.2.2.2 mc ms) 0 0 E0 (ZM X Q mc ms) 0 (argL As M.2.2.1) [] ws) : CI X M As ws mc ms Q := by
  have hc' : ∀ v ∈ As, v.category = 1 := fun v hv => by simpa using List.all_eq_true.mp hc v hv
  refine Met.ofW (cc := M.2.1) (maxL := M.2.2.1) (ret := M.2.2.2.1) hy rfl ?_
  intro p e s m args below meth c s₁ B hml hv
  obtain ⟨rfl, hP, hK, hD, hS0, hb⟩ := hv
  have hts : ∀ w ∈ (Cond.code M.1 M.2.1 M.2.2.1 M.2.2.2.1 :: TW), w.before As.toArray s = true := atoms_spec (ws := Cond.code M.1 M.2.1 M.2.2.1 M.2.2.2.1 :: TW) B.pre
  have hl := lv_entry As (n := M.2.2.1) (by rw [lg_sl_len As hc']; exact hn)
  rw [lg_entry_eq]
  refine k p e s m As.toArray below meth c s.heap [] _ ⟨B.exec, B.bytes, hml, B.returns, findClass_of_methodNamed B.named, fun w hw => hts w (List.mem_cons_of_mem _ hw), B.notSynchronized, (name_of_methodNamed B.named B.method).1, hK, hS0, hb⟩ trivial hP hD va_S.rf ?_
  rw [lvL, argL, lvx_args As 0 _ hc']
  exact hl
end
section
/-! rules of WP: an instruction that touches no heap -/
section RulesL
variable {X : Cx} {M : MM} {pc : Nat} {L : List (Option Value)} {st : List Value} {ws : va_W} {R : Room} {kc nc : Nat} {EX : EXT} {Z : ZT}
theorem w_iconst {n : Int} {v : Int32} (hd : decode M.2.1 pc = .ok (.iconst n, 1)) (hv : Int32.ofInt n = v) (kk : WZ X M R kc nc EX Z (pc + 1) L (.int v :: st) ws) : WZ X M R kc nc EX Z pc L st ws := by
  intro p e s m args below meth c H locs ls F hE hP hD hS hl
  exact lv_iconst F.1 F.2.1 hd hv (kk p e s m args below meth c H locs ls F hE hP hD hS hl)
theorem w_bipush {n : Int} {v : Int32} (hd : decode M.2.1 pc = .ok (.bipush n, 2)) (hv : (Int8.ofInt n).toInt32 = v) (kk : WZ X M R kc nc EX Z (pc + 2) L (.int v :: st) ws) : WZ X M R kc nc EX Z pc L st ws := by
  intro p e s m args below meth c H locs ls F hE hP hD hS hl
  exact lv_bipush F.1 F.2.1 hd hv (kk p e s m args below meth c H locs ls F hE hP hD hS hl)
theorem w_sipush {n : Int} {v : Int32} (hd : decode M.2.1 pc = .ok (.sipush n, 3)) (hv : (Int16.ofInt n).toInt32 = v) (kk : WZ X M R kc nc EX Z (pc + 3) L (.int v :: st) ws) : WZ X M R kc nc EX Z pc L st ws := by
  intro p e s m args below meth c H locs ls F hE hP hD hS hl
  exact lv_sipush F.1 F.2.1 hd hv (kk p e s m args below meth c H locs ls F hE hP hD hS hl)
theorem w_lconst {n : Fin 2} {v : Int64} (hd : decode M.2.1 pc = .ok (.lconst n, 1)) (hv : Int64.ofNat (n : Nat) = v) (kk : WZ X M R kc nc EX Z (pc + 1) L (.long v :: st) ws) : WZ X M R kc nc EX Z pc L st ws := by
  intro p e s m args below meth c H locs ls F hE hP hD hS hl
  exact lv_lconst F.1 F.2.1 hd hv (kk p e s m args below meth c H locs ls F hE hP hD hS hl)
theorem w_ldc {i : Nat} {v : Int32} (hw : Cond.constant M.1.cls i v ∈ TW) (hd : decode M.2.1 pc = .ok (.ldc i, 2)) (kk : WZ X M R kc nc EX Z (pc + 2) L (.int v :: st) ws) : WZ X M R kc nc EX Z pc L st ws := by
  intro p e s m args below meth c H locs ls F hE hP hD hS hl
  exact lv_ldc F.1 F.2.1 F.2.2.2.2.1 (F.2.2.2.2.2.1 _ hw) hd (kk p e s m args below meth c H locs ls F hE hP hD hS hl)
theorem w_ldcw {i : Nat} {v : Int32} (hw : Cond.constant M.1.cls i v ∈ TW) (hd : decode M.2.1 pc = .ok (.ldc_w i, 3)) (kk : WZ X M R kc nc EX Z (pc + 3) L (.int v :: st) ws) : WZ X M R kc nc EX Z pc L st ws := by
  intro p e s m args below meth c H locs ls F hE hP hD hS hl
  exact lv_ldcw F.1 F.2.1 F.2.2.2.2.1 (F.2.2.2.2.2.1 _ hw) hd (kk p e s m args below meth c H locs ls F hE hP hD hS hl)
theorem w_ldc2 {i : Nat} {v : Int64} (hw : Cond.constantLong M.1.cls i v ∈ TW) (hd : decode M.2.1 pc = .ok (.ldc2_w i, 3)) (kk : WZ X M R kc nc EX Z (pc + 3) L (.long v :: st) ws) : WZ X M R kc nc EX Z pc L st ws := by
  intro p e s m args below meth c H locs ls F hE hP hD hS hl
  exact lv_ldc2 F.1 F.2.1 F.2.2.2.2.1 (F.2.2.2.2.2.1 _ hw) hd (kk p e s m args below meth c H locs ls F hE hP hD hS hl)
theorem w_ldcS {i : Nat} (j : Nat) (hj : j < nS) (ho : sOwn.getD j "" = M.1.cls) (hi : sIdx.getD j 0 = i) (hd : decode M.2.1 pc = .ok (.ldc i, 2)) (kk : WZ X M R kc nc EX Z (pc + 2) L (.ref (X.2.2.2.2.1 j) :: st) ws) : WZ X M R kc nc EX Z pc L st ws := by
  intro p e s m args below meth c H locs ls F hE hP hD hS hl
  subst hi
  exact va_ldcS F.1 F.2.1 (own := M.1.cls) F.2.2.2.2.1 (by have h := F.2.2.2.2.2.2.2.2.2.1.1 j hj; rw [ho] at h; exact h) hd (kk p e s m args below meth c H locs ls F hE hP hD hS hl)
theorem w_iload_n {k : Fin 4} {i : Nat} {x : Int32} (hd : decode M.2.1 pc = .ok (.iload_n k, 1)) (hi : (k : Nat) = i) (hL : L[i]? = some (some (.int x))) (kk : WZ X M R kc nc EX Z (pc + 1) L (.int x :: st) ws) : WZ X M R kc nc EX Z pc L st ws := by
  intro p e s m args below meth c H locs ls F hE hP hD hS hl
  exact lv_iload_n F.1 F.2.1 hd hi (hl.at hL) (kk p e s m args below meth c H locs ls F hE hP hD hS hl)
theorem w_iload {i : Nat} {x : Int32} (hd : decode M.2.1 pc = .ok (.iload i, 2)) (hL : L[i]? = some (some (.int x))) (kk : WZ X M R kc nc EX Z (pc + 2) L (.int x :: st) ws) : WZ X M R kc nc EX Z pc L st ws := by
  intro p e s m args below meth c H locs ls F hE hP hD hS hl
  exact lv_iload F.1 F.2.1 hd (hl.at hL) (kk p e s m args below meth c H locs ls F hE hP hD hS hl)
theorem w_aload_n {k : Fin 4} {i : Nat} {x : Nat} (hd : decode M.2.1 pc = .ok (.aload_n k, 1)) (hi : (k : Nat) = i) (hL : L[i]? = some (some (.ref x))) (kk : WZ X M R kc nc EX Z (pc + 1) L (.ref x :: st) ws) : WZ X M R kc nc EX Z pc L st ws := by
  intro p e s m args below meth c H locs ls F hE hP hD hS hl
  exact lv_aload_n F.1 F.2.1 hd hi (hl.at hL) (kk p e s m args below meth c H locs ls F hE hP hD hS hl)
theorem w_aload {i : Nat} {x : Nat} (hd : decode M.2.1 pc = .ok (.aload i, 2)) (hL : L[i]? = some (some (.ref x))) (kk : WZ X M R kc nc EX Z (pc + 2) L (.ref x :: st) ws) : WZ X M R kc nc EX Z pc L st ws := by
  intro p e s m args below meth c H locs ls F hE hP hD hS hl
  exact lv_aload F.1 F.2.1 hd (hl.at hL) (kk p e s m args below meth c H locs ls F hE hP hD hS hl)
theorem w_lload_n {k : Fin 4} {i : Nat} {x : Int64} (hd : decode M.2.1 pc = .ok (.lload_n k, 1)) (hi : (k : Nat) = i) (hL : L[i]? = some (some (.long x))) (kk : WZ X M R kc nc EX Z (pc + 1) L (.long x :: st) ws) : WZ X M R kc nc EX Z pc L st ws := by
  intro p e s m args below meth c H locs ls F hE hP hD hS hl
  exact lv_lload_n F.1 F.2.1 hd hi (hl.at hL) (kk p e s m args below meth c H locs ls F hE hP hD hS hl)
theorem w_lload {i : Nat} {x : Int64} (hd : decode M.2.1 pc = .ok (.lload i, 2)) (hL : L[i]? = some (some (.long x))) (kk : WZ X M R kc nc EX Z (pc + 2) L (.long x :: st) ws) : WZ X M R kc nc EX Z pc L st ws := by
  intro p e s m args below meth c H locs ls F hE hP hD hS hl
  exact lv_lload F.1 F.2.1 hd (hl.at hL) (kk p e s m args below meth c H locs ls F hE hP hD hS hl)
theorem w_istore_n {k : Fin 4} {i : Nat} {x : Int32} {L2 : List (Option Value)} (hd : decode M.2.1 pc = .ok (.istore_n k, 1)) (hi : (k : Nat) = i) (hn : i < M.2.2.1) (ho : okS L i = true) (h2 : L.set i (some (.int x)) = L2) (kk : WZ X M R kc nc EX Z (pc + 1) L2 st ws) : WZ X M R kc nc EX Z pc L (.int x :: st) ws := by
  intro p e s m args below meth c H locs ls F hE hP hD hS hl
  subst h2
  exact lv_istore_n F.1 F.2.1 hd hi hl hn rfl (fun ls2 hl2 => kk p e s m args below meth c H locs ls2 F hE hP hD hS (lvL.st hl2 ho))
theorem w_istore {i : Nat} {x : Int32} {L2 : List (Option Value)} (hd : decode M.2.1 pc = .ok (.istore i, 2)) (hn : i < M.2.2.1) (ho : okS L i = true) (h2 : L.set i (some (.int x)) = L2) (kk : WZ X M R kc nc EX Z (pc + 2) L2 st ws) : WZ X M R kc nc EX Z pc L (.int x :: st) ws := by
  intro p e s m args below meth c H locs ls F hE hP hD hS hl
  subst h2
  exact lv_istore F.1 F.2.1 hd hl hn rfl (fun ls2 hl2 => kk p e s m args below meth c H locs ls2 F hE hP hD hS (lvL.st hl2 ho))
theorem w_astore_n {k : Fin 4} {i : Nat} {x : Nat} {L2 : List (Option Value)} (hd : decode M.2.1 pc = .ok (.astore_n k, 1)) (hi : (k : Nat) = i) (hn : i < M.2.2.1) (ho : okS L i = true) (h2 : L.set i (some (.ref x)) = L2) (kk : WZ X M R kc nc EX Z (pc + 1) L2 st ws) : WZ X M R kc nc EX Z pc L (.ref x :: st) ws := by
  intro p e s m args below meth c H locs ls F hE hP hD hS hl
  subst h2
  exact lv_astore_n F.1 F.2.1 hd hi hl hn rfl (fun ls2 hl2 => kk p e s m args below meth c H locs ls2 F hE hP hD hS (lvL.st hl2 ho))
theorem w_astore {i : Nat} {x : Nat} {L2 : List (Option Value)} (hd : decode M.2.1 pc = .ok (.astore i, 2)) (hn : i < M.2.2.1) (ho : okS L i = true) (h2 : L.set i (some (.ref x)) = L2) (kk : WZ X M R kc nc EX Z (pc + 2) L2 st ws) : WZ X M R kc nc EX Z pc L (.ref x :: st) ws := by
  intro p e s m args below meth c H locs ls F hE hP hD hS hl
  subst h2
  exact lv_astore F.1 F.2.1 hd hl hn rfl (fun ls2 hl2 => kk p e s m args below meth c H locs ls2 F hE hP hD hS (lvL.st hl2 ho))
theorem w_iinc {i : Nat} {n : Int} {x v : Int32} {L2 : List (Option Value)} (hd : decode M.2.1 pc = .ok (.iinc i n, 3)) (hL : L[i]? = some (some (.int x))) (hv : x + Int32.ofInt n = v) (hn : i < M.2.2.1) (ho : okS L i = true) (h2 : L.set i (some (.int v)) = L2) (kk : WZ X M R kc nc EX Z (pc + 3) L2 st ws) : WZ X M R kc nc EX Z pc L st ws := by
  intro p e s m args below meth c H locs ls F hE hP hD hS hl
  subst h2
  obtain ⟨k, hk⟩ := List.getElem?_of_mem ((lvx_mem L 0 (i, .int x)).mpr ⟨Nat.zero_le _, hL⟩)
  exact lv_iinc F.1 F.2.1 hd hl hk hv hn rfl (fun ls2 hl2 => kk p e s m args below meth c H locs ls2 F hE hP hD hS (lvL.st hl2 ho))
theorem w_iadd {x y : Int32} (hd : decode M.2.1 pc = .ok (.iadd, 1)) (kk : WZ X M R kc nc EX Z (pc + 1) L (.int (x + y) :: st) ws) : WZ X M R kc nc EX Z pc L (.int y :: .int x :: st) ws := by
  intro p e s m args below meth c H locs ls F hE hP hD hS hl
  exact lv_iadd F.1 F.2.1 hd (kk p e s m args below meth c H locs ls F hE hP hD hS hl)
theorem w_isub {x y : Int32} (hd : decode M.2.1 pc = .ok (.isub, 1)) (kk : WZ X M R kc nc EX Z (pc + 1) L (.int (x - y) :: st) ws) : WZ X M R kc nc EX Z pc L (.int y :: .int x :: st) ws := by
  intro p e s m args below meth c H locs ls F hE hP hD hS hl
  exact lv_isub F.1 F.2.1 hd (kk p e s m args below meth c H locs ls F hE hP hD hS hl)
theorem w_imul {x y : Int32} (hd : decode M.2.1 pc = .ok (.imul, 1)) (kk : WZ X M R kc nc EX Z (pc + 1) L (.int (x * y) :: st) ws) : WZ X M R kc nc EX Z pc L (.int y :: .int x :: st) ws := by
  intro p e s m args below meth c H locs ls F hE hP hD hS hl
  exact lv_imul F.1 F.2.1 hd (kk p e s m args below meth c H locs ls F hE hP hD hS hl)
theorem w_iand {x y : Int32} (hd : decode M.2.1 pc = .ok (.iand, 1)) (kk : WZ X M R kc nc EX Z (pc + 1) L (.int (x &&& y) :: st) ws) : WZ X M R kc nc EX Z pc L (.int y :: .int x :: st) ws := by
  intro p e s m args below meth c H locs ls F hE hP hD hS hl
  exact lv_iand F.1 F.2.1 hd (kk p e s m args below meth c H locs ls F hE hP hD hS hl)
theorem w_ior {x y : Int32} (hd : decode M.2.1 pc = .ok (.ior, 1)) (kk : WZ X M R kc nc EX Z (pc + 1) L (.int (x ||| y) :: st) ws) : WZ X M R kc nc EX Z pc L (.int y :: .int x :: st) ws := by
  intro p e s m args below meth c H locs ls F hE hP hD hS hl
  exact lv_ior F.1 F.2.1 hd (kk p e s m args below meth c H locs ls F hE hP hD hS hl)
theorem w_ixor {x y : Int32} (hd : decode M.2.1 pc = .ok (.ixor, 1)) (kk : WZ X M R kc nc EX Z (pc + 1) L (.int (x ^^^ y) :: st) ws) : WZ X M R kc nc EX Z pc L (.int y :: .int x :: st) ws := by
  intro p e s m args below meth c H locs ls F hE hP hD hS hl
  exact lv_ixor F.1 F.2.1 hd (kk p e s m args below meth c H locs ls F hE hP hD hS hl)
theorem w_ishl {x y : Int32} (hd : decode M.2.1 pc = .ok (.ishl, 1)) (kk : WZ X M R kc nc EX Z (pc + 1) L (.int (x <<< (y &&& 31)) :: st) ws) : WZ X M R kc nc EX Z pc L (.int y :: .int x :: st) ws := by
  intro p e s m args below meth c H locs ls F hE hP hD hS hl
  exact lv_ishl F.1 F.2.1 hd (kk p e s m args below meth c H locs ls F hE hP hD hS hl)
theorem w_ishr {x y : Int32} (hd : decode M.2.1 pc = .ok (.ishr, 1)) (kk : WZ X M R kc nc EX Z (pc + 1) L (.int (x >>> (y &&& 31)) :: st) ws) : WZ X M R kc nc EX Z pc L (.int y :: .int x :: st) ws := by
  intro p e s m args below meth c H locs ls F hE hP hD hS hl
  exact lv_ishr F.1 F.2.1 hd (kk p e s m args below meth c H locs ls F hE hP hD hS hl)
theorem w_idiv {x y : Int32} (hd : decode M.2.1 pc = .ok (.idiv, 1)) (hne : ¬ y = 0) (kk : WZ X M R kc nc EX Z (pc + 1) L (.int (x / y) :: st) ws) : WZ X M R kc nc EX Z pc L (.int y :: .int x :: st) ws := by
  intro p e s m args below meth c H locs ls F hE hP hD hS hl
  exact lv_idiv F.1 F.2.1 hd hne (kk p e s m args below meth c H locs ls F hE hP hD hS hl)
theorem w_irem {x y : Int32} (hd : decode M.2.1 pc = .ok (.irem, 1)) (hne : ¬ y = 0) (kk : WZ X M R kc nc EX Z (pc + 1) L (.int (x - x / y * y) :: st) ws) : WZ X M R kc nc EX Z pc L (.int y :: .int x :: st) ws := by
  intro p e s m args below meth c H locs ls F hE hP hD hS hl
  exact lv_irem F.1 F.2.1 hd hne (kk p e s m args below meth c H locs ls F hE hP hD hS hl)
theorem w_iushr {x y : Int32} (hd : decode M.2.1 pc = .ok (.iushr, 1)) (kk : WZ X M R kc nc EX Z (pc + 1) L (.int (x.toUInt32 >>> (y.toUInt32 &&& Int32.toUInt32 31)).toInt32 :: st) ws) : WZ X M R kc nc EX Z pc L (.int y :: .int x :: st) ws := by
  intro p e s m args below meth c H locs ls F hE hP hD hS hl
  exact lv_iushr F.1 F.2.1 hd rfl (kk p e s m args below meth c H locs ls F hE hP hD hS hl)
theorem w_ineg {x : Int32} (hd : decode M.2.1 pc = .ok (.ineg, 1)) (kk : WZ X M R kc nc EX Z (pc + 1) L (.int (-x) :: st) ws) : WZ X M R kc nc EX Z pc L (.int x :: st) ws := by
  intro p e s m args below meth c H locs ls F hE hP hD hS hl
  exact lv_ineg F.1 F.2.1 hd (kk p e s m args below meth c H locs ls F hE hP hD hS hl)
theorem w_i2l {x : Int32} (hd : decode M.2.1 pc = .ok (.i2l, 1)) (kk : WZ X M R kc nc EX Z (pc + 1) L (.long (x.toInt64) :: st) ws) : WZ X M R kc nc EX Z pc L (.int x :: st) ws := by
  intro p e s m args below meth c H locs ls F hE hP hD hS hl
  exact lv_i2l F.1 F.2.1 hd rfl (kk p e s m args below meth c H locs ls F hE hP hD hS hl)
theorem w_l2i {x : Int64} (hd : decode M.2.1 pc = .ok (.l2i, 1)) (kk : WZ X M R kc nc EX Z (pc + 1) L (.int (x.toInt32) :: st) ws) : WZ X M R kc nc EX Z pc L (.long x :: st) ws := by
  intro p e s m args below meth c H locs ls F hE hP hD hS hl
  exact lv_l2i F.1 F.2.1 hd rfl (kk p e s m args below meth c H locs ls F hE hP hD hS hl)
theorem w_i2b {x : Int32} (hd : decode M.2.1 pc = .ok (.i2b, 1)) (kk : WZ X M R kc nc EX Z (pc + 1) L (.int (x.toInt8.toInt32) :: st) ws) : WZ X M R kc nc EX Z pc L (.int x :: st) ws := by
  intro p e s m args below meth c H locs ls F hE hP hD hS hl
  exact lv_i2b F.1 F.2.1 hd rfl (kk p e s m args below meth c H locs ls F hE hP hD hS hl)
theorem w_i2c {x : Int32} (hd : decode M.2.1 pc = .ok (.i2c, 1)) (kk : WZ X M R kc nc EX Z (pc + 1) L (.int ((x.toUInt32 % 65536).toInt32) :: st) ws) : WZ X M R kc nc EX Z pc L (.int x :: st) ws := by
  intro p e s m args below meth c H locs ls F hE hP hD hS hl
  exact lv_i2c F.1 F.2.1 hd rfl (kk p e s m args below meth c H locs ls F hE hP hD hS hl)
theorem w_ladd {x y : Int64} (hd : decode M.2.1 pc = .ok (.ladd, 1)) (kk : WZ X M R kc nc EX Z (pc + 1) L (.long (x + y) :: st) ws) : WZ X M R kc nc EX Z pc L (.long y :: .long x :: st) ws := by
  intro p e s m args below meth c H locs ls F hE hP hD hS hl
  exact lv_ladd F.1 F.2.1 hd (kk p e s m args below meth c H locs ls F hE hP hD hS hl)
theorem w_lsub {x y : Int64} (hd : decode M.2.1 pc = .ok (.lsub, 1)) (kk : WZ X M R kc nc EX Z (pc + 1) L (.long (x - y) :: st) ws) : WZ X M R kc nc EX Z pc L (.long y :: .long x :: st) ws := by
  intro p e s m args below meth c H locs ls F hE hP hD hS hl
  exact lv_lsub F.1 F.2.1 hd (kk p e s m args below meth c H locs ls F hE hP hD hS hl)
theorem w_lmul {x y : Int64} (hd : decode M.2.1 pc = .ok (.lmul, 1)) (kk : WZ X M R kc nc EX Z (pc + 1) L (.long (x * y) :: st) ws) : WZ X M R kc nc EX Z pc L (.long y :: .long x :: st) ws := by
  intro p e s m args below meth c H locs ls F hE hP hD hS hl
  exact lv_lmul F.1 F.2.1 hd (kk p e s m args below meth c H locs ls F hE hP hD hS hl)
theorem w_ldiv {x y : Int64} (hd : decode M.2.1 pc = .ok (.ldiv, 1)) (hne : ¬ y = 0) (kk : WZ X M R kc nc EX Z (pc + 1) L (.long (x / y) :: st) ws) : WZ X M R kc nc EX Z pc L (.long y :: .long x :: st) ws := by
  intro p e s m args below meth c H locs ls F hE hP hD hS hl
  exact lv_ldiv F.1 F.2.1 hd hne (kk p e s m args below meth c H locs ls F hE hP hD hS hl)
theorem w_lcmp {x y : Int64} (hd : decode M.2.1 pc = .ok (.lcmp, 1)) (kk : WZ X M R kc nc EX Z (pc + 1) L (.int (lg_cmp x y) :: st) ws) : WZ X M R kc nc EX Z pc L (.long y :: .long x :: st) ws := by
  intro p e s m args below meth c H locs ls F hE hP hD hS hl
  exact W.lcmp F.1 F.2.1 hd (kk p e s m args below meth c H locs ls F hE hP hD hS hl)
theorem w_dup {v : Value} (hd : decode M.2.1 pc = .ok (.dup, 1)) (hv : v.category = 1) (kk : WZ X M R kc nc EX Z (pc + 1) L (v :: v :: st) ws) : WZ X M R kc nc EX Z pc L (v :: st) ws := by
  intro p e s m args below meth c H locs ls F hE hP hD hS hl
  exact lv_dup F.1 F.2.1 hd hv (kk p e s m args below meth c H locs ls F hE hP hD hS hl)
theorem w_pop {v : Value} (hd : decode M.2.1 pc = .ok (.pop, 1)) (hv : v.category = 1) (kk : WZ X M R kc nc EX Z (pc + 1) L st ws) : WZ X M R kc nc EX Z pc L (v :: st) ws := by
  intro p e s m args below meth c H locs ls F hE hP hD hS hl
  exact lv_pop F.1 F.2.1 hd hv (kk p e s m args below meth c H locs ls F hE hP hD hS hl)
theorem w_goto {off : Int} {tgt : Nat} (hd : decode M.2.1 pc = .ok (.goto off, 3)) (ht : (pc : Int) + off = (tgt : Int)) (kk : WZ X M R kc nc EX Z tgt L st ws) : WZ X M R kc nc EX Z pc L st ws := by
  intro p e s m args below meth c H locs ls F hE hP hD hS hl
  exact lv_goto F.1 F.2.1 hd ht (kk p e s m args below meth c H locs ls F hE hP hD hS hl)
theorem w_aload_nN {k : Fin 4} {i : Nat} (hd : decode M.2.1 pc = .ok (.aload_n k, 1)) (hi : (k : Nat) = i) (hL : L[i]? = some (some .null)) (kk : WZ X M R kc nc EX Z (pc + 1) L (.null :: st) ws) : WZ X M R kc nc EX Z pc L st ws := by
  intro p e s m args below meth c H locs ls F hE hP hD hS hl
  exact lv_aload_nN F.1 F.2.1 hd hi (hl.at hL) (kk p e s m args below meth c H locs ls F hE hP hD hS hl)
theorem w_aloadN {i : Nat} (hd : decode M.2.1 pc = .ok (.aload i, 2)) (hL : L[i]? = some (some .null)) (kk : WZ X M R kc nc EX Z (pc + 2) L (.null :: st) ws) : WZ X M R kc nc EX Z pc L st ws := by
  intro p e s m args below meth c H locs ls F hE hP hD hS hl
  exact lv_aloadN F.1 F.2.1 hd (hl.at hL) (kk p e s m args below meth c H locs ls F hE hP hD hS hl)
theorem w_dup2 {va vb : Value} (hd : decode M.2.1 pc = .ok (.dup2, 1)) (hva : va.category = 1) (hvb : vb.category = 1) (kk : WZ X M R kc nc EX Z (pc + 1) L (va :: vb :: va :: vb :: st) ws) : WZ X M R kc nc EX Z pc L (va :: vb :: st) ws := by
  intro p e s m args below meth c H locs ls F hE hP hD hS hl
  exact lv_dup2_11 F.1 F.2.1 hd hva hvb (kk p e s m args below meth c H locs ls F hE hP hD hS hl)
theorem w_null  (hd : decode M.2.1 pc = .ok (.aconst_null, 1)) (kk : WZ X M R kc nc EX Z (pc + 1) L (.null :: st) ws) : WZ X M R kc nc EX Z pc L st ws := by
  intro p e s m args below meth c H locs ls F hE hP hD hS hl
  exact lv_null F.1 F.2.1 hd (kk p e s m args below meth c H locs ls F hE hP hD hS hl)
theorem w_ifnonnull {x : Nat} {off : Int} {tgt : Nat} (hd : decode M.2.1 pc = .ok (.ifnonnull off, 3)) (ht : (pc : Int) + off = (tgt : Int)) (kk : WZ X M R kc nc EX Z tgt L st ws) : WZ X M R kc nc EX Z pc L (.ref x :: st) ws := by
  intro p e s m args below meth c H locs ls F hE hP hD hS hl
  exact lv_ifnonnull F.1 F.2.1 hd ht (kk p e s m args below meth c H locs ls F hE hP hD hS hl)
theorem w_ifnonnullN {off : Int} (hd : decode M.2.1 pc = .ok (.ifnonnull off, 3)) (kk : WZ X M R kc nc EX Z (pc + 3) L st ws) : WZ X M R kc nc EX Z pc L (.null :: st) ws := by
  intro p e s m args below meth c H locs ls F hE hP hD hS hl
  exact lv_ifnonnullN F.1 F.2.1 hd (kk p e s m args below meth c H locs ls F hE hP hD hS hl)
theorem w_tsOut {dflt lo hi : Int} {offs : Array Int} {len : Nat} {x : Int32} {tgt : Nat} (hd : decode M.2.1 pc = .ok (.tableswitch dflt lo hi offs, len)) (h : x.toInt < lo ∨ hi < x.toInt) (ht : (pc : Int) + dflt = (tgt : Int)) (kk : WZ X M R kc nc EX Z tgt L st ws) : WZ X M R kc nc EX Z pc L (.int x :: st) ws := by
  intro p e s m args below meth c H locs ls F hE hP hD hS hl
  exact lv_tableOut F.1 F.2.1 hd h ht (kk p e s m args below meth c H locs ls F hE hP hD hS hl)
theorem w_tsIn {dflt lo hi : Int} {offs : Array Int} {len : Nat} {x : Int32} {off : Int} {tgt : Nat} (hd : decode M.2.1 pc = .ok (.tableswitch dflt lo hi offs, len)) (h1 : ¬ x.toInt < lo) (h2 : ¬ hi < x.toInt) (ho : offs[(x.toInt - lo).toNat]? = some off) (ht : (pc : Int) + off = (tgt : Int)) (kk : WZ X M R kc nc EX Z tgt L st ws) : WZ X M R kc nc EX Z pc L (.int x :: st) ws := by
  intro p e s m args below meth c H locs ls F hE hP hD hS hl
  exact lv_tableIn F.1 F.2.1 hd h1 h2 ho ht (kk p e s m args below meth c H locs ls F hE hP hD hS hl)
theorem w_ls {dflt : Int} {ps : Array (Int × Int)} {len : Nat} {x : Int32} {off : Int} {tgt : Nat} (hd : decode M.2.1 pc = .ok (.lookupswitch dflt ps, len)) (hp : (ps.toList.zip (ps.toList.drop 1)).all (fun (a, next) => a.1 < next.1) = true) (ho : Op.lookupswitch.offset ps.toList dflt x.toInt = off) (ht : (pc : Int) + off = (tgt : Int)) (kk : WZ X M R kc nc EX Z tgt L st ws) : WZ X M R kc nc EX Z pc L (.int x :: st) ws := by
  intro p e s m args below meth c H locs ls F hE hP hD hS hl
  exact lv_lookup F.1 F.2.1 hd hp ho ht (kk p e s m args below meth c H locs ls F hE hP hD hS hl)
theorem w_if_eq {x : Int32} {off : Int} {tgt : Nat} (hd : decode M.2.1 pc = .ok (.ifCond .eq off, 3)) (ht : (pc : Int) + off = (tgt : Int)) (kk : (x = 0 → WZ X M R kc nc EX Z tgt L st ws) ∧ (¬ x = 0 → WZ X M R kc nc EX Z (pc + 3) L st ws)) : WZ X M R kc nc EX Z pc L (.int x :: st) ws := by
  intro p e s m args below meth c H locs ls F hE hP hD hS hl
  exact lv_if_eq F.1 F.2.1 hd ht (fun h => (kk.1 h) p e s m args below meth c H locs ls F hE hP hD hS hl) (fun h => (kk.2 h) p e s m args below meth c H locs ls F hE hP hD hS hl)
theorem w_if_ne {x : Int32} {off : Int} {tgt : Nat} (hd : decode M.2.1 pc = .ok (.ifCond .ne off, 3)) (ht : (pc : Int) + off = (tgt : Int)) (kk : (¬ x = 0 → WZ X M R kc nc EX Z tgt L st ws) ∧ (x = 0 → WZ X M R kc nc EX Z (pc + 3) L st ws)) : WZ X M R kc nc EX Z pc L (.int x :: st) ws := by
  intro p e s m args below meth c H locs ls F hE hP hD hS hl
  exact lv_if_ne F.1 F.2.1 hd ht (fun h => (kk.1 h) p e s m args below meth c H locs ls F hE hP hD hS hl) (fun h => (kk.2 h) p e s m args below meth c H locs ls F hE hP hD hS hl)
theorem w_if_lt {x : Int32} {off : Int} {tgt : Nat} (hd : decode M.2.1 pc = .ok (.ifCond .lt off, 3)) (ht : (pc : Int) + off = (tgt : Int)) (kk : (x < 0 → WZ X M R kc nc EX Z tgt L st ws) ∧ (¬ x < 0 → WZ X M R kc nc EX Z (pc + 3) L st ws)) : WZ X M R kc nc EX Z pc L (.int x :: st) ws := by
  intro p e s m args below meth c H locs ls F hE hP hD hS hl
  exact lv_if_lt F.1 F.2.1 hd ht (fun h => (kk.1 h) p e s m args below meth c H locs ls F hE hP hD hS hl) (fun h => (kk.2 h) p e s m args below meth c H locs ls F hE hP hD hS hl)
theorem w_if_ge {x : Int32} {off : Int} {tgt : Nat} (hd : decode M.2.1 pc = .ok (.ifCond .ge off, 3)) (ht : (pc : Int) + off = (tgt : Int)) (kk : (0 ≤ x → WZ X M R kc nc EX Z tgt L st ws) ∧ (¬ 0 ≤ x → WZ X M R kc nc EX Z (pc + 3) L st ws)) : WZ X M R kc nc EX Z pc L (.int x :: st) ws := by
  intro p e s m args below meth c H locs ls F hE hP hD hS hl
  exact lv_if_ge F.1 F.2.1 hd ht (fun h => (kk.1 h) p e s m args below meth c H locs ls F hE hP hD hS hl) (fun h => (kk.2 h) p e s m args below meth c H locs ls F hE hP hD hS hl)
theorem w_if_gt {x : Int32} {off : Int} {tgt : Nat} (hd : decode M.2.1 pc = .ok (.ifCond .gt off, 3)) (ht : (pc : Int) + off = (tgt : Int)) (kk : (0 < x → WZ X M R kc nc EX Z tgt L st ws) ∧ (¬ 0 < x → WZ X M R kc nc EX Z (pc + 3) L st ws)) : WZ X M R kc nc EX Z pc L (.int x :: st) ws := by
  intro p e s m args below meth c H locs ls F hE hP hD hS hl
  exact lv_if_gt F.1 F.2.1 hd ht (fun h => (kk.1 h) p e s m args below meth c H locs ls F hE hP hD hS hl) (fun h => (kk.2 h) p e s m args below meth c H locs ls F hE hP hD hS hl)
theorem w_if_le {x : Int32} {off : Int} {tgt : Nat} (hd : decode M.2.1 pc = .ok (.ifCond .le off, 3)) (ht : (pc : Int) + off = (tgt : Int)) (kk : (x ≤ 0 → WZ X M R kc nc EX Z tgt L st ws) ∧ (¬ x ≤ 0 → WZ X M R kc nc EX Z (pc + 3) L st ws)) : WZ X M R kc nc EX Z pc L (.int x :: st) ws := by
  intro p e s m args below meth c H locs ls F hE hP hD hS hl
  exact lv_if_le F.1 F.2.1 hd ht (fun h => (kk.1 h) p e s m args below meth c H locs ls F hE hP hD hS hl) (fun h => (kk.2 h) p e s m args below meth c H locs ls F hE hP hD hS hl)
theorem w_icmp_eq {x y : Int32} {off : Int} {tgt : Nat} (hd : decode M.2.1 pc = .ok (.if_icmp .eq off, 3)) (ht : (pc : Int) + off = (tgt : Int)) (kk : (x = y → WZ X M R kc nc EX Z tgt L st ws) ∧ (¬ x = y → WZ X M R kc nc EX Z (pc + 3) L st ws)) : WZ X M R kc nc EX Z pc L (.int y :: .int x :: st) ws := by
  intro p e s m args below meth c H locs ls F hE hP hD hS hl
  exact lv_icmp_eq F.1 F.2.1 hd ht (fun h => (kk.1 h) p e s m args below meth c H locs ls F hE hP hD hS hl) (fun h => (kk.2 h) p e s m args below meth c H locs ls F hE hP hD hS hl)
theorem w_icmp_ne {x y : Int32} {off : Int} {tgt : Nat} (hd : decode M.2.1 pc = .ok (.if_icmp .ne off, 3)) (ht : (pc : Int) + off = (tgt : Int)) (kk : (¬ x = y → WZ X M R kc nc EX Z tgt L st ws) ∧ (x = y → WZ X M R kc nc EX Z (pc + 3) L st ws)) : WZ X M R kc nc EX Z pc L (.int y :: .int x :: st) ws := by
  intro p e s m args below meth c H locs ls F hE hP hD hS hl
  exact lv_icmp_ne F.1 F.2.1 hd ht (fun h => (kk.1 h) p e s m args below meth c H locs ls F hE hP hD hS hl) (fun h => (kk.2 h) p e s m args below meth c H locs ls F hE hP hD hS hl)
theorem w_icmp_lt {x y : Int32} {off : Int} {tgt : Nat} (hd : decode M.2.1 pc = .ok (.if_icmp .lt off, 3)) (ht : (pc : Int) + off = (tgt : Int)) (kk : (x < y → WZ X M R kc nc EX Z tgt L st ws) ∧ (¬ x < y → WZ X M R kc nc EX Z (pc + 3) L st ws)) : WZ X M R kc nc EX Z pc L (.int y :: .int x :: st) ws := by
  intro p e s m args below meth c H locs ls F hE hP hD hS hl
  exact lv_icmp_lt F.1 F.2.1 hd ht (fun h => (kk.1 h) p e s m args below meth c H locs ls F hE hP hD hS hl) (fun h => (kk.2 h) p e s m args below meth c H locs ls F hE hP hD hS hl)
theorem w_icmp_ge {x y : Int32} {off : Int} {tgt : Nat} (hd : decode M.2.1 pc = .ok (.if_icmp .ge off, 3)) (ht : (pc : Int) + off = (tgt : Int)) (kk : (y ≤ x → WZ X M R kc nc EX Z tgt L st ws) ∧ (¬ y ≤ x → WZ X M R kc nc EX Z (pc + 3) L st ws)) : WZ X M R kc nc EX Z pc L (.int y :: .int x :: st) ws := by
  intro p e s m args below meth c H locs ls F hE hP hD hS hl
  exact lv_icmp_ge F.1 F.2.1 hd ht (fun h => (kk.1 h) p e s m args below meth c H locs ls F hE hP hD hS hl) (fun h => (kk.2 h) p e s m args below meth c H locs ls F hE hP hD hS hl)
theorem w_icmp_gt {x y : Int32} {off : Int} {tgt : Nat} (hd : decode M.2.1 pc = .ok (.if_icmp .gt off, 3)) (ht : (pc : Int) + off = (tgt : Int)) (kk : (y < x → WZ X M R kc nc EX Z tgt L st ws) ∧ (¬ y < x → WZ X M R kc nc EX Z (pc + 3) L st ws)) : WZ X M R kc nc EX Z pc L (.int y :: .int x :: st) ws := by
  intro p e s m args below meth c H locs ls F hE hP hD hS hl
  exact lv_icmp_gt F.1 F.2.1 hd ht (fun h => (kk.1 h) p e s m args below meth c H locs ls F hE hP hD hS hl) (fun h => (kk.2 h) p e s m args below meth c H locs ls F hE hP hD hS hl)
theorem w_icmp_le {x y : Int32} {off : Int} {tgt : Nat} (hd : decode M.2.1 pc = .ok (.if_icmp .le off, 3)) (ht : (pc : Int) + off = (tgt : Int)) (kk : (x ≤ y → WZ X M R kc nc EX Z tgt L st ws) ∧ (¬ x ≤ y → WZ X M R kc nc EX Z (pc + 3) L st ws)) : WZ X M R kc nc EX Z pc L (.int y :: .int x :: st) ws := by
  intro p e s m args below meth c H locs ls F hE hP hD hS hl
  exact lv_icmp_le F.1 F.2.1 hd ht (fun h => (kk.1 h) p e s m args below meth c H locs ls F hE hP hD hS hl) (fun h => (kk.2 h) p e s m args below meth c H locs ls F hE hP hD hS hl)
end RulesL
end
section
/-! THE PURE PICTURE: values as whole numbers, cells by number; J: what follows out of a result that a function gives -/
abbrev PV : Type := Int ⊕ Option Nat
abbrev Sg : Type := Nat → Int → Int32
abbrev Sk : Type := (Nat × List (Option (Option Nat))) ⊕ (Nat × Nat)
abbrev PS : Type := Nat × List (Option PV) × List PV × Sg
abbrev PG : Type := List (Instr × Nat × Nat)
def bw (z : Int) : Int := z.bmod 4294967296
def rd (σ : Sg) (c : Nat) (i : Int) : Int := (σ c i).toInt
def wr (σ : Sg) (c : Nat) (i z : Int) : Sg := fun c' i' => if c' = c ∧ i' = i then Int32.ofInt z else σ c' i'
def band (x y : Int) : Int := (Int32.ofInt x &&& Int32.ofInt y).toInt
def bor (x y : Int) : Int := (Int32.ofInt x ||| Int32.ofInt y).toInt
def bxor (x y : Int) : Int := (Int32.ofInt x ^^^ Int32.ofInt y).toInt
def bshl (x y : Int) : Int := (Int32.ofInt x <<< (Int32.ofInt y &&& 31)).toInt
def bshr (x y : Int) : Int := (Int32.ofInt x >>> (Int32.ofInt y &&& 31)).toInt
def bushr (x y : Int) : Int := ((Int32.ofInt x).toUInt32 >>> ((Int32.ofInt y).toUInt32 &&& Int32.toUInt32 31)).toInt32.toInt
def i2b (x : Int) : Int := ((Int32.ofInt x).toInt8.toInt32).toInt
def i2c (x : Int) : Int := (((Int32.ofInt x).toUInt32 % 65536).toInt32).toInt
def tdv (x y : Int) : Int := (Int32.ofInt x / Int32.ofInt y).toInt
def trm (x y : Int) : Int := (Int32.ofInt x - Int32.ofInt x / Int32.ofInt y * Int32.ofInt y).toInt
def grd {α : Type} (c : Prop) [Decidable c] (r : Option α) : Option α := if c then r else none
theorem bw_eq (z : Int) : bw z = (Int32.ofInt z).toInt := by rw [Int32.toInt_ofInt]; rfl
theorem ofI_bw (z : Int) : Int32.ofInt (bw z) = Int32.ofInt z := by rw [bw_eq, Int32.ofInt_toInt]
theorem bw_toInt (x : Int32) : bw x.toInt = x.toInt := by rw [bw_eq, Int32.ofInt_toInt]
theorem bw_bw (z : Int) : bw (bw z) = bw z := by rw [bw_eq (bw z), ofI_bw, bw_eq]
theorem bw_id {z : Int} (h1 : -2147483648 ≤ z) (h2 : z < 2147483648) : bw z = z := by
  unfold bw
  rw [Int.bmod_eq_of_le] <;> omega
theorem bw_range (z : Int) : -2147483648 ≤ bw z ∧ bw z < 2147483648 := by
  unfold bw
  have h1 := Int.le_bmod (x := z) (m := 4294967296) (by decide)
  have h2 := Int.bmod_lt (x := z) (m := 4294967296) (by decide)
  constructor <;> omega
theorem bw_of {z : Int} (h : bw z = z) : -2147483648 ≤ z ∧ z < 2147483648 := by rw [← h]; exact bw_range z
theorem ofI_eq0 {z : Int} (h : bw z = z) : Int32.ofInt z = 0 ↔ z = 0 := by
  constructor
  · intro q
    have := congrArg Int32.toInt q
    rw [← bw_eq, h] at this
    exact this
  · rintro rfl; rfl
theorem ofI_toInt {z : Int} (h : bw z = z) : (Int32.ofInt z).toInt = z := by rw [← bw_eq, h]
theorem ofI_inj {x y : Int} (hx : bw x = x) (hy : bw y = y) : Int32.ofInt x = Int32.ofInt y ↔ x = y := by
  constructor
  · intro q
    have := congrArg Int32.toInt q
    rwa [ofI_toInt hx, ofI_toInt hy] at this
  · rintro rfl; rfl
theorem ofI_lt {x y : Int} (hx : bw x = x) (hy : bw y = y) : Int32.ofInt x < Int32.ofInt y ↔ x < y := by
  rw [Int32.lt_iff_toInt_lt, ofI_toInt hx, ofI_toInt hy]
theorem ofI_le {x y : Int} (hx : bw x = x) (hy : bw y = y) : Int32.ofInt x ≤ Int32.ofInt y ↔ x ≤ y := by
  rw [Int32.le_iff_toInt_le, ofI_toInt hx, ofI_toInt hy]
theorem rd_bw (σ : Sg) (c : Nat) (i : Int) : bw (rd σ c i) = rd σ c i := bw_toInt _
theorem rd_wr (σ : Sg) (c : Nat) (i z : Int) (c' : Nat) (i' : Int) : rd (wr σ c i z) c' i' = if c' = c ∧ i' = i then bw z else rd σ c' i' := by
  unfold rd wr
  split
  · rw [bw_eq]
  · rfl
theorem sg_ext {σ τ : Sg} (h : ∀ c i, rd σ c i = rd τ c i) : σ = τ := by
  funext c i
  have := h c i
  unfold rd at this
  exact Int32.toInt_inj.mp this
end
section
/-! what a run of simple instructions does to locals and stack -/
def ldL (L : List (Option PV)) (i : Nat) : Option PV := match L[i]? with
  | some (some v) => some v
  | _ => none
def lenI : Instr → Nat
  | .bipush _ => 2
  | .iload _ => 2
  | .istore _ => 2
  | .aload _ => 2
  | .astore _ => 2
  | .lload _ => 2
  | .lstore _ => 2
  | .ldc _ => 2
  | .newarray _ => 2
  | .sipush _ => 3
  | .iinc _ _ => 3
  | .ifCond _ _ => 3
  | .if_icmp _ _ => 3
  | .goto _ => 3
  | .getfield _ => 3
  | .putfield _ => 3
  | .invokevirtual _ => 3
  | .invokespecial _ => 3
  | .invokestatic _ => 3
  | .new _ => 3
  | .ldc_w _ => 3
  | .ldc2_w _ => 3
  | .ifnull _ => 3
  | .ifnonnull _ => 3
  | .tableswitch _ _ _ _ => 0
  | .lookupswitch _ _ => 0
  | _ => 1
def okP (code : ByteArray) (P : PG) : Bool := P.all (fun q => decide (decode code q.2.1 = .ok (q.1, if lenI q.1 = 0 then q.2.2 - q.2.1 else lenI q.1)) && (lenI q.1 == 0 || q.2.2 == q.2.1 + lenI q.1))
theorem okP_get {code : ByteArray} {P : PG} {n : Nat} {i : Instr} {pc pc2 : Nat} (h : okP code P = true) (hn : P[n]? = some (i, pc, pc2)) (hl : lenI i ≠ 0) : decode code pc = .ok (i, lenI i) ∧ pc2 = pc + lenI i := by
  have h1 := List.all_eq_true.mp h _ (List.mem_of_getElem? hn)
  simp only [Bool.and_eq_true, decide_eq_true_eq, Bool.or_eq_true, beq_iff_eq] at h1
  obtain ⟨h1, h2⟩ := h1
  rw [if_neg hl] at h1
  exact ⟨h1, h2.resolve_left hl⟩
theorem okP_sw {code : ByteArray} {P : PG} {n : Nat} {i : Instr} {pc pc2 : Nat} (h : okP code P = true) (hn : P[n]? = some (i, pc, pc2)) (hl : lenI i = 0) : decode code pc = .ok (i, pc2 - pc) := by
  have h1 := List.all_eq_true.mp h _ (List.mem_of_getElem? hn)
  simp only [Bool.and_eq_true, decide_eq_true_eq] at h1
  rw [if_pos hl] at h1
  exact h1.1
def rgN (n : Int) (b : Int) : Bool := decide (-b ≤ n) && decide (n < b)
def ssL (L : List (Option PV)) (st : List PV) (i : Nat) (r : Bool) : Option (List (Option PV) × List PV) := match ldL L i with
  | some (.inl z) => if r then none else some (L, .inl z :: st)
  | some (.inr c) => if r then some (L, .inr c :: st) else none
  | none => none
def ssS (L : List (Option PV)) (st : List PV) (i : Nat) (r : Bool) : Option (List (Option PV) × List PV) := match st with
  | .inl z :: t => if r then none else if Nat.blt i L.length then some (L.set i (some (.inl z)), t) else none
  | .inr (some c) :: t => if r then (if Nat.blt i L.length then some (L.set i (some (.inr (some c))), t) else none) else none
  | _ => none
def ss2 (L : List (Option PV)) (st : List PV) (f : Int → Int → Int) : Option (List (Option PV) × List PV) := match st with
  | .inl y :: .inl x :: t => some (L, .inl (f x y) :: t)
  | _ => none
def ss1 (L : List (Option PV)) (st : List PV) (f : Int → Int) : Option (List (Option PV) × List PV) := match st with
  | .inl x :: t => some (L, .inl (f x) :: t)
  | _ => none
/-- a simple instruction; ct: the whole numbers in the class's own table -/
def sstep (ct : Nat → Option Int) (i : Instr) (L : List (Option PV)) (st : List PV) : Option (List (Option PV) × List PV) := match i with
  | .iconst n => if rgN n 10 then some (L, .inl n :: st) else none
  | .bipush n => if rgN n 128 then some (L, .inl n :: st) else none
  | .sipush n => if rgN n 32768 then some (L, .inl n :: st) else none
  | .ldc j => match ct j with
    | some n => some (L, .inl n :: st)
    | none => none
  | .ldc_w j => match ct j with
    | some n => some (L, .inl n :: st)
    | none => none
  | .iload_n k => ssL L st k false
  | .iload k => ssL L st k false
  | .aload_n k => ssL L st k true
  | .aload k => ssL L st k true
  | .istore_n k => ssS L st k false
  | .istore k => ssS L st k false
  | .astore_n k => ssS L st k true
  | .astore k => ssS L st k true
  | .iinc k n => match ldL L k with
    | some (.inl z) => if Nat.blt k L.length then some (L.set k (some (.inl (bw (z + n)))), st) else none
    | _ => none
  | .iadd => ss2 L st (fun x y => bw (x + y))
  | .isub => ss2 L st (fun x y => bw (x - y))
  | .imul => ss2 L st (fun x y => bw (x * y))
  | .iand => ss2 L st band
  | .ior => ss2 L st bor
  | .ixor => ss2 L st bxor
  | .ishl => ss2 L st bshl
  | .ishr => ss2 L st bshr
  | .iushr => ss2 L st bushr
  | .ineg => ss1 L st (fun x => bw (-x))
  | .i2b => ss1 L st i2b
  | .i2c => ss1 L st i2c
  | .dup => match st with
    | v :: t => some (L, v :: v :: t)
    | _ => none
  | .dup2 => match st with
    | v :: w :: t => some (L, v :: w :: v :: w :: t)
    | _ => none
  | .pop => match st with
    | _ :: t => some (L, t)
    | _ => none
  | .aconst_null => some (L, .inr none :: st)
  | _ => none
def ea (X : Cx) (ads : List Nat) (c : Nat) : Nat := if c < 1000 then ads.getD c 0 else X.2.2.2.2.1 (c - 1000)
def em (X : Cx) (ads : List Nat) : PV → Value
  | .inl z => .int (Int32.ofInt z)
  | .inr none => .null
  | .inr (some c) => .ref (ea X ads c)
def emL (X : Cx) (ads : List Nat) (L : List (Option PV)) : List (Option Value) := L.map (fun v => v.map (em X ads))
def emS (X : Cx) (ads : List Nat) (st : List PV) : List Value := st.map (em X ads)
def nrV : PV → Prop
  | .inl z => bw z = z
  | .inr _ => True
def nrL (L : List (Option PV)) : Prop := ∀ (i : Nat) (v : PV), L[i]? = some (some v) → nrV v
def nrS (st : List PV) : Prop := ∀ v ∈ st, nrV v
theorem em_cat (X : Cx) (ads : List Nat) (v : PV) : (em X ads v).category = 1 := by
  match v with
  | .inl z => rfl
  | .inr none => rfl
  | .inr (some c) => rfl
theorem ldL_get {L : List (Option PV)} {i : Nat} {v : PV} (h : ldL L i = some v) : L[i]? = some (some v) := by
  unfold ldL at h
  split at h
  · next w hw => cases h; exact hw
  · cases h
theorem emL_get {X : Cx} {ads : List Nat} {L : List (Option PV)} {i : Nat} {v : PV} (h : ldL L i = some v) : (emL X ads L)[i]? = some (some (em X ads v)) := by
  rw [emL, List.getElem?_map, ldL_get h]; rfl
theorem okS_em (X : Cx) (ads : List Nat) (L : List (Option PV)) (i : Nat) : okS (emL X ads L) i = true := by
  cases i with
  | zero => rfl
  | succ i =>
    unfold okS
    simp only [List.getD_eq_getElem?_getD, emL, List.getElem?_map]
    cases L[i]? with
    | none => rfl
    | some w =>
      cases w with
      | none => rfl
      | some v => simp [em_cat]
theorem emL_set (X : Cx) (ads : List Nat) (L : List (Option PV)) (i : Nat) (v : PV) : (emL X ads L).set i (some (em X ads v)) = emL X ads (L.set i (some v)) := by
  simp [emL, List.map_set]
theorem nrL_set {L : List (Option PV)} {i : Nat} {v : PV} (h : nrL L) (hv : nrV v) : nrL (L.set i (some v)) := by
  intro j w hw
  rw [List.getElem?_set] at hw
  split at hw
  · split at hw
    · cases hw; exact hv
    · cases hw
  · exact h j w hw
theorem nrS_cons {st : List PV} {v : PV} (hv : nrV v) (h : nrS st) : nrS (v :: st) := List.forall_mem_cons.mpr ⟨hv, h⟩
theorem nrS_tail {st : List PV} {v : PV} (h : nrS (v :: st)) : nrS st := (List.forall_mem_cons.mp h).2
theorem nrS_head {st : List PV} {v : PV} (h : nrS (v :: st)) : nrV v := (List.forall_mem_cons.mp h).1
theorem rgN_of {n b : Int} (h : rgN n b = true) : -b ≤ n ∧ n < b := by
  simpa [rgN, Bool.and_eq_true, decide_eq_true_eq] using h
end
section
/-! simple instructions are done right -/
theorem ssL_i {L L2 : List (Option PV)} {st st2 : List PV} {i : Nat} (h : ssL L st i false = some (L2, st2)) : ∃ z, ldL L i = some (.inl z) ∧ L2 = L ∧ st2 = .inl z :: st := by
  unfold ssL at h
  split at h
  · next z hz => simp at h; exact ⟨z, hz, h.1.symm, h.2.symm⟩
  · simp at h
  · simp at h
theorem ssL_a {L L2 : List (Option PV)} {st st2 : List PV} {i : Nat} (h : ssL L st i true = some (L2, st2)) : ∃ z, ldL L i = some (.inr z) ∧ L2 = L ∧ st2 = .inr z :: st := by
  unfold ssL at h
  split at h
  · simp at h
  · next z hz => simp at h; exact ⟨z, hz, h.1.symm, h.2.symm⟩
  · simp at h
theorem ssS_i {L L2 : List (Option PV)} {st st2 : List PV} {i : Nat} (h : ssS L st i false = some (L2, st2)) : ∃ z, st = .inl z :: st2 ∧ i < L.length ∧ L2 = L.set i (some (.inl z)) := by
  unfold ssS at h
  split at h
  · next z t =>
    simp only [Bool.false_eq_true, if_false] at h
    split at h
    · next hb => cases h; exact ⟨z, rfl, Nat.le_of_ble_eq_true hb, rfl⟩
    · cases h
  · simp at h
  · cases h
theorem ssS_a {L L2 : List (Option PV)} {st st2 : List PV} {i : Nat} (h : ssS L st i true = some (L2, st2)) : ∃ z, st = .inr (some z) :: st2 ∧ i < L.length ∧ L2 = L.set i (some (.inr (some z))) := by
  unfold ssS at h
  split at h
  · simp at h
  · next z t =>
    simp only [if_true] at h
    split at h
    · next hb => cases h; exact ⟨z, rfl, Nat.le_of_ble_eq_true hb, rfl⟩
    · cases h
  · cases h
theorem ss2_of {L L2 : List (Option PV)} {st st2 : List PV} {f : Int → Int → Int} (h : ss2 L st f = some (L2, st2)) : ∃ x y t, st = .inl y :: .inl x :: t ∧ L2 = L ∧ st2 = .inl (f x y) :: t := by
  unfold ss2 at h
  split at h
  · next y x t => cases h; exact ⟨x, y, t, rfl, rfl, rfl⟩
  · cases h
theorem ss1_of {L L2 : List (Option PV)} {st st2 : List PV} {f : Int → Int} (h : ss1 L st f = some (L2, st2)) : ∃ x t, st = .inl x :: t ∧ L2 = L ∧ st2 = .inl (f x) :: t := by
  unfold ss1 at h
  split at h
  · next x t => cases h; exact ⟨x, t, rfl, rfl, rfl⟩
  · cases h
theorem ldL_nr {L : List (Option PV)} {i : Nat} {v : PV} (hL : nrL L) (h : ldL L i = some v) : nrV v := hL i v (ldL_get h)
theorem i8_of {n : Int} (h : rgN n 128 = true) : (Int8.ofInt n).toInt32 = Int32.ofInt n := by
  obtain ⟨h1, h2⟩ := rgN_of h
  apply Int32.toInt_inj.mp
  rw [Int8.toInt_toInt32, Int8.toInt_ofInt, ← bw_eq, bw_id (by omega) (by omega), show Int8.size = 256 from rfl, Int.bmod_eq_of_le] <;> omega
theorem i16_of {n : Int} (h : rgN n 32768 = true) : (Int16.ofInt n).toInt32 = Int32.ofInt n := by
  obtain ⟨h1, h2⟩ := rgN_of h
  apply Int32.toInt_inj.mp
  rw [Int16.toInt_toInt32, Int16.toInt_ofInt, ← bw_eq, bw_id (by omega) (by omega), show Int16.size = 65536 from rfl, Int.bmod_eq_of_le] <;> omega
theorem nr_small {n b : Int} (h : rgN n b = true) (hb : b ≤ 32768) : bw n = n := by
  obtain ⟨h1, h2⟩ := rgN_of h
  exact bw_id (by omega) (by omega)
def ctOK (own : String) (ct : Nat → Option Int) : Prop := ∀ j v, ct j = some v → bw v = v ∧ Cond.constant own j (Int32.ofInt v) ∈ TW
section Sound
variable {X : Cx} {M : MM} {P : PG} {R : Room} {kc nc : Nat} {EX : EXT} {Z : ZT} {ads : List Nat} {ws : va_W}
set_option maxHeartbeats 4000000 in
theorem sstep_ok {ct : Nat → Option Int} (hct : ctOK M.1.cls ct) (hP : okP M.2.1 P = true) {n pc pc2 : Nat} {i : Instr} {L L2 : List (Option PV)} {st st2 : List PV} (hn : P[n]? = some (i, pc, pc2)) (hs : sstep ct i L st = some (L2, st2)) (hl : L.length = M.2.2.1) (h1 : nrL L) (h2 : nrS st) :
    (L2.length = M.2.2.1 ∧ nrL L2 ∧ nrS st2) ∧ (WZ X M R kc nc EX Z pc2 (emL X ads L2) (emS X ads st2) ws → WZ X M R kc nc EX Z pc (emL X ads L) (emS X ads st) ws) := by
  unfold sstep at hs
  split at hs
  case h_1 n => 
    split at hs
    · next hr =>
      cases hs
      obtain ⟨hd, rfl⟩ := okP_get hP hn (by simp [lenI])
      exact ⟨⟨hl, h1, nrS_cons (nr_small hr (by decide)) h2⟩, fun k => w_iconst hd rfl k⟩
    · cases hs
  case h_2 n => 
    split at hs
    · next hr =>
      cases hs
      obtain ⟨hd, rfl⟩ := okP_get hP hn (by simp [lenI])
      exact ⟨⟨hl, h1, nrS_cons (nr_small hr (by decide)) h2⟩, fun k => w_bipush hd (i8_of hr) k⟩
    · cases hs
  case h_3 n => 
    split at hs
    · next hr =>
      cases hs
      obtain ⟨hd, rfl⟩ := okP_get hP hn (by simp [lenI])
      exact ⟨⟨hl, h1, nrS_cons (nr_small hr (by decide)) h2⟩, fun k => w_sipush hd (i16_of hr) k⟩
    · cases hs
  case h_4 j => 
    split at hs
    · next v hv =>
      cases hs
      obtain ⟨hd, rfl⟩ := okP_get hP hn (by simp [lenI])
      exact ⟨⟨hl, h1, nrS_cons (hct j _ hv).1 h2⟩, fun k => w_ldc (hct j _ hv).2 hd k⟩
    · cases hs
  case h_5 j => 
    split at hs
    · next v hv =>
      cases hs
      obtain ⟨hd, rfl⟩ := okP_get hP hn (by simp [lenI])
      exact ⟨⟨hl, h1, nrS_cons (hct j _ hv).1 h2⟩, fun k => w_ldcw (hct j _ hv).2 hd k⟩
    · cases hs
  case h_6 k => 
    obtain ⟨z, hz, rfl, rfl⟩ := ssL_i hs
    obtain ⟨hd, rfl⟩ := okP_get hP hn (by simp [lenI])
    exact ⟨⟨hl, h1, nrS_cons (ldL_nr h1 hz) h2⟩, fun kk => w_iload_n hd rfl (emL_get hz) kk⟩
  case h_7 k => 
    obtain ⟨z, hz, rfl, rfl⟩ := ssL_i hs
    obtain ⟨hd, rfl⟩ := okP_get hP hn (by simp [lenI])
    exact ⟨⟨hl, h1, nrS_cons (ldL_nr h1 hz) h2⟩, fun kk => w_iload hd (emL_get hz) kk⟩
  case h_8 k => 
    obtain ⟨z, hz, rfl, rfl⟩ := ssL_a hs
    obtain ⟨hd, rfl⟩ := okP_get hP hn (by simp [lenI])
    cases z with
    | none => exact ⟨⟨hl, h1, nrS_cons (ldL_nr h1 hz) h2⟩, fun kk => w_aload_nN hd rfl (emL_get hz) kk⟩
    | some z => exact ⟨⟨hl, h1, nrS_cons (ldL_nr h1 hz) h2⟩, fun kk => w_aload_n hd rfl (emL_get hz) kk⟩
  case h_9 k => 
    obtain ⟨z, hz, rfl, rfl⟩ := ssL_a hs
    obtain ⟨hd, rfl⟩ := okP_get hP hn (by simp [lenI])
    cases z with
    | none => exact ⟨⟨hl, h1, nrS_cons (ldL_nr h1 hz) h2⟩, fun kk => w_aloadN hd (emL_get hz) kk⟩
    | some z => exact ⟨⟨hl, h1, nrS_cons (ldL_nr h1 hz) h2⟩, fun kk => w_aload hd (emL_get hz) kk⟩
  case h_10 k => 
    obtain ⟨z, rfl, hi, rfl⟩ := ssS_i hs
    obtain ⟨hd, rfl⟩ := okP_get hP hn (by simp [lenI])
    exact ⟨⟨by rw [List.length_set]; exact hl, nrL_set h1 (nrS_head h2), nrS_tail h2⟩, fun kk => w_istore_n hd rfl (hl ▸ hi) (okS_em X ads L _) (emL_set X ads L _ (.inl z)) kk⟩
  case h_11 k => 
    obtain ⟨z, rfl, hi, rfl⟩ := ssS_i hs
    obtain ⟨hd, rfl⟩ := okP_get hP hn (by simp [lenI])
    exact ⟨⟨by rw [List.length_set]; exact hl, nrL_set h1 (nrS_head h2), nrS_tail h2⟩, fun kk => w_istore hd (hl ▸ hi) (okS_em X ads L _) (emL_set X ads L _ (.inl z)) kk⟩
  case h_12 k => 
    obtain ⟨z, rfl, hi, rfl⟩ := ssS_a hs
    obtain ⟨hd, rfl⟩ := okP_get hP hn (by simp [lenI])
    exact ⟨⟨by rw [List.length_set]; exact hl, nrL_set h1 (nrS_head h2), nrS_tail h2⟩, fun kk => w_astore_n hd rfl (hl ▸ hi) (okS_em X ads L _) (emL_set X ads L _ (.inr (some z))) kk⟩
  case h_13 k => 
    obtain ⟨z, rfl, hi, rfl⟩ := ssS_a hs
    obtain ⟨hd, rfl⟩ := okP_get hP hn (by simp [lenI])
    exact ⟨⟨by rw [List.length_set]; exact hl, nrL_set h1 (nrS_head h2), nrS_tail h2⟩, fun kk => w_astore hd (hl ▸ hi) (okS_em X ads L _) (emL_set X ads L _ (.inr (some z))) kk⟩
  case h_14 k nn => 
    split at hs
    · next z hz =>
      split at hs
      · next hb =>
        cases hs
        obtain ⟨hd, rfl⟩ := okP_get hP hn (by simp [lenI])
        exact ⟨⟨by rw [List.length_set]; exact hl, nrL_set h1 (bw_bw _), h2⟩, fun kk => w_iinc hd (emL_get hz) (by rw [ofI_bw, Int32.ofInt_add]) (hl ▸ Nat.le_of_ble_eq_true hb) (okS_em X ads L _) (emL_set X ads L _ (.inl (bw (z + nn)))) kk⟩
      · cases hs
    · cases hs
  case h_15 =>
    obtain ⟨x, y, t, rfl, rfl, rfl⟩ := ss2_of hs
    obtain ⟨hd, rfl⟩ := okP_get hP hn (by simp [lenI])
    refine ⟨⟨hl, h1, nrS_cons (bw_bw _) (nrS_tail (nrS_tail h2))⟩, fun kk => w_iadd hd ?_⟩
    simpa only [lenI, emS, List.map_cons, em, ofI_bw, Int32.ofInt_add] using kk
  case h_16 =>
    obtain ⟨x, y, t, rfl, rfl, rfl⟩ := ss2_of hs
    obtain ⟨hd, rfl⟩ := okP_get hP hn (by simp [lenI])
    refine ⟨⟨hl, h1, nrS_cons (bw_bw _) (nrS_tail (nrS_tail h2))⟩, fun kk => w_isub hd ?_⟩
    simpa only [lenI, emS, List.map_cons, em, ofI_bw, Int32.ofInt_sub] using kk
  case h_17 =>
    obtain ⟨x, y, t, rfl, rfl, rfl⟩ := ss2_of hs
    obtain ⟨hd, rfl⟩ := okP_get hP hn (by simp [lenI])
    refine ⟨⟨hl, h1, nrS_cons (bw_bw _) (nrS_tail (nrS_tail h2))⟩, fun kk => w_imul hd ?_⟩
    simpa only [lenI, emS, List.map_cons, em, ofI_bw, Int32.ofInt_mul] using kk
  case h_18 =>
    obtain ⟨x, y, t, rfl, rfl, rfl⟩ := ss2_of hs
    obtain ⟨hd, rfl⟩ := okP_get hP hn (by simp [lenI])
    refine ⟨⟨hl, h1, nrS_cons (bw_toInt _) (nrS_tail (nrS_tail h2))⟩, fun kk => w_iand hd ?_⟩
    simpa only [lenI, emS, List.map_cons, em, band, Int32.ofInt_toInt] using kk
  case h_19 =>
    obtain ⟨x, y, t, rfl, rfl, rfl⟩ := ss2_of hs
    obtain ⟨hd, rfl⟩ := okP_get hP hn (by simp [lenI])
    refine ⟨⟨hl, h1, nrS_cons (bw_toInt _) (nrS_tail (nrS_tail h2))⟩, fun kk => w_ior hd ?_⟩
    simpa only [lenI, emS, List.map_cons, em, bor, Int32.ofInt_toInt] using kk
  case h_20 =>
    obtain ⟨x, y, t, rfl, rfl, rfl⟩ := ss2_of hs
    obtain ⟨hd, rfl⟩ := okP_get hP hn (by simp [lenI])
    refine ⟨⟨hl, h1, nrS_cons (bw_toInt _) (nrS_tail (nrS_tail h2))⟩, fun kk => w_ixor hd ?_⟩
    simpa only [lenI, emS, List.map_cons, em, bxor, Int32.ofInt_toInt] using kk
  case h_21 =>
    obtain ⟨x, y, t, rfl, rfl, rfl⟩ := ss2_of hs
    obtain ⟨hd, rfl⟩ := okP_get hP hn (by simp [lenI])
    refine ⟨⟨hl, h1, nrS_cons (bw_toInt _) (nrS_tail (nrS_tail h2))⟩, fun kk => w_ishl hd ?_⟩
    simpa only [lenI, emS, List.map_cons, em, bshl, Int32.ofInt_toInt] using kk
  case h_22 =>
    obtain ⟨x, y, t, rfl, rfl, rfl⟩ := ss2_of hs
    obtain ⟨hd, rfl⟩ := okP_get hP hn (by simp [lenI])
    refine ⟨⟨hl, h1, nrS_cons (bw_toInt _) (nrS_tail (nrS_tail h2))⟩, fun kk => w_ishr hd ?_⟩
    simpa only [lenI, emS, List.map_cons, em, bshr, Int32.ofInt_toInt] using kk
  case h_23 =>
    obtain ⟨x, y, t, rfl, rfl, rfl⟩ := ss2_of hs
    obtain ⟨hd, rfl⟩ := okP_get hP hn (by simp [lenI])
    refine ⟨⟨hl, h1, nrS_cons (bw_toInt _) (nrS_tail (nrS_tail h2))⟩, fun kk => w_iushr hd ?_⟩
    simpa only [lenI, emS, List.map_cons, em, bushr, Int32.ofInt_toInt] using kk
  case h_24 =>
    obtain ⟨x, t, rfl, rfl, rfl⟩ := ss1_of hs
    obtain ⟨hd, rfl⟩ := okP_get hP hn (by simp [lenI])
    refine ⟨⟨hl, h1, nrS_cons (bw_bw _) (nrS_tail h2)⟩, fun kk => w_ineg hd ?_⟩
    simpa only [lenI, emS, List.map_cons, em, ofI_bw, Int32.ofInt_neg] using kk
  case h_25 =>
    obtain ⟨x, t, rfl, rfl, rfl⟩ := ss1_of hs
    obtain ⟨hd, rfl⟩ := okP_get hP hn (by simp [lenI])
    refine ⟨⟨hl, h1, nrS_cons (bw_toInt _) (nrS_tail h2)⟩, fun kk => w_i2b hd ?_⟩
    simpa only [lenI, emS, List.map_cons, em, i2b, Int32.ofInt_toInt] using kk
  case h_26 =>
    obtain ⟨x, t, rfl, rfl, rfl⟩ := ss1_of hs
    obtain ⟨hd, rfl⟩ := okP_get hP hn (by simp [lenI])
    refine ⟨⟨hl, h1, nrS_cons (bw_toInt _) (nrS_tail h2)⟩, fun kk => w_i2c hd ?_⟩
    simpa only [lenI, emS, List.map_cons, em, i2c, Int32.ofInt_toInt] using kk
  case h_27 =>
    split at hs
    · next v t =>
      cases hs
      obtain ⟨hd, rfl⟩ := okP_get hP hn (by simp [lenI])
      exact ⟨⟨hl, h1, nrS_cons (nrS_head h2) h2⟩, fun kk => w_dup hd (em_cat X ads v) kk⟩
    · cases hs
  case h_28 =>
    split at hs
    · next v w t =>
      cases hs
      obtain ⟨hd, rfl⟩ := okP_get hP hn (by simp [lenI])
      exact ⟨⟨hl, h1, nrS_cons (nrS_head h2) (nrS_cons (nrS_head (nrS_tail h2)) h2)⟩, fun kk => w_dup2 hd (em_cat X ads v) (em_cat X ads w) kk⟩
    · cases hs
  case h_29 =>
    split at hs
    · next v t =>
      cases hs
      obtain ⟨hd, rfl⟩ := okP_get hP hn (by simp [lenI])
      exact ⟨⟨hl, h1, nrS_tail h2⟩, fun kk => w_pop hd (em_cat X ads v) kk⟩
    · cases hs
  case h_30 =>
    cases hs
    obtain ⟨hd, rfl⟩ := okP_get hP hn (by simp [lenI])
    exact ⟨⟨hl, h1, nrS_cons trivial h2⟩, fun kk => w_null hd kk⟩
  case h_31 => cases hs
end Sound
end
section
/-! the heap out of the pure picture; J -/
def fv (X : Cx) (ads : List Nat) (f : Int → Int32) : Nat → List (Option (Option Nat)) → List Value
  | _, [] => []
  | k, none :: t => .int (f (k : Int)) :: fv X ads f (k + 1) t
  | k, some r :: t => em X ads (.inr r) :: fv X ads f (k + 1) t
def aC (X : Cx) (ek : Nat) : ClassId := match ek with
  | 0 => X.2.2.1.1
  | 1 => X.2.2.1.2.1
  | _ => X.2.2.1.2.2
def mkc (X : Cx) (ads : List Nat) (f : Int → Int32) : Sk → va_E
  | .inl q => .inr (q.1, fv X ads f 0 q.2)
  | .inr q => .inl (aC X q.1, q.2, .inl (fun j : Nat => f (j : Int)))
def mkW (X : Cx) (ads : List Nat) (σ : Sg) (sk : List Sk) : va_W := sk.mapIdx (fun c s => (ads.getD c 0, mkc X ads (σ c) s))
theorem mkW_get {X : Cx} {ads : List Nat} {σ : Sg} {sk : List Sk} {c : Nat} {s : Sk} (h : sk[c]? = some s) : (mkW X ads σ sk)[c]? = some (ads.getD c 0, mkc X ads (σ c) s) := by
  rw [mkW, List.getElem?_mapIdx, h]; rfl
theorem wr_ne {σ : Sg} {c c2 : Nat} {i z : Int} (h : c2 ≠ c) : wr σ c i z c2 = σ c2 := by
  funext j
  unfold wr
  rw [if_neg (fun q => h q.1)]
theorem mkW_wr {X : Cx} {ads : List Nat} {σ : Sg} {sk : List Sk} {c : Nat} {s : Sk} {i z : Int} {e : va_E} (h : sk[c]? = some s) (he : mkc X ads (wr σ c i z c) s = e) : (mkW X ads σ sk).set c (ads.getD c 0, e) = mkW X ads (wr σ c i z) sk := by
  subst he
  apply List.ext_getElem?
  intro j
  rw [List.getElem?_set]
  by_cases hj : c = j
  · subst hj
    have hl : c < (mkW X ads σ sk).length := by
      rw [mkW, List.length_mapIdx]
      exact (List.getElem?_eq_some_iff.mp h).1
    rw [if_pos rfl, if_pos hl, mkW_get h]
  · rw [if_neg hj, mkW, mkW, List.getElem?_mapIdx, List.getElem?_mapIdx, wr_ne (fun q => hj q.symm)]
theorem fv_get {X : Cx} {ads : List Nat} {f : Int → Int32} : ∀ (fs : List (Option (Option Nat))) (k j : Nat), (fv X ads f k fs)[j]? = (fs[j]?).map (fun q => match q with
    | none => .int (f ((k + j : Nat) : Int))
    | some r => em X ads (.inr r))
  | [], k, j => by simp [fv]
  | none :: t, k, 0 => by simp [fv]
  | some r :: t, k, 0 => by simp [fv]
  | none :: t, k, j + 1 => by
    rw [fv, List.getElem?_cons_succ, List.getElem?_cons_succ, fv_get t (k + 1) j, show k + 1 + j = k + (j + 1) by omega]
  | some r :: t, k, j + 1 => by
    rw [fv, List.getElem?_cons_succ, List.getElem?_cons_succ, fv_get t (k + 1) j, show k + 1 + j = k + (j + 1) by omega]
theorem fv_set {X : Cx} {ads : List Nat} {f : Int → Int32} {fs : List (Option (Option Nat))} {j : Nat} {z : Int} (h : fs[j]? = some none) : (fv X ads f 0 fs).set j (.int (Int32.ofInt z)) = fv X ads (fun i => if i = (j : Int) then Int32.ofInt z else f i) 0 fs := by
  apply List.ext_getElem?
  intro i
  rw [List.getElem?_set, fv_get, fv_get]
  by_cases hj : j = i
  · subst hj
    rw [if_pos rfl, h]
    have hl : j < (fv X ads f 0 fs).length := by
      rcases Nat.lt_or_ge j (fv X ads f 0 fs).length with q | q
      · exact q
      · have h2 := List.getElem?_eq_none q
        rw [fv_get, h] at h2
        simp at h2
    rw [if_pos hl]
    simp
  · rw [if_neg hj]
    cases fs[i]? with
    | none => rfl
    | some q =>
      cases q with
      | none =>
        simp only [Option.map_some, Nat.zero_add]
        rw [if_neg (by omega)]
      | some r => rfl
/-- a class's own table: whole numbers, fields (entry, class, slot, slot), methods, nest mates' methods, texts -/
abbrev TB : Type := (Nat → Option Int) × List (Nat × Nat × Nat × Int) × List (Nat × MethodName) × List (Nat × MethodName × String) × List (Nat × Nat)
def flOK (own : String) (q : Nat × Nat × Nat × Int) : Prop := ∃ w : vw_C, vwCl[q.2.1]? = some w ∧ q.2.2.1 < w.2.2 ∧ (w.2.1 q.2.2.1).1 = w.1 ∧ (q.2.2.1 : Int) = q.2.2.2 ∧ Cond.fieldLink own q.1 w.1 (w.2.1 q.2.2.1).2.1 (w.2.1 q.2.2.1).2.2.1 ∈ TW
def tbOK (own : String) (tb : TB) : Prop := ctOK own tb.1 ∧ (∀ q ∈ tb.2.1, flOK own q) ∧ (∀ q ∈ tb.2.2.1, Cond.methodLink own q.1 q.2 ∈ TW) ∧ (∀ q ∈ tb.2.2.2.1, Cond.methodLinkNest own q.1 q.2.1 q.2.2 ∈ TW) ∧ (∀ q ∈ tb.2.2.2.2, q.2 < nS ∧ sOwn.getD q.2 "" = own ∧ sIdx.getD q.2 0 = q.1)
def okC (M : MM) (P : PG) (tb : TB) (ads : List Nat) (sk : List Sk) : Prop := okP M.2.1 P = true ∧ tbOK M.1.cls tb ∧ ads.length = sk.length ∧ sk.length ≤ 1000
def nrP (M : MM) (ps : PS) : Prop := ps.2.1.length = M.2.2.1 ∧ nrL ps.2.1 ∧ nrS ps.2.2.1
abbrev WP (X : Cx) (M : MM) (R : Room) (kc nc : Nat) (EX : EXT) (Z : ZT) (ads : List Nat) (sk : List Sk) (ps : PS) : Prop := WZ X M R kc nc EX Z ps.1 (emL X ads ps.2.1) (emS X ads ps.2.2.1) (mkW X ads ps.2.2.2 sk)
def J {α : Type} (X : Cx) (M : MM) (P : PG) (tb : TB) (R : Room) (kc nc : Nat) (EX : EXT) (F : α → Prop × ZT) (ads : List Nat) (sk : List Sk) (ps : PS) (res : Option α) : Prop :=
  okC M P tb ads sk → ∀ a, res = some a → nrP M ps → (F a).1 ∧ WP X M R kc nc EX (F a).2 ads sk ps
def srun (ct : Nat → Option Int) : PG → Nat → Nat → List (Option PV) → List PV → Option (Nat × List (Option PV) × List PV)
  | _, 0, pc, L, st => some (pc, L, st)
  | (i, p, p2) :: g, m + 1, pc, L, st => match Nat.beq p pc with
    | true => (match sstep ct i L st with
      | some (L2, st2) => srun ct g m p2 L2 st2
      | none => none)
    | false => none
  | [], _ + 1, _, _, _ => none
section JR
variable {α : Type} {X : Cx} {M : MM} {P : PG} {tb : TB} {R : Room} {kc nc : Nat} {EX : EXT} {F : α → Prop × ZT} {ads : List Nat} {sk : List Sk} {L : List (Option PV)} {st : List PV} {σ : Sg} {res : Option α} {pc pc2 : Nat}
theorem J.step {ps ps2 : PS} {r2 : Option α} (h : okC M P tb ads sk → ∀ a, res = some a → nrP M ps → r2 = some a ∧ nrP M ps2 ∧ ∀ Z, WP X M R kc nc EX Z ads sk ps2 → WP X M R kc nc EX Z ads sk ps) (k : J X M P tb R kc nc EX F ads sk ps2 r2) : J X M P tb R kc nc EX F ads sk ps res := by
  intro ho a ha hn
  obtain ⟨h1, h2, h3⟩ := h ho a ha hn
  obtain ⟨k1, k2⟩ := k ho a h1 h2
  exact ⟨k1, h3 _ k2⟩
theorem srun_ok {ct : Nat → Option Int} (hct : ctOK M.1.cls ct) (hP : okP M.2.1 P = true) {ws : va_W} : ∀ (m n pc : Nat) (L : List (Option PV)) (st : List PV) (pc2 : Nat) (L2 : List (Option PV)) (st2 : List PV), srun ct (P.drop n) m pc L st = some (pc2, L2, st2) → L.length = M.2.2.1 → nrL L → nrS st →
    (L2.length = M.2.2.1 ∧ nrL L2 ∧ nrS st2) ∧ ∀ Z, WZ X M R kc nc EX Z pc2 (emL X ads L2) (emS X ads st2) ws → WZ X M R kc nc EX Z pc (emL X ads L) (emS X ads st) ws
  | 0, n, pc, L, st, pc2, L2, st2, h, h1, h2, h3 => by
    cases hp : P.drop n with
    | nil => rw [hp, srun] at h; cases h; exact ⟨⟨h1, h2, h3⟩, fun _ k => k⟩
    | cons q g => rw [hp, srun] at h; cases h; exact ⟨⟨h1, h2, h3⟩, fun _ k => k⟩
  | m + 1, n, pc, L, st, pc2, L2, st2, h, h1, h2, h3 => by
    cases hp : P.drop n with
    | nil => rw [hp, srun] at h; cases h
    | cons q g =>
      obtain ⟨i, p, p2⟩ := q
      rw [hp, srun] at h
      split at h
      · next hb =>
        have hb := Nat.eq_of_beq_eq_true hb
        subst hb
        split at h
        · next L3 st3 hs =>
          have hn : P[n]? = some (i, p, p2) := by
            have := congrArg (fun l => l[0]?) hp
            simpa using this
          have hg : P.drop (n + 1) = g := by
            rw [← List.drop_drop, hp]; rfl
          obtain ⟨⟨q1, q2, q3⟩, q4⟩ := sstep_ok (X := X) (R := R) (kc := kc) (nc := nc) (EX := EX) (Z := fun _ _ _ _ => True) (ads := ads) (ws := ws) hct hP hn hs h1 h2 h3
          rw [← hg] at h
          obtain ⟨r1, r2⟩ := srun_ok hct hP m (n + 1) p2 L3 st3 pc2 L2 st2 h q1 q2 q3
          refine ⟨r1, fun Z k => ?_⟩
          exact (sstep_ok (X := X) (R := R) (kc := kc) (nc := nc) (EX := EX) (Z := Z) (ads := ads) (ws := ws) hct hP hn hs h1 h2 h3).2 (r2 Z k)
        · cases h
      · cases h
theorem j_run (n m : Nat) {L2 : List (Option PV)} {st2 : List PV} (he : srun tb.1 (P.drop n) m pc L st = some (pc2, L2, st2)) (k : J X M P tb R kc nc EX F ads sk (pc2, L2, st2, σ) res) : J X M P tb R kc nc EX F ads sk (pc, L, st, σ) res := by
  refine J.step (fun ho a ha hn => ?_) k
  obtain ⟨h1, h2⟩ := srun_ok (X := X) (R := R) (kc := kc) (nc := nc) (EX := EX) (ads := ads) (ws := mkW X ads σ sk) ho.2.1.1 ho.1 m n pc L st pc2 L2 st2 he hn.1 hn.2.1 hn.2.2
  exact ⟨ha, h1, h2⟩
theorem j_none {ps : PS} : J X M P tb R kc nc EX F ads sk ps (none : Option α) := fun _ a h => by cases h
theorem j_grd {ps : PS} {c : Prop} [Decidable c] (k : c → J X M P tb R kc nc EX F ads sk ps res) : J X M P tb R kc nc EX F ads sk ps (grd c res) := by
  intro ho a ha hn
  unfold grd at ha
  split at ha
  · next h => exact k h ho a ha hn
  · cases ha
theorem j_goto (n : Nat) {off : Int} {tgt : Nat} (hn : P[n]? = some (.goto off, pc, pc2)) (ht : (pc : Int) + off = (tgt : Int)) (k : J X M P tb R kc nc EX F ads sk (tgt, L, st, σ) res) : J X M P tb R kc nc EX F ads sk (pc, L, st, σ) res := by
  refine J.step (ps2 := (tgt, L, st, σ)) (fun ho a ha hq => ⟨ha, ⟨hq.1, hq.2⟩, fun Z kk => ?_⟩) k
  obtain ⟨hd, rfl⟩ := okP_get ho.1 hn (by simp [lenI])
  exact w_goto hd ht kk
/-- branches: 'c' by an ite of the result, 'b' by cases -/
theorem jb_if (n : Nat) {c : Jvm.ClassFile.Cond} {off : Int} {tgt : Nat} {x : Int} (C : Prop) (hn : P[n]? = some (.ifCond c off, pc, pc2)) (ht : (pc : Int) + off = (tgt : Int)) (hC : match c with
    | .eq => C ↔ x = 0
    | .ne => C ↔ ¬ x = 0
    | .lt => C ↔ x < 0
    | .ge => C ↔ 0 ≤ x
    | .gt => C ↔ 0 < x
    | .le => C ↔ x ≤ 0)
    (k1 : C → J X M P tb R kc nc EX F ads sk (tgt, L, st, σ) res) (k2 : ¬ C → J X M P tb R kc nc EX F ads sk (pc2, L, st, σ) res) : J X M P tb R kc nc EX F ads sk (pc, L, .inl x :: st, σ) res := by
  intro ho a ha hq
  obtain ⟨hd, rfl⟩ := okP_get ho.1 hn (by simp [lenI])
  have hx : bw x = x := nrS_head hq.2.2
  have hq2 : nrP M (tgt, L, st, σ) := ⟨hq.1, hq.2.1, nrS_tail hq.2.2⟩
  have key : ∀ (D : Prop), (C ↔ D) → ((F a).1 ∧ ((D → WP X M R kc nc EX (F a).2 ads sk (tgt, L, st, σ)) ∧ (¬ D → WP X M R kc nc EX (F a).2 ads sk (pc + 3, L, st, σ)))) := by
    intro D hD
    by_cases h : C
    · obtain ⟨r1, r2⟩ := k1 h ho a ha hq2
      exact ⟨r1, fun _ => r2, fun z => absurd (hD.mp h) z⟩
    · obtain ⟨r1, r2⟩ := k2 h ho a ha hq2
      exact ⟨r1, fun z => absurd (hD.mpr z) h, fun _ => r2⟩
  cases c with
  | eq =>
    obtain ⟨r1, r2⟩ := key (Int32.ofInt x = 0) (hC.trans (ofI_eq0 hx).symm)
    exact ⟨r1, w_if_eq hd ht r2⟩
  | ne =>
    obtain ⟨r1, r2⟩ := key (¬ Int32.ofInt x = 0) (hC.trans (not_congr (ofI_eq0 hx).symm))
    exact ⟨r1, w_if_ne hd ht ⟨r2.1, fun z => r2.2 (fun y => y z)⟩⟩
  | lt =>
    obtain ⟨r1, r2⟩ := key (Int32.ofInt x < 0) (hC.trans (ofI_lt hx (y := 0) rfl).symm)
    exact ⟨r1, w_if_lt hd ht r2⟩
  | ge =>
    obtain ⟨r1, r2⟩ := key (0 ≤ Int32.ofInt x) (hC.trans (ofI_le (x := 0) rfl hx).symm)
    exact ⟨r1, w_if_ge hd ht r2⟩
  | gt =>
    obtain ⟨r1, r2⟩ := key (0 < Int32.ofInt x) (hC.trans (ofI_lt (x := 0) rfl hx).symm)
    exact ⟨r1, w_if_gt hd ht r2⟩
  | le =>
    obtain ⟨r1, r2⟩ := key (Int32.ofInt x ≤ 0) (hC.trans (ofI_le hx (y := 0) rfl).symm)
    exact ⟨r1, w_if_le hd ht r2⟩
theorem jb_icmp (n : Nat) {c : Jvm.ClassFile.Cond} {off : Int} {tgt : Nat} {x y : Int} (C : Prop) (hn : P[n]? = some (.if_icmp c off, pc, pc2)) (ht : (pc : Int) + off = (tgt : Int)) (hC : match c with
    | .eq => C ↔ x = y
    | .ne => C ↔ ¬ x = y
    | .lt => C ↔ x < y
    | .ge => C ↔ y ≤ x
    | .gt => C ↔ y < x
    | .le => C ↔ x ≤ y)
    (k1 : C → J X M P tb R kc nc EX F ads sk (tgt, L, st, σ) res) (k2 : ¬ C → J X M P tb R kc nc EX F ads sk (pc2, L, st, σ) res) : J X M P tb R kc nc EX F ads sk (pc, L, .inl y :: .inl x :: st, σ) res := by
  intro ho a ha hq
  obtain ⟨hd, rfl⟩ := okP_get ho.1 hn (by simp [lenI])
  have hy : bw y = y := nrS_head hq.2.2
  have hx : bw x = x := nrS_head (nrS_tail hq.2.2)
  have hq2 : nrP M (tgt, L, st, σ) := ⟨hq.1, hq.2.1, nrS_tail (nrS_tail hq.2.2)⟩
  have key : ∀ (D : Prop), (C ↔ D) → ((F a).1 ∧ ((D → WP X M R kc nc EX (F a).2 ads sk (tgt, L, st, σ)) ∧ (¬ D → WP X M R kc nc EX (F a).2 ads sk (pc + 3, L, st, σ)))) := by
    intro D hD
    by_cases h : C
    · obtain ⟨r1, r2⟩ := k1 h ho a ha hq2
      exact ⟨r1, fun _ => r2, fun z => absurd (hD.mp h) z⟩
    · obtain ⟨r1, r2⟩ := k2 h ho a ha hq2
      exact ⟨r1, fun z => absurd (hD.mpr z) h, fun _ => r2⟩
  cases c with
  | eq =>
    obtain ⟨r1, r2⟩ := key (Int32.ofInt x = Int32.ofInt y) (hC.trans (ofI_inj hx hy).symm)
    exact ⟨r1, w_icmp_eq hd ht r2⟩
  | ne =>
    obtain ⟨r1, r2⟩ := key (¬ Int32.ofInt x = Int32.ofInt y) (hC.trans (not_congr (ofI_inj hx hy).symm))
    exact ⟨r1, w_icmp_ne hd ht ⟨r2.1, fun z => r2.2 (fun y => y z)⟩⟩
  | lt =>
    obtain ⟨r1, r2⟩ := key (Int32.ofInt x < Int32.ofInt y) (hC.trans (ofI_lt hx hy).symm)
    exact ⟨r1, w_icmp_lt hd ht r2⟩
  | ge =>
    obtain ⟨r1, r2⟩ := key (Int32.ofInt y ≤ Int32.ofInt x) (hC.trans (ofI_le hy hx).symm)
    exact ⟨r1, w_icmp_ge hd ht r2⟩
  | gt =>
    obtain ⟨r1, r2⟩ := key (Int32.ofInt y < Int32.ofInt x) (hC.trans (ofI_lt hy hx).symm)
    exact ⟨r1, w_icmp_gt hd ht r2⟩
  | le =>
    obtain ⟨r1, r2⟩ := key (Int32.ofInt x ≤ Int32.ofInt y) (hC.trans (ofI_le hx hy).symm)
    exact ⟨r1, w_icmp_le hd ht r2⟩
end JR
end
section
/-! J at the heap's instructions -/
theorem cl_of {z : Int} (h : bw z = z) : (Int32.ofInt z).toNatClampNeg = z.toNat := by
  show ((Int32.ofInt z).toInt).toNat = z.toNat
  rw [ofI_toInt h]
theorem in_of {z : Int} {N : Nat} (h : bw z = z) (h1 : 0 ≤ z) (h2 : z < (N : Int)) : vp_in (Int32.ofInt z) N := by
  rintro (q | q)
  · have := (ofI_lt h (y := 0) rfl).mp q
    omega
  · rw [cl_of h] at q
    omega
def tyT (ci : Nat) : Nat → FieldType := match ci with
  | 0 => tyX0
  | 1 => tyX1
  | 2 => tyX2
  | 3 => tyX3
  | 4 => tyX4
  | 5 => tyX5
  | 6 => tyX6
  | 7 => tyX7
  | 8 => tyX8
  | 9 => tyX9
  | 10 => tyX10
  | _ => tyX11
theorem clAll {ci : Nat} {w : vw_C} (h : vwCl[ci]? = some w) : (∀ u ∈ u_ws w.1 w.2.1 w.2.2, u ∈ TW) ∧ (∀ k, k < w.2.2 → parseFieldDescriptor (w.2.1 k).2.2.1 = some (tyT ci k)) ∧ (∀ a, a < w.2.2 → ∀ b, b < w.2.2 → a ≠ b → (w.2.1 a).2.1 ≠ (w.2.1 b).2.1) := by
  match ci, h with
  | 0, h => cases h; exact ⟨inX0, tyX0_ok, nmX0⟩
  | 1, h => cases h; exact ⟨inX1, tyX1_ok, nmX1⟩
  | 2, h => cases h; exact ⟨inX2, tyX2_ok, nmX2⟩
  | 3, h => cases h; exact ⟨inX3, tyX3_ok, nmX3⟩
  | 4, h => cases h; exact ⟨inX4, tyX4_ok, nmX4⟩
  | 5, h => cases h; exact ⟨inX5, tyX5_ok, nmX5⟩
  | 6, h => cases h; exact ⟨inX6, tyX6_ok, nmX6⟩
  | 7, h => cases h; exact ⟨inX7, tyX7_ok, nmX7⟩
  | 8, h => cases h; exact ⟨inX8, tyX8_ok, nmX8⟩
  | 9, h => cases h; exact ⟨inX9, tyX9_ok, nmX9⟩
  | 10, h => cases h; exact ⟨inX10, tyX10_ok, nmX10⟩
  | 11, h => cases h; exact ⟨inX11, tyX11_ok, nmX11⟩
  | k + 12, h => simp [vwCl] at h
def nb (z : Int) : Int := (vp_nar .byte (Int32.ofInt z)).toInt
def nz (z : Int) : Int := (vp_nar .boolean (Int32.ofInt z)).toInt
def cpy (σ : Sg) (c0 : Nat) (sp : Int) (c1 : Nat) (dp n : Int) : Sg := fun c i => if c = c1 ∧ dp ≤ i ∧ i < dp + n then σ c0 (sp + (i - dp)) else σ c i
theorem ea_of {X : Cx} {ads : List Nat} {c : Nat} (h : c < 1000) : ea X ads c = ads.getD c 0 := if_pos h
theorem wr_self (σ : Sg) (c : Nat) (i z : Int) : wr σ c i z c = fun j => if j = i then Int32.ofInt z else σ c j := by
  funext j
  unfold wr
  simp only [true_and]
section JH
variable {α : Type} {X : Cx} {M : MM} {P : PG} {tb : TB} {R : Room} {kc nc : Nat} {EX : EXT} {F : α → Prop × ZT} {ads : List Nat} {sk : List Sk} {L : List (Option PV)} {st : List PV} {σ : Sg} {res : Option α} {pc pc2 : Nat}
theorem sk_lt {ads : List Nat} {sk : List Sk} {M : MM} {P : PG} {tb : TB} (ho : okC M P tb ads sk) {c : Nat} {s : Sk} (h : sk[c]? = some s) : c < 1000 := Nat.lt_of_lt_of_le (List.getElem?_eq_some_iff.mp h).1 ho.2.2.2
theorem sk_em {ads : List Nat} {sk : List Sk} {M : MM} {P : PG} {tb : TB} (ho : okC M P tb ads sk) {c : Nat} {s : Sk} (h : sk[c]? = some s) : em X ads (.inr (some c)) = .ref (ads.getD c 0) := by
  show Value.ref (ea X ads c) = _
  rw [ea_of (sk_lt ho h)]
/-- a field that holds a whole number -/
theorem j_gf (n j : Nat) {idx ci k c : Nat} {i : Int} {fs : List (Option (Option Nat))} (hn : P[n]? = some (.getfield idx, pc, pc2)) (hf : tb.2.1[j]? = some (idx, ci, k, i)) (hs : sk[c]? = some (.inl (ci, fs))) (hk : fs[k]? = some none) (kk : J X M P tb R kc nc EX F ads sk (pc2, L, .inl (rd σ c i) :: st, σ) res) : J X M P tb R kc nc EX F ads sk (pc, L, .inr (some c) :: st, σ) res := by
  refine J.step (ps2 := (pc2, L, .inl (rd σ c i) :: st, σ)) (fun ho a ha hq => ⟨ha, ⟨hq.1, hq.2.1, nrS_cons (rd_bw _ _ _) (nrS_tail hq.2.2)⟩, fun Z kk => ?_⟩) kk
  obtain ⟨hd, rfl⟩ := okP_get ho.1 hn (by simp [lenI])
  obtain ⟨w, hw1, hw2, hw3, hw4, hw5⟩ := ho.2.1.2.1 _ (List.mem_of_getElem? hf)
  intro p e s m args below meth cc H locs ls FF hE hP hD hS hl
  show W _ _ _ _ _ _ _ _ _ _ _ _ _ _ _ (F0 m pc ls (em X ads (.inr (some c)) :: emS X ads st))
  rw [sk_em ho hs]
  refine va_get FF.1 FF.2.1 (C := w.1) (T := w.2.1) (N := w.2.2) FF.2.2.2.2.2.1 (clAll hw1).1 FF.2.2.2.2.1 FF.2.2.2.2.2.2.2.2.1 hP c (mkW_get hs) hw1 k hw2 (FF.2.2.2.2.2.1 _ hw5) (fun x hx => by rw [hw3] at hx; exact hx) (v := .int (Int32.ofInt (rd σ c i))) ?_ hd (kk p e s m args below meth cc H locs ls FF hE hP hD hS hl)
  rw [fv_get, hk]
  simp only [Option.map_some, Nat.zero_add]
  rw [show (k : Int) = i from hw4, rd, Int32.ofInt_toInt]
/-- a field that holds a reference -/
theorem j_gr (n j : Nat) {idx ci k c : Nat} {i : Int} {fs : List (Option (Option Nat))} {r : Option Nat} (hn : P[n]? = some (.getfield idx, pc, pc2)) (hf : tb.2.1[j]? = some (idx, ci, k, i)) (hs : sk[c]? = some (.inl (ci, fs))) (hk : fs[k]? = some (some r)) (kk : J X M P tb R kc nc EX F ads sk (pc2, L, .inr r :: st, σ) res) : J X M P tb R kc nc EX F ads sk (pc, L, .inr (some c) :: st, σ) res := by
  refine J.step (ps2 := (pc2, L, .inr r :: st, σ)) (fun ho a ha hq => ⟨ha, ⟨hq.1, hq.2.1, nrS_cons trivial (nrS_tail hq.2.2)⟩, fun Z kk => ?_⟩) kk
  obtain ⟨hd, rfl⟩ := okP_get ho.1 hn (by simp [lenI])
  obtain ⟨w, hw1, hw2, hw3, hw4, hw5⟩ := ho.2.1.2.1 _ (List.mem_of_getElem? hf)
  intro p e s m args below meth cc H locs ls FF hE hP hD hS hl
  show W _ _ _ _ _ _ _ _ _ _ _ _ _ _ _ (F0 m pc ls (em X ads (.inr (some c)) :: emS X ads st))
  rw [sk_em ho hs]
  refine va_get FF.1 FF.2.1 (C := w.1) (T := w.2.1) (N := w.2.2) FF.2.2.2.2.2.1 (clAll hw1).1 FF.2.2.2.2.1 FF.2.2.2.2.2.2.2.2.1 hP c (mkW_get hs) hw1 k hw2 (FF.2.2.2.2.2.1 _ hw5) (fun x hx => by rw [hw3] at hx; exact hx) (v := em X ads (.inr r)) ?_ hd (kk p e s m args below meth cc H locs ls FF hE hP hD hS hl)
  rw [fv_get, hk]
  rfl
/-- a field of whole numbers is written -/
theorem j_pf (n j : Nat) {idx ci k c : Nat} {i z : Int} {fs : List (Option (Option Nat))} (hn : P[n]? = some (.putfield idx, pc, pc2)) (hf : tb.2.1[j]? = some (idx, ci, k, i)) (hs : sk[c]? = some (.inl (ci, fs))) (hk : fs[k]? = some none) (hfin : (vwCl[ci]?).map (fun w => (w.2.1 k).2.2.2) = some false) (hty : tyT ci k = .int ∨ (tyT ci k = .boolean ∧ (z = 0 ∨ z = 1))) (kk : J X M P tb R kc nc EX F ads sk (pc2, L, st, wr σ c i z) res) : J X M P tb R kc nc EX F ads sk (pc, L, .inl z :: .inr (some c) :: st, σ) res := by
  refine J.step (ps2 := (pc2, L, st, wr σ c i z)) (fun ho a ha hq => ⟨ha, ⟨hq.1, hq.2.1, nrS_tail (nrS_tail hq.2.2)⟩, fun Z kk => ?_⟩) kk
  obtain ⟨hd, rfl⟩ := okP_get ho.1 hn (by simp [lenI])
  obtain ⟨w, hw1, hw2, hw3, hw4, hw5⟩ := ho.2.1.2.1 _ (List.mem_of_getElem? hf)
  intro p e s m args below meth cc H locs ls FF hE hP hD hS hl
  show W _ _ _ _ _ _ _ _ _ _ _ _ _ _ _ (F0 m pc ls (.int (Int32.ofInt z) :: em X ads (.inr (some c)) :: emS X ads st))
  rw [sk_em ho hs]
  have hn1 : narrow (tyT ci k) (.int (Int32.ofInt z)) = .int (Int32.ofInt z) ∧ fits (tyT ci k) (.int (Int32.ofInt z)) = true := by
    rcases hty with h | ⟨h, h2 | h2⟩
    · rw [h]; exact ⟨rfl, rfl⟩
    · rw [h, h2]; exact ⟨rfl, rfl⟩
    · rw [h, h2]; exact ⟨rfl, rfl⟩
  have hlen : k < (fv X ads (σ c) 0 fs).length := by
    rcases Nat.lt_or_ge k (fv X ads (σ c) 0 fs).length with q | q
    · exact q
    · have h2 := List.getElem?_eq_none q
      rw [fv_get, hk] at h2
      simp at h2
  refine va_put FF.1 FF.2.1 (C := w.1) (T := w.2.1) (N := w.2.2) FF.2.2.2.2.2.1 (clAll hw1).1 (tyT ci) (clAll hw1).2.1 (clAll hw1).2.2 FF.2.2.2.2.1 FF.2.2.2.2.2.2.2.2.1 hP hD hS c (mkW_get hs) hw1 k hw2 (FF.2.2.2.2.2.1 _ hw5) (fun x hx => by rw [hw3] at hx; exact hx) (by rw [hw1] at hfin; exact Option.some.inj hfin) ((clAll hw1).2.1 k hw2) hn1.1 hn1.2 hlen hd ?_
  intro H1 locs1 h1 h2 h3
  rw [mkW_wr (i := i) (z := z) hs (by
    rw [fv_set hk]
    simp only [mkc, wr_self, hw4])] at h1 h2
  exact kk p e s m args below meth cc H1 locs1 ls FF hE h1 h2 h3 hl
theorem w_eq {k n : Nat} (h : k = n) : (k : Int) = (n : Int) := by rw [h]
/-- an array's cell is read -/
theorem j_ald (n : Nat) {c N : Nat} {i B : Int} (hn : P[n]? = some (.iaload, pc, pc2)) (hs : sk[c]? = some (.inr (0, N))) (hB : (N : Int) = B) (kk : J X M P tb R kc nc EX F ads sk (pc2, L, .inl (rd σ c i) :: st, σ) res) : J X M P tb R kc nc EX F ads sk (pc, L, .inl i :: .inr (some c) :: st, σ) (grd (0 ≤ i ∧ i < B) res) := by
  refine j_grd (fun hg => J.step (ps2 := (pc2, L, .inl (rd σ c i) :: st, σ)) (fun ho a ha hq => ⟨ha, ⟨hq.1, hq.2.1, nrS_cons (rd_bw _ _ _) (nrS_tail (nrS_tail hq.2.2))⟩, fun Z kk => ?_⟩) kk)
  obtain ⟨hd, rfl⟩ := okP_get ho.1 hn (by simp [lenI])
  subst hB
  have hi : bw i = i := nrS_head hq.2.2
  intro p e s m args below meth cc H locs ls FF hE hP hD hS hl
  show W _ _ _ _ _ _ _ _ _ _ _ _ _ _ _ (F0 m pc ls (.int (Int32.ofInt i) :: em X ads (.inr (some c)) :: emS X ads st))
  rw [sk_em ho hs]
  refine va_iald FF.1 FF.2.1 FF.2.2.2.2.2.2.2.2.1 hP c 0 (mkW_get hs) rfl (in_of hi hg.1 hg.2) hd ?_
  have := kk p e s m args below meth cc H locs ls FF hE hP hD hS hl
  rw [cl_of hi, Int.toNat_of_nonneg hg.1]
  simpa only [emS, List.map_cons, em, rd, Int32.ofInt_toInt, lenI] using this
theorem j_bald (n : Nat) {c N : Nat} {i B : Int} (hn : P[n]? = some (.baload, pc, pc2)) (hs : sk[c]? = some (.inr (1, N))) (hB : (N : Int) = B) (kk : J X M P tb R kc nc EX F ads sk (pc2, L, .inl (rd σ c i) :: st, σ) res) : J X M P tb R kc nc EX F ads sk (pc, L, .inl i :: .inr (some c) :: st, σ) (grd (0 ≤ i ∧ i < B) res) := by
  refine j_grd (fun hg => J.step (ps2 := (pc2, L, .inl (rd σ c i) :: st, σ)) (fun ho a ha hq => ⟨ha, ⟨hq.1, hq.2.1, nrS_cons (rd_bw _ _ _) (nrS_tail (nrS_tail hq.2.2))⟩, fun Z kk => ?_⟩) kk)
  obtain ⟨hd, rfl⟩ := okP_get ho.1 hn (by simp [lenI])
  subst hB
  have hi : bw i = i := nrS_head hq.2.2
  intro p e s m args below meth cc H locs ls FF hE hP hD hS hl
  show W _ _ _ _ _ _ _ _ _ _ _ _ _ _ _ (F0 m pc ls (.int (Int32.ofInt i) :: em X ads (.inr (some c)) :: emS X ads st))
  rw [sk_em ho hs]
  refine va_bald FF.1 FF.2.1 FF.2.2.2.2.2.2.2.2.1 hP c 1 (mkW_get hs) rfl (in_of hi hg.1 hg.2) hd ?_
  have := kk p e s m args below meth cc H locs ls FF hE hP hD hS hl
  rw [cl_of hi, Int.toNat_of_nonneg hg.1]
  simpa only [emS, List.map_cons, em, rd, Int32.ofInt_toInt, lenI] using this
theorem j_zald (n : Nat) {c N : Nat} {i B : Int} (hn : P[n]? = some (.baload, pc, pc2)) (hs : sk[c]? = some (.inr (2, N))) (hB : (N : Int) = B) (kk : J X M P tb R kc nc EX F ads sk (pc2, L, .inl (rd σ c i) :: st, σ) res) : J X M P tb R kc nc EX F ads sk (pc, L, .inl i :: .inr (some c) :: st, σ) (grd (0 ≤ i ∧ i < B) res) := by
  refine j_grd (fun hg => J.step (ps2 := (pc2, L, .inl (rd σ c i) :: st, σ)) (fun ho a ha hq => ⟨ha, ⟨hq.1, hq.2.1, nrS_cons (rd_bw _ _ _) (nrS_tail (nrS_tail hq.2.2))⟩, fun Z kk => ?_⟩) kk)
  obtain ⟨hd, rfl⟩ := okP_get ho.1 hn (by simp [lenI])
  subst hB
  have hi : bw i = i := nrS_head hq.2.2
  intro p e s m args below meth cc H locs ls FF hE hP hD hS hl
  show W _ _ _ _ _ _ _ _ _ _ _ _ _ _ _ (F0 m pc ls (.int (Int32.ofInt i) :: em X ads (.inr (some c)) :: emS X ads st))
  rw [sk_em ho hs]
  refine va_zald FF.1 FF.2.1 FF.2.2.2.2.2.2.2.2.1 hP c 2 (mkW_get hs) rfl (in_of hi hg.1 hg.2) hd ?_
  have := kk p e s m args below meth cc H locs ls FF hE hP hD hS hl
  rw [cl_of hi, Int.toNat_of_nonneg hg.1]
  simpa only [emS, List.map_cons, em, rd, Int32.ofInt_toInt, lenI] using this
theorem upd_wr {f : Nat → Int32} {σ : Sg} {c : Nat} {i z : Int} {x : Int32} (h0 : 0 ≤ i) (hf : f = fun j : Nat => σ c (j : Int)) (hx : x = Int32.ofInt z) : upd f i.toNat x = fun j : Nat => wr σ c i z c (j : Int) := by
  subst hf; subst hx
  funext j
  unfold upd wr
  by_cases h : j = i.toNat
  · rw [if_pos h, if_pos ⟨rfl, by omega⟩]
  · rw [if_neg h, if_neg (fun q => h (by omega))]
/-- an array's cell is written -/
theorem j_ast (n : Nat) {c N : Nat} {i z B : Int} (hn : P[n]? = some (.iastore, pc, pc2)) (hs : sk[c]? = some (.inr (0, N))) (hB : (N : Int) = B) (kk : J X M P tb R kc nc EX F ads sk (pc2, L, st, wr σ c i z) res) : J X M P tb R kc nc EX F ads sk (pc, L, .inl z :: .inl i :: .inr (some c) :: st, σ) (grd (0 ≤ i ∧ i < B) res) := by
  refine j_grd (fun hg => J.step (ps2 := (pc2, L, st, wr σ c i z)) (fun ho a ha hq => ⟨ha, ⟨hq.1, hq.2.1, nrS_tail (nrS_tail (nrS_tail hq.2.2))⟩, fun Z kk => ?_⟩) kk)
  obtain ⟨hd, rfl⟩ := okP_get ho.1 hn (by simp [lenI])
  subst hB
  have hi : bw i = i := nrS_head (nrS_tail hq.2.2)
  intro p e s m args below meth cc H locs ls FF hE hP hD hS hl
  show W _ _ _ _ _ _ _ _ _ _ _ _ _ _ _ (F0 m pc ls (.int (Int32.ofInt z) :: .int (Int32.ofInt i) :: em X ads (.inr (some c)) :: emS X ads st))
  rw [sk_em ho hs]
  refine va_iast FF.1 FF.2.1 FF.2.2.2.2.2.2.2.2.1 hP hD hS c 0 (mkW_get hs) rfl (in_of hi hg.1 hg.2) hd ?_
  intro H1 locs1 h1 h2 h3
  rw [cl_of hi, upd_wr (z := z) hg.1 rfl rfl] at h1 h2
  have ew := mkW_wr (X := X) (ads := ads) (σ := σ) (i := i) (z := z) hs rfl
  exact kk p e s m args below meth cc H1 locs1 ls FF hE (by show va_P _ _ (mkW X ads (wr σ c i (z)) sk) H1; rw [← ew]; exact h1) (by show va_D _ (mkW X ads (wr σ c i (z)) sk); rw [← ew]; exact h2) h3 hl
theorem j_bast (n : Nat) {c N : Nat} {i z B : Int} (hn : P[n]? = some (.bastore, pc, pc2)) (hs : sk[c]? = some (.inr (1, N))) (hB : (N : Int) = B) (kk : J X M P tb R kc nc EX F ads sk (pc2, L, st, wr σ c i (nb z)) res) : J X M P tb R kc nc EX F ads sk (pc, L, .inl z :: .inl i :: .inr (some c) :: st, σ) (grd (0 ≤ i ∧ i < B) res) := by
  refine j_grd (fun hg => J.step (ps2 := (pc2, L, st, wr σ c i (nb z))) (fun ho a ha hq => ⟨ha, ⟨hq.1, hq.2.1, nrS_tail (nrS_tail (nrS_tail hq.2.2))⟩, fun Z kk => ?_⟩) kk)
  obtain ⟨hd, rfl⟩ := okP_get ho.1 hn (by simp [lenI])
  subst hB
  have hi : bw i = i := nrS_head (nrS_tail hq.2.2)
  intro p e s m args below meth cc H locs ls FF hE hP hD hS hl
  show W _ _ _ _ _ _ _ _ _ _ _ _ _ _ _ (F0 m pc ls (.int (Int32.ofInt z) :: .int (Int32.ofInt i) :: em X ads (.inr (some c)) :: emS X ads st))
  rw [sk_em ho hs]
  refine va_bast FF.1 FF.2.1 FF.2.2.2.2.2.2.2.2.1 hP hD hS c 1 (mkW_get hs) rfl (in_of hi hg.1 hg.2) hd ?_
  intro H1 locs1 h1 h2 h3
  rw [cl_of hi, upd_wr (z := nb z) hg.1 rfl (by rw [nb, Int32.ofInt_toInt])] at h1 h2
  have ew := mkW_wr (X := X) (ads := ads) (σ := σ) (i := i) (z := nb z) hs rfl
  exact kk p e s m args below meth cc H1 locs1 ls FF hE (by show va_P _ _ (mkW X ads (wr σ c i (nb z)) sk) H1; rw [← ew]; exact h1) (by show va_D _ (mkW X ads (wr σ c i (nb z)) sk); rw [← ew]; exact h2) h3 hl
theorem j_zast (n : Nat) {c N : Nat} {i z B : Int} (hn : P[n]? = some (.bastore, pc, pc2)) (hs : sk[c]? = some (.inr (2, N))) (hB : (N : Int) = B) (kk : J X M P tb R kc nc EX F ads sk (pc2, L, st, wr σ c i (nz z)) res) : J X M P tb R kc nc EX F ads sk (pc, L, .inl z :: .inl i :: .inr (some c) :: st, σ) (grd (0 ≤ i ∧ i < B) res) := by
  refine j_grd (fun hg => J.step (ps2 := (pc2, L, st, wr σ c i (nz z))) (fun ho a ha hq => ⟨ha, ⟨hq.1, hq.2.1, nrS_tail (nrS_tail (nrS_tail hq.2.2))⟩, fun Z kk => ?_⟩) kk)
  obtain ⟨hd, rfl⟩ := okP_get ho.1 hn (by simp [lenI])
  subst hB
  have hi : bw i = i := nrS_head (nrS_tail hq.2.2)
  intro p e s m args below meth cc H locs ls FF hE hP hD hS hl
  show W _ _ _ _ _ _ _ _ _ _ _ _ _ _ _ (F0 m pc ls (.int (Int32.ofInt z) :: .int (Int32.ofInt i) :: em X ads (.inr (some c)) :: emS X ads st))
  rw [sk_em ho hs]
  refine va_zast FF.1 FF.2.1 FF.2.2.2.2.2.2.2.2.1 hP hD hS c 2 (mkW_get hs) rfl (in_of hi hg.1 hg.2) hd ?_
  intro H1 locs1 h1 h2 h3
  rw [cl_of hi, upd_wr (z := nz z) hg.1 rfl (by rw [nz, Int32.ofInt_toInt])] at h1 h2
  have ew := mkW_wr (X := X) (ads := ads) (σ := σ) (i := i) (z := nz z) hs rfl
  exact kk p e s m args below meth cc H1 locs1 ls FF hE (by show va_P _ _ (mkW X ads (wr σ c i (nz z)) sk) H1; rw [← ew]; exact h1) (by show va_D _ (mkW X ads (wr σ c i (nz z)) sk); rw [← ew]; exact h2) h3 hl
theorem j_alen (n : Nat) {c N : Nat} {B : Int} (hn : P[n]? = some (.arraylength, pc, pc2)) (hs : sk[c]? = some (.inr (0, N))) (hB : (N : Int) = B) (hb : bw B = B) (kk : J X M P tb R kc nc EX F ads sk (pc2, L, .inl B :: st, σ) res) : J X M P tb R kc nc EX F ads sk (pc, L, .inr (some c) :: st, σ) res := by
  refine J.step (ps2 := (pc2, L, .inl B :: st, σ)) (fun ho a ha hq => ⟨ha, ⟨hq.1, hq.2.1, nrS_cons hb (nrS_tail hq.2.2)⟩, fun Z kk => ?_⟩) kk
  obtain ⟨hd, rfl⟩ := okP_get ho.1 hn (by simp [lenI])
  subst hB
  intro p e s m args below meth cc H locs ls FF hE hP hD hS hl
  show W _ _ _ _ _ _ _ _ _ _ _ _ _ _ _ (F0 m pc ls (em X ads (.inr (some c)) :: emS X ads st))
  rw [sk_em ho hs]
  exact va_alen FF.1 FF.2.1 FF.2.2.2.2.2.2.2.2.1 hP c 0 (mkW_get hs) rfl (v := Int32.ofInt (N : Int)) rfl hd (kk p e s m args below meth cc H locs ls FF hE hP hD hS hl)
end JH
end
section
/-! calls and returns -/
section CW
variable {X : Cx} {M : MM} {R : Room} {kc nc : Nat} {EX : EXT} {Z : ZT} {pc : Nat} {L : List (Option Value)} {ws : va_W}
theorem WZ.run {rest st0 : List Value} {mc ms : Nat} {Q : Option Value → va_W → Prop} {a0 : Array Value}
    (hrun : ∀ (p : Program) (e : Env) (s : State) (m : MethodId) (args : Array Value) (below : List Frame) (meth : Method) (c : Code) (H : Heap) (locs : List Loc) (ls : Array Slot), FX X M p s m args meth c → EX args s → va_P X.2.1 vwCl ws H → va_D (AA X) ws → va_S (AA X) s.heap H locs → lvL ls M.2.2.1 L → va_Run p X.1 e R s m args below meth c H locs kc nc mc ms (F0 m pc ls st0) rest (QC X Q a0) (AA X))
    (k : ∀ (r : Option Value) (ws2 : va_W), Q r ws2 → WZ X M R (kc + mc) (nc + ms) EX Z (pc + 3) L (r.toList ++ rest) ws2) : WZ X M R kc nc EX Z pc L st0 ws := by
  intro p e s m args below meth c H locs ls FF hE hP hD hS hl T hT XX
  obtain ⟨v, st₀, t, T', Lc, h0, X', hL, e1, e2, ⟨⟨r, ws2, hv, hq, hw⟩, hz, hk⟩, st⟩ := hrun p e s m args below meth c H locs ls FF hE hP hD hS hl T hT XX
  cases hv
  rw [h0] at hz hk
  obtain ⟨w1, w2, w3, w4, w5⟩ := hw
  have hS2 : va_S (AA X) s.heap T'.heap (locs ++ Lc) := ⟨Nat.le_trans hS.1 (by rw [e1]; exact hz), fun q h1 h2 => by rw [e1, hk q (Nat.lt_of_lt_of_le h1 hS.1) h2]; exact hS.2.1 q h1 h2, fun q hq => by
    rcases List.mem_append.mp hq with h | h
    · exact hS.2.2 q h
    · exact hL q h⟩
  obtain ⟨t2, a1, b1⟩ := k v ws2 hq p e s m args below meth c T'.heap (locs ++ Lc) ls FF hE (by rw [e1]; exact w1) w3 hS2 hl T' rfl X'
  exact ⟨t2, st t2 a1, b1⟩
/-- what the tables say of a method that is called -/
def MW0 (N : MM) (ar : Nat) : Prop := Cond.initialized N.1.cls ∈ TW ∧ Cond.code N.1 N.2.1 N.2.2.1 N.2.2.2.1 ∈ TW ∧ (N.1.cls ≠ "java/lang/invoke/MethodHandle" ∧ N.1.cls ≠ "java/lang/invoke/VarHandle" ∧ (parseMethodDescriptor N.1.desc).map (fun d => d.parameters.length) = some ar)
def MWV (N : MM) (ar : Nat) : Prop := MW0 N ar ∧ Cond.instanceMethod N.1 ∈ TW ∧ Cond.selects N.1.cls N.1 N.1 ∈ TW
def MWS (N : MM) (ar : Nat) : Prop := MW0 N ar ∧ Cond.static N.1 ∈ TW
def MWI (N : MM) (ar : Nat) : Prop := MW0 N ar ∧ Cond.instanceMethod N.1 ∈ TW ∧ N.1.name = "<init>" ∧ N.2.2.2.1 = none
def RoomOK (R : Room) (N : MM) (kc nc mc ms : Nat) : Prop := (N.2.2.2.2 + 1 ≤ R.frames ∧ 8 + (N.2.2.1 + 11) + 64 * N.2.2.2.2 ≤ R.locals) ∧ kc + mc ≤ R.cells ∧ nc + ms ≤ R.slots
theorem w_callV {N : MM} {ar idx mc ms q0 ci : Nat} {As rest : List Value} {a : Nat} {fs : List Value} {q : vw_C} {Q : Option Value → va_W → Prop} (hd : decode M.2.1 pc = .ok (.invokevirtual idx, 3)) (hm : Cond.methodLink M.1.cls idx N.1 ∈ TW) (hw : MWV N ar) (hn : As.length = ar) (hC : CI X N (.ref a :: As) ws mc ms Q) (hq : ws[q0]? = some (a, .inr (ci, fs))) (hcl : vwCl[ci]? = some q) (hcn : q.1 = N.1.cls) (hR : RoomOK R N kc nc mc ms) (hs : (rest.map fun v => v.category).sum ≤ 8)
    (k : ∀ (r : Option Value) (ws2 : va_W), Q r ws2 → WZ X M R (kc + mc) (nc + ms) EX Z (pc + 3) L (r.toList ++ rest) ws2) : WZ X M R kc nc EX Z pc L (As.reverse ++ .ref a :: rest) ws := by
  refine WZ.run (a0 := (Value.ref a :: As).toArray) (fun p e s m args below meth c H locs ls FF hE hP hD hS hl => ?_) k
  have hts := FF.2.2.2.2.2.1
  have hsz : ls.size = M.2.2.1 := hl.1
  refine va_runV (bytes := N.2.1) (maxL := N.2.2.1) (ret := N.2.2.2.1) (Ts := TW) (own := M.1.cls) (C := N.1.cls) (As := As) (b := a) (rest := rest) ⟨FF.1, FF.2.1, FF.2.2.1, FF.2.2.2.2.1, hts⟩ hC ?_ ⟨WD.blind, ?_, fun U hU hW => ⟨rfl, WD.here FF.2.2.2.2.2.2.2.2.1 FF.2.2.2.2.2.2.2.2.2.1 FF.2.2.2.2.2.2.2.2.2.2 hP hD hS hU hW⟩⟩ rfl hn hsz rfl (lv_room hs) hd hR.2
  · exact ⟨callB_of ar hts (tw_good (fun _ h => h) hw.1.2.1) rfl rfl rfl (hts _ hw.1.1) (hts _ hm) hw.1.2.2 hR.1, hts _ hw.2.1, hts _ hw.2.2⟩
  · have := va_recv FF.2.2.2.2.2.2.2.2.1 hP hcl hq
    rw [hcn] at this
    exact this
theorem w_callVN {N : MM} {ar idx mc ms q0 ci : Nat} {As rest : List Value} {a : Nat} {fs : List Value} {q : vw_C} {host : String} {Q : Option Value → va_W → Prop} (hd : decode M.2.1 pc = .ok (.invokevirtual idx, 3)) (hm : Cond.methodLinkNest M.1.cls idx N.1 host ∈ TW) (hw : MWV N ar) (hn : As.length = ar) (hC : CI X N (.ref a :: As) ws mc ms Q) (hq : ws[q0]? = some (a, .inr (ci, fs))) (hcl : vwCl[ci]? = some q) (hcn : q.1 = N.1.cls) (hR : RoomOK R N kc nc mc ms) (hs : (rest.map fun v => v.category).sum ≤ 8)
    (k : ∀ (r : Option Value) (ws2 : va_W), Q r ws2 → WZ X M R (kc + mc) (nc + ms) EX Z (pc + 3) L (r.toList ++ rest) ws2) : WZ X M R kc nc EX Z pc L (As.reverse ++ .ref a :: rest) ws := by
  refine WZ.run (a0 := (Value.ref a :: As).toArray) (fun p e s m args below meth c H locs ls FF hE hP hD hS hl => ?_) k
  have hts := FF.2.2.2.2.2.1
  have hsz : ls.size = M.2.2.1 := hl.1
  refine va_runVN (bytes := N.2.1) (maxL := N.2.2.1) (ret := N.2.2.2.1) (Ts := TW) (own := M.1.cls) (C := N.1.cls) (As := As) (b := a) (rest := rest) (host := host) ⟨FF.1, FF.2.1, FF.2.2.1, FF.2.2.2.2.1, hts⟩ hC ?_ ⟨WD.blind, ?_, fun U hU hW => ⟨rfl, WD.here FF.2.2.2.2.2.2.2.2.1 FF.2.2.2.2.2.2.2.2.2.1 FF.2.2.2.2.2.2.2.2.2.2 hP hD hS hU hW⟩⟩ rfl hn hsz rfl (lv_room hs) hd hR.2
  · exact ⟨va_cnB ar hts (tw_good (fun _ h => h) hw.1.2.1) rfl rfl rfl (va_Nw.of rfl (hts _ hm)) (hts _ hw.1.1) hw.1.2.2 hR.1, hts _ hw.2.1, hts _ hw.2.2⟩
  · have := va_recv FF.2.2.2.2.2.2.2.2.1 hP hcl hq
    rw [hcn] at this
    exact this
theorem w_callS {N : MM} {ar idx mc ms : Nat} {As rest : List Value} {Q : Option Value → va_W → Prop} (hd : decode M.2.1 pc = .ok (.invokestatic idx, 3)) (hm : Cond.methodLink M.1.cls idx N.1 ∈ TW) (hw : MWS N ar) (hn : As.length = ar) (hC : CI X N As ws mc ms Q) (hR : RoomOK R N kc nc mc ms) (hs : (rest.map fun v => v.category).sum ≤ 8)
    (k : ∀ (r : Option Value) (ws2 : va_W), Q r ws2 → WZ X M R (kc + mc) (nc + ms) EX Z (pc + 3) L (r.toList ++ rest) ws2) : WZ X M R kc nc EX Z pc L (As.reverse ++ rest) ws := by
  refine WZ.run (a0 := As.toArray) (fun p e s m args below meth c H locs ls FF hE hP hD hS hl => ?_) k
  have hts := FF.2.2.2.2.2.1
  have hsz : ls.size = M.2.2.1 := hl.1
  refine va_runS (bytes := N.2.1) (maxL := N.2.2.1) (ret := N.2.2.2.1) (Ts := TW) (own := M.1.cls) (As := As) (rest := rest) ⟨FF.1, FF.2.1, FF.2.2.1, FF.2.2.2.2.1, hts⟩ hC ?_ ⟨WD.blind, fun U hU hW => ⟨rfl, WD.here FF.2.2.2.2.2.2.2.2.1 FF.2.2.2.2.2.2.2.2.2.1 FF.2.2.2.2.2.2.2.2.2.2 hP hD hS hU hW⟩⟩ rfl hn hsz rfl (lv_room hs) hd hR.2
  exact ⟨callB_of ar hts (tw_good (fun _ h => h) hw.1.2.1) rfl rfl rfl (hts _ hw.1.1) (hts _ hm) hw.1.2.2 hR.1, hts _ hw.2⟩
theorem w_callSN {N : MM} {ar idx mc ms : Nat} {As rest : List Value} {host : String} {Q : Option Value → va_W → Prop} (hd : decode M.2.1 pc = .ok (.invokestatic idx, 3)) (hm : Cond.methodLinkNest M.1.cls idx N.1 host ∈ TW) (hw : MWS N ar) (hn : As.length = ar) (hC : CI X N As ws mc ms Q) (hR : RoomOK R N kc nc mc ms) (hs : (rest.map fun v => v.category).sum ≤ 8)
    (k : ∀ (r : Option Value) (ws2 : va_W), Q r ws2 → WZ X M R (kc + mc) (nc + ms) EX Z (pc + 3) L (r.toList ++ rest) ws2) : WZ X M R kc nc EX Z pc L (As.reverse ++ rest) ws := by
  refine WZ.run (a0 := As.toArray) (fun p e s m args below meth c H locs ls FF hE hP hD hS hl => ?_) k
  have hts := FF.2.2.2.2.2.1
  have hsz : ls.size = M.2.2.1 := hl.1
  refine va_runSN (bytes := N.2.1) (maxL := N.2.2.1) (ret := N.2.2.2.1) (Ts := TW) (own := M.1.cls) (As := As) (rest := rest) (host := host) ⟨FF.1, FF.2.1, FF.2.2.1, FF.2.2.2.2.1, hts⟩ hC ?_ ⟨WD.blind, fun U hU hW => ⟨rfl, WD.here FF.2.2.2.2.2.2.2.2.1 FF.2.2.2.2.2.2.2.2.2.1 FF.2.2.2.2.2.2.2.2.2.2 hP hD hS hU hW⟩⟩ rfl hn hsz rfl (lv_room hs) hd hR.2
  exact ⟨va_cnB ar hts (tw_good (fun _ h => h) hw.1.2.1) rfl rfl rfl (va_Nw.of rfl (hts _ hm)) (hts _ hw.1.1) hw.1.2.2 hR.1, hts _ hw.2, trivial⟩
theorem w_callI {N : MM} {ar idx mc ms : Nat} {As rest : List Value} {a : Nat} {Q : Option Value → va_W → Prop} (hd : decode M.2.1 pc = .ok (.invokespecial idx, 3)) (hm : Cond.methodLink M.1.cls idx N.1 ∈ TW) (hw : MWI N ar) (hn : As.length = ar) (hC : CI X N (.ref a :: As) ws mc ms Q) (hR : RoomOK R N kc nc mc ms) (hs : (rest.map fun v => v.category).sum ≤ 8)
    (k : ∀ (r : Option Value) (ws2 : va_W), Q r ws2 → WZ X M R (kc + mc) (nc + ms) EX Z (pc + 3) L (r.toList ++ rest) ws2) : WZ X M R kc nc EX Z pc L (As.reverse ++ .ref a :: rest) ws := by
  refine WZ.run (a0 := (Value.ref a :: As).toArray) (fun p e s m args below meth c H locs ls FF hE hP hD hS hl => ?_) k
  have hts := FF.2.2.2.2.2.1
  have hsz : ls.size = M.2.2.1 := hl.1
  have hb := callB_of (R := R) (s := s) (args := args) (own := M.1.cls) (index := idx) (y := N.1) (rm := rmD N.2.2.2.2 mc ms) ar hts (tw_good (fun _ h => h) hw.1.2.1) rfl rfl rfl (hts _ hw.1.1) (hts _ hm) hw.1.2.2 hR.1
  rw [hw.2.2.2] at hb
  unfold CI at hC
  rw [hw.2.2.2] at hC
  refine va_runI (bytes := N.2.1) (maxL := N.2.2.1) (Ts := TW) (own := M.1.cls) (As := As) (b := a) (rest := rest) ⟨FF.1, FF.2.1, FF.2.2.1, FF.2.2.2.2.1, hts⟩ hC ⟨hb, hw.2.2.1, hts _ hw.2.1⟩ ⟨WD.blind, fun U hU hW => ⟨rfl, WD.here FF.2.2.2.2.2.2.2.2.1 FF.2.2.2.2.2.2.2.2.2.1 FF.2.2.2.2.2.2.2.2.2.2 hP hD hS hU hW⟩⟩ rfl hn hsz rfl (lv_room hs) hd hR.2
theorem w_callIN {N : MM} {ar idx mc ms : Nat} {As rest : List Value} {a : Nat} {host : String} {Q : Option Value → va_W → Prop} (hd : decode M.2.1 pc = .ok (.invokespecial idx, 3)) (hm : Cond.methodLinkNest M.1.cls idx N.1 host ∈ TW) (hw : MWI N ar) (hn : As.length = ar) (hC : CI X N (.ref a :: As) ws mc ms Q) (hR : RoomOK R N kc nc mc ms) (hs : (rest.map fun v => v.category).sum ≤ 8)
    (k : ∀ (r : Option Value) (ws2 : va_W), Q r ws2 → WZ X M R (kc + mc) (nc + ms) EX Z (pc + 3) L (r.toList ++ rest) ws2) : WZ X M R kc nc EX Z pc L (As.reverse ++ .ref a :: rest) ws := by
  refine WZ.run (a0 := (Value.ref a :: As).toArray) (fun p e s m args below meth c H locs ls FF hE hP hD hS hl => ?_) k
  have hts := FF.2.2.2.2.2.1
  have hsz : ls.size = M.2.2.1 := hl.1
  have hb := va_cnB (R := R) (s := s) (args := args) (own := M.1.cls) (index := idx) (y := N.1) (host := host) (rm := rmD N.2.2.2.2 mc ms) ar hts (tw_good (fun _ h => h) hw.1.2.1) rfl rfl rfl (va_Nw.of rfl (hts _ hm)) (hts _ hw.1.1) hw.1.2.2 hR.1
  rw [hw.2.2.2] at hb
  unfold CI at hC
  rw [hw.2.2.2] at hC
  refine va_runIN (bytes := N.2.1) (maxL := N.2.2.1) (Ts := TW) (own := M.1.cls) (As := As) (b := a) (rest := rest) (host := host) ⟨FF.1, FF.2.1, FF.2.2.1, FF.2.2.2.2.1, hts⟩ hC ⟨hb, hw.2.2.1, hts _ hw.2.1⟩ ⟨WD.blind, fun U hU hW => ⟨rfl, WD.here FF.2.2.2.2.2.2.2.2.1 FF.2.2.2.2.2.2.2.2.2.1 FF.2.2.2.2.2.2.2.2.2.2 hP hD hS hU hW⟩⟩ rfl hn hsz rfl (lv_room hs) hd hR.2
end CW
/-- results in the pure picture -/
def nrR (N : MM) (r : Option PV) : Prop := ∀ v, r = some v → nrV v ∧ (N.2.2.2.1 = some .boolean → v = .inl 0 ∨ v = .inl 1)
def QM (X : Cx) (ads : List Nat) (sk : List Sk) (a : Option PV × Sg) : Option Value → va_W → Prop := fun v ws => v = a.1.map (em X ads) ∧ ws = mkW X ads a.2 sk
def FM (X : Cx) (N : MM) (ads : List Nat) (sk : List Sk) (a : Option PV × Sg) : Prop × ZT := (nrR N a.1, ZM X (QM X ads sk a) 0 0)
def CF {α : Type} (X : Cx) (N : MM) (ads : List Nat) (sk : List Sk) (As : List PV) (σ : Sg) (w : α → Option PV × Sg) (res : Option α) : Prop :=
  ∀ a, res = some a → nrS As → nrR N (w a).1 ∧ CI X N (As.map (em X ads)) (mkW X ads σ sk) 0 0 (QM X ads sk (w a))
abbrev wP (σ : Sg) : Int → Option PV × Sg := fun r => (some (.inl r), σ)
abbrev wE : Int × Sg → Option PV × Sg := fun q => (some (.inl q.1), q.2)
abbrev wV : Sg → Option PV × Sg := fun τ => (none, τ)
abbrev wR (σ : Sg) : Nat → Option PV × Sg := fun c => (some (.inr (some c)), σ)
def argP (As : List PV) (n : Nat) : List (Option PV) := As.map some ++ List.replicate (n - As.length) none
theorem argP_em (X : Cx) (ads : List Nat) (As : List PV) (n : Nat) : emL X ads (argP As n) = argL (As.map (em X ads)) n := by
  simp [emL, argP, argL, List.map_append, List.map_map, Function.comp_def]
theorem argP_nr {As : List PV} {n : Nat} (h : nrS As) : nrL (argP As n) := by
  intro i v hv
  have := List.mem_of_getElem? hv
  rw [argP, List.mem_append, List.mem_map, List.mem_replicate] at this
  rcases this with ⟨w, h1, h2⟩ | ⟨_, h2⟩
  · cases h2; exact h _ h1
  · cases h2
theorem CF.of {α : Type} {X : Cx} {M : MM} {P : PG} {tb : TB} {ads : List Nat} {sk : List Sk} {As : List PV} {σ : Sg} {w : α → Option PV × Sg} {res : Option α} (ho : okC M P tb ads sk) (hy : plainName M.1.cls = true) (hn : As.length ≤ M.2.2.1)
    (k : J X M P tb (rmD M.2.2.2.2 0 0) 0 0 E0 (fun a => FM X M ads sk (w a)) ads sk (0, argP As M.2.2.1, [], σ) res) : CF X M ads sk As σ w res := by
  intro a ha hA
  have hlen : (argP As M.2.2.1).length = M.2.2.1 := by
    simp [argP]; omega
  obtain ⟨h1, h2⟩ := k ho a ha ⟨hlen, argP_nr hA, fun v hv => absurd hv List.not_mem_nil⟩
  refine ⟨h1, CI.of hy ?_ (by simpa using hn) ?_⟩
  · simp [em_cat]
  · rw [← argP_em]
    exact h2
section JC
variable {α β : Type} {X : Cx} {M : MM} {P : PG} {tb : TB} {R : Room} {kc nc : Nat} {EX : EXT} {F : α → Prop × ZT} {ads : List Nat} {sk : List Sk} {L : List (Option PV)} {st : List PV} {σ : Sg} {res : Option α} {pc pc2 : Nat}
theorem j_iret (n : Nat) {x : Int} {w : β → Option PV × Sg} {a : β} (hn : P[n]? = some (.ireturn, pc, pc2)) (hr : M.2.2.2.1 = some .int) (hw : w a = (some (.inl x), σ)) : J X M P tb R 0 0 EX (fun a => FM X M ads sk (w a)) ads sk (pc, L, [.inl x], σ) (some a) := by
  intro ho a2 ha hq
  cases ha
  obtain ⟨hd, rfl⟩ := okP_get ho.1 hn (by simp [lenI])
  refine ⟨fun v hv => ?_, ?_⟩
  · rw [hw] at hv
    cases hv
    exact ⟨nrS_head hq.2.2, fun h => by rw [hr] at h; cases h⟩
  · intro p e s m args below meth cc H locs ls FF hE hP hD hS hl
    refine W.iret FF.1 FF.2.1 (FF.2.2.2.1.trans hr) (fun t ht hW => ?_) hS.2.2 hd FF.2.2.2.2.2.2.1
    refine ⟨⟨_, _, rfl, ⟨?_, rfl⟩, ?_⟩, hS.F ht⟩
    · rw [hw]; rfl
    · rw [hw]
      exact WD.here FF.2.2.2.2.2.2.2.2.1 FF.2.2.2.2.2.2.2.2.2.1 FF.2.2.2.2.2.2.2.2.2.2 hP hD hS ht hW
theorem j_zret (n : Nat) {x : Int} {w : β → Option PV × Sg} {a : β} (hn : P[n]? = some (.ireturn, pc, pc2)) (hr : M.2.2.2.1 = some .boolean) (hx : x = 0 ∨ x = 1) (hw : w a = (some (.inl x), σ)) : J X M P tb R 0 0 EX (fun a => FM X M ads sk (w a)) ads sk (pc, L, [.inl x], σ) (some a) := by
  intro ho a2 ha hq
  cases ha
  obtain ⟨hd, rfl⟩ := okP_get ho.1 hn (by simp [lenI])
  refine ⟨fun v hv => ?_, ?_⟩
  · rw [hw] at hv
    cases hv
    exact ⟨nrS_head hq.2.2, fun h => by rcases hx with h | h <;> simp [h]⟩
  · intro p e s m args below meth cc H locs ls FF hE hP hD hS hl
    refine W.zret (ty := .boolean) FF.1 FF.2.1 (FF.2.2.2.1.trans hr) (by rcases hx with h | h <;> (rw [h]; rfl)) (fun t ht hW => ?_) hS.2.2 hd FF.2.2.2.2.2.2.1
    refine ⟨⟨_, _, rfl, ⟨?_, rfl⟩, ?_⟩, hS.F ht⟩
    · rw [hw]; rfl
    · rw [hw]
      exact WD.here FF.2.2.2.2.2.2.2.2.1 FF.2.2.2.2.2.2.2.2.2.1 FF.2.2.2.2.2.2.2.2.2.2 hP hD hS ht hW
theorem j_vret (n : Nat) {w : β → Option PV × Sg} {a : β} (hn : P[n]? = some (.return_, pc, pc2)) (hr : M.2.2.2.1 = none) (hw : w a = (none, σ)) : J X M P tb R 0 0 EX (fun a => FM X M ads sk (w a)) ads sk (pc, L, [], σ) (some a) := by
  intro ho a2 ha hq
  cases ha
  obtain ⟨hd, rfl⟩ := okP_get ho.1 hn (by simp [lenI])
  refine ⟨fun v hv => ?_, ?_⟩
  · rw [hw] at hv
    cases hv
  · intro p e s m args below meth cc H locs ls FF hE hP hD hS hl
    refine W.vret FF.1 FF.2.1 (FF.2.2.2.1.trans hr) (fun t ht hW => ?_) hS.2.2 hd FF.2.2.2.2.2.2.1
    refine ⟨⟨_, _, rfl, ⟨?_, rfl⟩, ?_⟩, hS.F ht⟩
    · rw [hw]; rfl
    · rw [hw]
      exact WD.here FF.2.2.2.2.2.2.2.2.1 FF.2.2.2.2.2.2.2.2.2.1 FF.2.2.2.2.2.2.2.2.2.2 hP hD hS ht hW
theorem j_aret (n : Nat) {c : Nat} {ty : String} {w : β → Option PV × Sg} {a : β} (hn : P[n]? = some (.areturn, pc, pc2)) (hr : M.2.2.2.1 = some (.object ty)) (hw : w a = (some (.inr (some c)), σ)) : J X M P tb R 0 0 EX (fun a => FM X M ads sk (w a)) ads sk (pc, L, [.inr (some c)], σ) (some a) := by
  intro ho a2 ha hq
  cases ha
  obtain ⟨hd, rfl⟩ := okP_get ho.1 hn (by simp [lenI])
  refine ⟨fun v hv => ?_, ?_⟩
  · rw [hw] at hv
    cases hv
    exact ⟨trivial, fun h => by rw [hr] at h; cases h⟩
  · intro p e s m args below meth cc H locs ls FF hE hP hD hS hl
    refine W.aret FF.1 FF.2.1 (FF.2.2.2.1.trans hr) (Or.inl ⟨_, rfl⟩) (Or.inr ⟨_, rfl⟩) (fun t ht hW => ?_) hS.2.2 hd FF.2.2.2.2.2.2.1
    refine ⟨⟨_, _, rfl, ⟨?_, rfl⟩, ?_⟩, hS.F ht⟩
    · rw [hw]; rfl
    · rw [hw]
      exact WD.here FF.2.2.2.2.2.2.2.2.1 FF.2.2.2.2.2.2.2.2.2.1 FF.2.2.2.2.2.2.2.2.2.2 hP hD hS ht hW
theorem em_sum {st : List PV} (h : st.length ≤ 8) : ((emS X ads st).map fun v => v.category).sum ≤ 8 := by
  have : ∀ st : List PV, ((emS X ads st).map fun v => v.category).sum = st.length := by
    intro st
    induction st with
    | nil => rfl
    | cons v t ih => 
      show ((em X ads v).category :: (emS X ads t).map fun v => v.category).sum = _
      rw [List.sum_cons, ih, em_cat, List.length_cons]; omega
  rw [this]; exact h
theorem nrS_rev {As st : List PV} (h : nrS (As.reverse ++ st)) : nrS As ∧ nrS st := ⟨fun v hv => h v (List.mem_append_left _ (List.mem_reverse.mpr hv)), fun v hv => h v (List.mem_append_right _ hv)⟩
theorem nrS_res {N : MM} {r : Option PV} {st : List PV} (h : nrR N r) (h2 : nrS st) : nrS (r.toList ++ st) := by
  intro v hv
  rcases List.mem_append.mp hv with q | q
  · cases r with
    | none => simp at q
    | some x => simp at q; subst q; exact (h _ rfl).1
  · exact h2 v q
theorem emS_app (As st : List PV) : emS X ads (As ++ st) = emS X ads As ++ emS X ads st := by simp [emS]
theorem emS_res (r : Option PV) (st : List PV) : (r.map (em X ads)).toList ++ emS X ads st = emS X ads (r.toList ++ st) := by
  cases r <;> simp [emS]
/-- a virtual call -/
theorem j_cv (n j ar : Nat) {N : MM} {idx c ci : Nat} {fs : List (Option (Option Nat))} {q : vw_C} {As st0 : List PV} {w : β → Option PV × Sg} {r0 : Option β} {K : β → Option α} (hn : P[n]? = some (.invokevirtual idx, pc, pc2)) (hm : tb.2.2.1[j]? = some (idx, N.1)) (hw : MWV N ar) (hs : sk[c]? = some (.inl (ci, fs))) (hcl : vwCl[ci]? = some q) (hcn : q.1 = N.1.cls) (hC : CF X N ads sk (.inr (some c) :: As) σ w r0) (hlen : As.length = ar) (hst : As.reverse ++ .inr (some c) :: st = st0) (hR : RoomOK R N kc nc 0 0) (h8 : st.length ≤ 8)
    (k : ∀ a, r0 = some a → nrR N (w a).1 → J X M P tb R kc nc EX F ads sk (pc2, L, (w a).1.toList ++ st, (w a).2) (K a)) : J X M P tb R kc nc EX F ads sk (pc, L, st0, σ) (r0.bind K) := by
  intro ho b hb hq
  obtain ⟨a, h1, h2⟩ := Option.bind_eq_some_iff.mp hb
  obtain ⟨hd, rfl⟩ := okP_get ho.1 hn (by simp [lenI])
  subst hst
  have hA := nrS_rev (As := As) (st := .inr (some c) :: st) hq.2.2
  obtain ⟨c1, c2⟩ := hC a h1 (nrS_cons trivial hA.1)
  have k1 := k a h1 c1 ho b h2 ⟨hq.1, hq.2.1, nrS_res c1 (nrS_tail hA.2)⟩
  refine ⟨k1.1, ?_⟩
  rw [List.map_cons, sk_em ho hs] at c2
  show WZ _ _ _ _ _ _ _ _ _ (emS X ads (As.reverse ++ .inr (some c) :: st)) _
  have e1 : emS X ads (As.reverse ++ .inr (some c) :: st) = (As.map (em X ads)).reverse ++ .ref (ads.getD c 0) :: emS X ads st := by
    rw [emS_app]
    simp only [emS, List.map_cons, List.map_reverse, sk_em ho hs]
  rw [e1]
  refine w_callV hd (ho.2.1.2.2.1 _ (List.mem_of_getElem? hm)) hw (by simpa using hlen) c2 (mkW_get hs) hcl hcn hR (em_sum h8) ?_
  rintro r ws2 ⟨rfl, rfl⟩
  rw [emS_res]
  exact k1.2
/-- a static call -/
theorem j_cs (n j ar : Nat) {N : MM} {idx : Nat} {As st0 : List PV} {w : β → Option PV × Sg} {r0 : Option β} {K : β → Option α} (hn : P[n]? = some (.invokestatic idx, pc, pc2)) (hm : tb.2.2.1[j]? = some (idx, N.1)) (hw : MWS N ar) (hC : CF X N ads sk As σ w r0) (hlen : As.length = ar) (hst : As.reverse ++ st = st0) (hR : RoomOK R N kc nc 0 0) (h8 : st.length ≤ 8)
    (k : ∀ a, r0 = some a → nrR N (w a).1 → J X M P tb R kc nc EX F ads sk (pc2, L, (w a).1.toList ++ st, (w a).2) (K a)) : J X M P tb R kc nc EX F ads sk (pc, L, st0, σ) (r0.bind K) := by
  intro ho b hb hq
  obtain ⟨a, h1, h2⟩ := Option.bind_eq_some_iff.mp hb
  obtain ⟨hd, rfl⟩ := okP_get ho.1 hn (by simp [lenI])
  subst hst
  have hA := nrS_rev (As := As) (st := st) hq.2.2
  obtain ⟨c1, c2⟩ := hC a h1 hA.1
  have k1 := k a h1 c1 ho b h2 ⟨hq.1, hq.2.1, nrS_res c1 hA.2⟩
  refine ⟨k1.1, ?_⟩
  show WZ _ _ _ _ _ _ _ _ _ (emS X ads (As.reverse ++ st)) _
  have e1 : emS X ads (As.reverse ++ st) = (As.map (em X ads)).reverse ++ emS X ads st := by
    rw [emS_app]
    simp only [emS, List.map_reverse]
  rw [e1]
  refine w_callS hd (ho.2.1.2.2.1 _ (List.mem_of_getElem? hm)) hw (by simpa using hlen) c2 hR (em_sum h8) ?_
  rintro r ws2 ⟨rfl, rfl⟩
  rw [emS_res]
  exact k1.2
theorem j_cvN (n j ar : Nat) {N : MM} {idx c ci : Nat} {host : String} {fs : List (Option (Option Nat))} {q : vw_C} {As st0 : List PV} {w : β → Option PV × Sg} {r0 : Option β} {K : β → Option α} (hn : P[n]? = some (.invokevirtual idx, pc, pc2)) (hm : tb.2.2.2.1[j]? = some (idx, N.1, host)) (hw : MWV N ar) (hs : sk[c]? = some (.inl (ci, fs))) (hcl : vwCl[ci]? = some q) (hcn : q.1 = N.1.cls) (hC : CF X N ads sk (.inr (some c) :: As) σ w r0) (hlen : As.length = ar) (hst : As.reverse ++ .inr (some c) :: st = st0) (hR : RoomOK R N kc nc 0 0) (h8 : st.length ≤ 8)
    (k : ∀ a, r0 = some a → nrR N (w a).1 → J X M P tb R kc nc EX F ads sk (pc2, L, (w a).1.toList ++ st, (w a).2) (K a)) : J X M P tb R kc nc EX F ads sk (pc, L, st0, σ) (r0.bind K) := by
  intro ho b hb hq
  obtain ⟨a, h1, h2⟩ := Option.bind_eq_some_iff.mp hb
  obtain ⟨hd, rfl⟩ := okP_get ho.1 hn (by simp [lenI])
  subst hst
  have hA := nrS_rev (As := As) (st := .inr (some c) :: st) hq.2.2
  obtain ⟨c1, c2⟩ := hC a h1 (nrS_cons trivial hA.1)
  have k1 := k a h1 c1 ho b h2 ⟨hq.1, hq.2.1, nrS_res c1 (nrS_tail hA.2)⟩
  refine ⟨k1.1, ?_⟩
  rw [List.map_cons, sk_em ho hs] at c2
  show WZ _ _ _ _ _ _ _ _ _ (emS X ads (As.reverse ++ .inr (some c) :: st)) _
  have e1 : emS X ads (As.reverse ++ .inr (some c) :: st) = (As.map (em X ads)).reverse ++ .ref (ads.getD c 0) :: emS X ads st := by
    rw [emS_app]
    simp only [emS, List.map_cons, List.map_reverse, sk_em ho hs]
  rw [e1]
  refine w_callVN hd (ho.2.1.2.2.2.1 _ (List.mem_of_getElem? hm)) hw (by simpa using hlen) c2 (mkW_get hs) hcl hcn hR (em_sum h8) ?_
  rintro r ws2 ⟨rfl, rfl⟩
  rw [emS_res]
  exact k1.2
theorem j_csN (n j ar : Nat) {N : MM} {idx : Nat} {host : String} {As st0 : List PV} {w : β → Option PV × Sg} {r0 : Option β} {K : β → Option α} (hn : P[n]? = some (.invokestatic idx, pc, pc2)) (hm : tb.2.2.2.1[j]? = some (idx, N.1, host)) (hw : MWS N ar) (hC : CF X N ads sk As σ w r0) (hlen : As.length = ar) (hst : As.reverse ++ st = st0) (hR : RoomOK R N kc nc 0 0) (h8 : st.length ≤ 8)
    (k : ∀ a, r0 = some a → nrR N (w a).1 → J X M P tb R kc nc EX F ads sk (pc2, L, (w a).1.toList ++ st, (w a).2) (K a)) : J X M P tb R kc nc EX F ads sk (pc, L, st0, σ) (r0.bind K) := by
  intro ho b hb hq
  obtain ⟨a, h1, h2⟩ := Option.bind_eq_some_iff.mp hb
  obtain ⟨hd, rfl⟩ := okP_get ho.1 hn (by simp [lenI])
  subst hst
  have hA := nrS_rev (As := As) (st := st) hq.2.2
  obtain ⟨c1, c2⟩ := hC a h1 hA.1
  have k1 := k a h1 c1 ho b h2 ⟨hq.1, hq.2.1, nrS_res c1 hA.2⟩
  refine ⟨k1.1, ?_⟩
  show WZ _ _ _ _ _ _ _ _ _ (emS X ads (As.reverse ++ st)) _
  have e1 : emS X ads (As.reverse ++ st) = (As.map (em X ads)).reverse ++ emS X ads st := by
    rw [emS_app]
    simp only [emS, List.map_reverse]
  rw [e1]
  refine w_callSN hd (ho.2.1.2.2.2.1 _ (List.mem_of_getElem? hm)) hw (by simpa using hlen) c2 hR (em_sum h8) ?_
  rintro r ws2 ⟨rfl, rfl⟩
  rw [emS_res]
  exact k1.2
end JC
end
section
/-! arraycopy, switches, null tests, texts' references -/
theorem mkW_upd {X : Cx} {ads : List Nat} {σ τ : Sg} {sk : List Sk} {c : Nat} {s : Sk} {e : va_E} (h : sk[c]? = some s) (ho : ∀ c2, c2 ≠ c → τ c2 = σ c2) (he : mkc X ads (τ c) s = e) : (mkW X ads σ sk).set c (ads.getD c 0, e) = mkW X ads τ sk := by
  subst he
  apply List.ext_getElem?
  intro j
  rw [List.getElem?_set]
  by_cases hj : c = j
  · subst hj
    have hl : c < (mkW X ads σ sk).length := by
      rw [mkW, List.length_mapIdx]
      exact (List.getElem?_eq_some_iff.mp h).1
    rw [if_pos rfl, if_pos hl, mkW_get h]
  · rw [if_neg hj, mkW, mkW, List.getElem?_mapIdx, List.getElem?_mapIdx, ho j (fun q => hj q.symm)]
theorem acw_n : Cond.native arraycopyName ∈ TW := tw_of (i := 503) (by decide +kernel) (by decide +kernel)
theorem acw_s : Cond.static arraycopyName ∈ TW := tw_of (i := 502) (by decide +kernel) (by decide +kernel)
theorem acw_i : Cond.initialized "java/lang/System" ∈ TW := tw_of (i := 14) (by decide +kernel) (by decide +kernel)
section JM
variable {α : Type} {X : Cx} {M : MM} {P : PG} {tb : TB} {R : Room} {kc nc : Nat} {EX : EXT} {F : α → Prop × ZT} {ads : List Nat} {sk : List Sk} {L : List (Option PV)} {st : List PV} {σ : Sg} {res : Option α} {pc pc2 : Nat}
theorem em_sum_eq : ∀ st : List PV, ((emS X ads st).map fun v => v.category).sum = st.length := by
  intro st
  induction st with
  | nil => rfl
  | cons v t ih =>
    show ((em X ads v).category :: (emS X ads t).map fun v => v.category).sum = _
    rw [List.sum_cons, ih, em_cat, List.length_cons]; omega
theorem j_copy (n j : Nat) {idx c0 c1 N0 N1 : Nat} {sp dp k B0 B1 : Int} (hn : P[n]? = some (.invokestatic idx, pc, pc2)) (hm : tb.2.2.1[j]? = some (idx, arraycopyName)) (hs0 : sk[c0]? = some (.inr (0, N0))) (hs1 : sk[c1]? = some (.inr (0, N1))) (hB0 : (N0 : Int) = B0) (hB1 : (N1 : Int) = B1) (hR : 1 ≤ R.frames ∧ st.length + (nativeFrameWords "java/lang/System" "arraycopy" 5 + 11) ≤ R.locals)
    (kk : J X M P tb R kc nc EX F ads sk (pc2, L, st, cpy σ c0 sp c1 dp k) res) : J X M P tb R kc nc EX F ads sk (pc, L, .inl k :: .inl dp :: .inr (some c1) :: .inl sp :: .inr (some c0) :: st, σ) (grd (0 ≤ sp ∧ 0 ≤ dp ∧ 0 ≤ k ∧ sp + k ≤ B0 ∧ dp + k ≤ B1) res) := by
  refine j_grd (fun hg => J.step (ps2 := (pc2, L, st, cpy σ c0 sp c1 dp k)) (fun ho a ha hq => ⟨ha, ⟨hq.1, hq.2.1, nrS_tail (nrS_tail (nrS_tail (nrS_tail (nrS_tail hq.2.2))))⟩, fun Z kk => ?_⟩) kk)
  obtain ⟨hd, rfl⟩ := okP_get ho.1 hn (by simp [lenI])
  subst hB0; subst hB1
  obtain ⟨g1, g2, g3, g4, g5⟩ := hg
  have hk : bw k = k := nrS_head hq.2.2
  have hdp : bw dp = dp := nrS_head (nrS_tail hq.2.2)
  have hsp : bw sp = sp := nrS_head (nrS_tail (nrS_tail (nrS_tail hq.2.2)))
  intro p e s m args below meth cc H locs ls FF hE hP hD hS hl
  show W _ _ _ _ _ _ _ _ _ _ _ _ _ _ _ (F0 m pc ls (.int (Int32.ofInt k) :: .int (Int32.ofInt dp) :: em X ads (.inr (some c1)) :: .int (Int32.ofInt sp) :: em X ads (.inr (some c0)) :: emS X ads st))
  rw [sk_em ho hs0, sk_em ho hs1]
  have hts := FF.2.2.2.2.2.1
  have nn : ∀ {z : Int}, bw z = z → 0 ≤ z → ¬ Int32.ofInt z < 0 := fun hz h0 q => by
    have := (ofI_lt hz (y := 0) rfl).mp q
    omega
  refine va_copyi FF.1 FF.2.1 (FF.2.2.1.trans hl.1.symm) FF.2.2.2.2.1 (hts _ (ho.2.1.2.2.1 _ (List.mem_of_getElem? hm))) (hts _ acw_n) (hts _ acw_s) (hts _ acw_i) FF.2.2.2.2.2.2.2.2.1 hP hD hS c0 c1 0 0 (mkW_get hs0) (mkW_get hs1) rfl rfl rfl (nn hsp g1) (nn hdp g2) (nn hk g3) (by rw [cl_of hsp, cl_of hk]; omega) (by rw [cl_of hdp, cl_of hk]; omega) (fun _ _ => rfl) hR.1 ?_ hd ?_
  · rw [em_sum_eq]; exact hR.2
  · intro H1 locs1 h1 h2 h3
    have ew := mkW_upd (X := X) (ads := ads) (σ := σ) (τ := cpy σ c0 sp c1 dp k) (s := .inr (0, N1)) hs1 (fun c2 h => by funext i; unfold cpy; rw [if_neg (fun q => h q.1)]) rfl
    have ev : va_cpy (fun j : Nat => σ c0 (j : Int)) (fun j : Nat => σ c1 (j : Int)) (Int32.ofInt sp).toNatClampNeg (Int32.ofInt dp).toNatClampNeg (Int32.ofInt k).toNatClampNeg = fun j : Nat => cpy σ c0 sp c1 dp k c1 (j : Int) := by
      rw [cl_of hsp, cl_of hdp, cl_of hk]
      funext i
      unfold va_cpy cpy
      by_cases h : dp.toNat ≤ i ∧ i < dp.toNat + k.toNat
      · rw [if_pos h, if_pos ⟨rfl, by omega, by omega⟩]
        show σ c0 ((sp.toNat + (i - dp.toNat) : Nat) : Int) = _
        rw [show ((sp.toNat + (i - dp.toNat) : Nat) : Int) = sp + ((i : Int) - dp) by omega]
      · rw [if_neg h, if_neg (fun q => h ⟨by omega, by omega⟩)]
    rw [ev] at h1 h2
    exact kk p e s m args below meth cc H1 locs1 ls FF hE (by show va_P _ _ (mkW X ads (cpy σ c0 sp c1 dp k) sk) H1; rw [← ew]; exact h1) (by show va_D _ (mkW X ads (cpy σ c0 sp c1 dp k) sk); rw [← ew]; exact h2) h3 hl
theorem j_tsIn (n : Nat) {dflt lo hi off x v : Int} {offs : Array Int} {tgt : Nat} (hn : P[n]? = some (.tableswitch dflt lo hi offs, pc, pc2)) (hx : x = v) (hr : lo ≤ v ∧ v ≤ hi) (ho1 : offs[(v - lo).toNat]? = some off) (ht : (pc : Int) + off = (tgt : Int)) (k : J X M P tb R kc nc EX F ads sk (tgt, L, st, σ) res) : J X M P tb R kc nc EX F ads sk (pc, L, .inl x :: st, σ) res := by
  refine J.step (ps2 := (tgt, L, st, σ)) (fun ho a ha hq => ⟨ha, ⟨hq.1, hq.2.1, nrS_tail hq.2.2⟩, fun Z kk => ?_⟩) k
  have hd := okP_sw ho.1 hn rfl
  have hb : bw x = x := nrS_head hq.2.2
  subst hx
  exact w_tsIn hd (by rw [ofI_toInt hb]; omega) (by rw [ofI_toInt hb]; omega) (by rw [ofI_toInt hb]; exact ho1) ht kk
theorem j_tsOut (n : Nat) {dflt lo hi x : Int} {offs : Array Int} {tgt : Nat} (hn : P[n]? = some (.tableswitch dflt lo hi offs, pc, pc2)) (hx : x < lo ∨ hi < x) (ht : (pc : Int) + dflt = (tgt : Int)) (k : J X M P tb R kc nc EX F ads sk (tgt, L, st, σ) res) : J X M P tb R kc nc EX F ads sk (pc, L, .inl x :: st, σ) res := by
  refine J.step (ps2 := (tgt, L, st, σ)) (fun ho a ha hq => ⟨ha, ⟨hq.1, hq.2.1, nrS_tail hq.2.2⟩, fun Z kk => ?_⟩) k
  have hd := okP_sw ho.1 hn rfl
  have hb : bw x = x := nrS_head hq.2.2
  exact w_tsOut hd (by rw [ofI_toInt hb]; exact hx) ht kk
theorem j_ls (n : Nat) {dflt x off : Int} {ps : Array (Int × Int)} {tgt : Nat} (hn : P[n]? = some (.lookupswitch dflt ps, pc, pc2)) (hp : (ps.toList.zip (ps.toList.drop 1)).all (fun (a, next) => a.1 < next.1) = true) (ho1 : Op.lookupswitch.offset ps.toList dflt x = off) (ht : (pc : Int) + off = (tgt : Int)) (k : J X M P tb R kc nc EX F ads sk (tgt, L, st, σ) res) : J X M P tb R kc nc EX F ads sk (pc, L, .inl x :: st, σ) res := by
  refine J.step (ps2 := (tgt, L, st, σ)) (fun ho a ha hq => ⟨ha, ⟨hq.1, hq.2.1, nrS_tail hq.2.2⟩, fun Z kk => ?_⟩) k
  have hd := okP_sw ho.1 hn rfl
  have hb : bw x = x := nrS_head hq.2.2
  exact w_ls hd hp (by rw [ofI_toInt hb]; exact ho1) ht kk
theorem j_nnT (n : Nat) {off : Int} {tgt c : Nat} (hn : P[n]? = some (.ifnonnull off, pc, pc2)) (ht : (pc : Int) + off = (tgt : Int)) (k : J X M P tb R kc nc EX F ads sk (tgt, L, st, σ) res) : J X M P tb R kc nc EX F ads sk (pc, L, .inr (some c) :: st, σ) res := by
  refine J.step (ps2 := (tgt, L, st, σ)) (fun ho a ha hq => ⟨ha, ⟨hq.1, hq.2.1, nrS_tail hq.2.2⟩, fun Z kk => ?_⟩) k
  obtain ⟨hd, rfl⟩ := okP_get ho.1 hn (by simp [lenI])
  exact w_ifnonnull hd ht kk
theorem j_nnF (n : Nat) {off : Int} (hn : P[n]? = some (.ifnonnull off, pc, pc2)) (k : J X M P tb R kc nc EX F ads sk (pc2, L, st, σ) res) : J X M P tb R kc nc EX F ads sk (pc, L, .inr none :: st, σ) res := by
  refine J.step (ps2 := (pc2, L, st, σ)) (fun ho a ha hq => ⟨ha, ⟨hq.1, hq.2.1, nrS_tail hq.2.2⟩, fun Z kk => ?_⟩) k
  obtain ⟨hd, rfl⟩ := okP_get ho.1 hn (by simp [lenI])
  exact w_ifnonnullN hd kk
/-- a text constant's reference: cell 1000 + its number -/
theorem j_ldcS (n j : Nat) {idx i : Nat} (hn : P[n]? = some (.ldc idx, pc, pc2)) (hj : tb.2.2.2.2[j]? = some (idx, i)) (k : J X M P tb R kc nc EX F ads sk (pc2, L, .inr (some (1000 + i)) :: st, σ) res) : J X M P tb R kc nc EX F ads sk (pc, L, st, σ) res := by
  refine J.step (ps2 := (pc2, L, .inr (some (1000 + i)) :: st, σ)) (fun ho a ha hq => ⟨ha, ⟨hq.1, hq.2.1, nrS_cons trivial hq.2.2⟩, fun Z kk => ?_⟩) k
  obtain ⟨hd, rfl⟩ := okP_get ho.1 hn (by simp [lenI])
  obtain ⟨h1, h2, h3⟩ := ho.2.1.2.2.2.2 _ (List.mem_of_getElem? hj)
  refine w_ldcS i h1 h2 h3 hd ?_
  have : em X ads (.inr (some (1000 + i))) = .ref (X.2.2.2.2.1 i) := by
    show Value.ref (ea X ads (1000 + i)) = _
    rw [ea, if_neg (by omega), show 1000 + i - 1000 = i by omega]
  have kk2 : WZ X M R kc nc EX Z (pc + 2) (emL X ads L) (em X ads (.inr (some (1000 + i))) :: emS X ads st) (mkW X ads σ sk) := kk
  rw [this] at kk2
  exact kk2
end JM
end
section
/-! branches by the ite of a result (c: an Option; t: a value); calls whose result is a plain value -/
section JI
variable {α β : Type} {X : Cx} {M : MM} {P : PG} {tb : TB} {R : Room} {kc nc : Nat} {EX : EXT} {F : α → Prop × ZT} {ads : List Nat} {sk : List Sk} {L : List (Option PV)} {st : List PV} {σ : Sg} {pc pc2 : Nat}
theorem jc_icmp_eq (n : Nat) {off : Int} {tgt : Nat} {x y : Int} {r1 r2 : Option α} (hn : P[n]? = some (.if_icmp .eq off, pc, pc2)) (ht : (pc : Int) + off = (tgt : Int)) (k1 : x = y → J X M P tb R kc nc EX F ads sk (tgt, L, st, σ) r1) (k2 : ¬ (x = y) → J X M P tb R kc nc EX F ads sk (pc2, L, st, σ) r2) : J X M P tb R kc nc EX F ads sk (pc, L, (.inl y :: .inl x :: st), σ) (if x = y then r1 else r2) := by
  refine jb_icmp n (x = y) hn ht Iff.rfl (fun h => ?_) (fun h => ?_)
  · rw [if_pos h]; exact k1 h
  · rw [if_neg h]; exact k2 h
theorem jt_icmp_eq (n : Nat) {off : Int} {tgt : Nat} {x y : Int} {r1 r2 : α} (hn : P[n]? = some (.if_icmp .eq off, pc, pc2)) (ht : (pc : Int) + off = (tgt : Int)) (k1 : x = y → J X M P tb R kc nc EX F ads sk (tgt, L, st, σ) (some r1)) (k2 : ¬ (x = y) → J X M P tb R kc nc EX F ads sk (pc2, L, st, σ) (some r2)) : J X M P tb R kc nc EX F ads sk (pc, L, (.inl y :: .inl x :: st), σ) (some (if x = y then r1 else r2)) := by
  refine jb_icmp n (x = y) hn ht Iff.rfl (fun h => ?_) (fun h => ?_)
  · rw [if_pos h]; exact k1 h
  · rw [if_neg h]; exact k2 h
theorem jc_icmp_ne (n : Nat) {off : Int} {tgt : Nat} {x y : Int} {r1 r2 : Option α} (hn : P[n]? = some (.if_icmp .ne off, pc, pc2)) (ht : (pc : Int) + off = (tgt : Int)) (k1 : x = y → J X M P tb R kc nc EX F ads sk (pc2, L, st, σ) r1) (k2 : ¬ (x = y) → J X M P tb R kc nc EX F ads sk (tgt, L, st, σ) r2) : J X M P tb R kc nc EX F ads sk (pc, L, (.inl y :: .inl x :: st), σ) (if x = y then r1 else r2) := by
  refine jb_icmp n (¬ x = y) hn ht Iff.rfl (fun h => ?_) (fun h => ?_)
  · rw [if_neg h]; exact k2 h
  · rw [if_pos (Decidable.of_not_not h)]; exact k1 (Decidable.of_not_not h)
theorem jt_icmp_ne (n : Nat) {off : Int} {tgt : Nat} {x y : Int} {r1 r2 : α} (hn : P[n]? = some (.if_icmp .ne off, pc, pc2)) (ht : (pc : Int) + off = (tgt : Int)) (k1 : x = y → J X M P tb R kc nc EX F ads sk (pc2, L, st, σ) (some r1)) (k2 : ¬ (x = y) → J X M P tb R kc nc EX F ads sk (tgt, L, st, σ) (some r2)) : J X M P tb R kc nc EX F ads sk (pc, L, (.inl y :: .inl x :: st), σ) (some (if x = y then r1 else r2)) := by
  refine jb_icmp n (¬ x = y) hn ht Iff.rfl (fun h => ?_) (fun h => ?_)
  · rw [if_neg h]; exact k2 h
  · rw [if_pos (Decidable.of_not_not h)]; exact k1 (Decidable.of_not_not h)
theorem jc_icmp_lt (n : Nat) {off : Int} {tgt : Nat} {x y : Int} {r1 r2 : Option α} (hn : P[n]? = some (.if_icmp .lt off, pc, pc2)) (ht : (pc : Int) + off = (tgt : Int)) (k1 : x < y → J X M P tb R kc nc EX F ads sk (tgt, L, st, σ) r1) (k2 : ¬ (x < y) → J X M P tb R kc nc EX F ads sk (pc2, L, st, σ) r2) : J X M P tb R kc nc EX F ads sk (pc, L, (.inl y :: .inl x :: st), σ) (if x < y then r1 else r2) := by
  refine jb_icmp n (x < y) hn ht Iff.rfl (fun h => ?_) (fun h => ?_)
  · rw [if_pos h]; exact k1 h
  · rw [if_neg h]; exact k2 h
theorem jt_icmp_lt (n : Nat) {off : Int} {tgt : Nat} {x y : Int} {r1 r2 : α} (hn : P[n]? = some (.if_icmp .lt off, pc, pc2)) (ht : (pc : Int) + off = (tgt : Int)) (k1 : x < y → J X M P tb R kc nc EX F ads sk (tgt, L, st, σ) (some r1)) (k2 : ¬ (x < y) → J X M P tb R kc nc EX F ads sk (pc2, L, st, σ) (some r2)) : J X M P tb R kc nc EX F ads sk (pc, L, (.inl y :: .inl x :: st), σ) (some (if x < y then r1 else r2)) := by
  refine jb_icmp n (x < y) hn ht Iff.rfl (fun h => ?_) (fun h => ?_)
  · rw [if_pos h]; exact k1 h
  · rw [if_neg h]; exact k2 h
theorem jc_icmp_ge (n : Nat) {off : Int} {tgt : Nat} {x y : Int} {r1 r2 : Option α} (hn : P[n]? = some (.if_icmp .ge off, pc, pc2)) (ht : (pc : Int) + off = (tgt : Int)) (k1 : x < y → J X M P tb R kc nc EX F ads sk (pc2, L, st, σ) r1) (k2 : ¬ (x < y) → J X M P tb R kc nc EX F ads sk (tgt, L, st, σ) r2) : J X M P tb R kc nc EX F ads sk (pc, L, (.inl y :: .inl x :: st), σ) (if x < y then r1 else r2) := by
  refine jb_icmp n (y ≤ x) hn ht Iff.rfl (fun h => ?_) (fun h => ?_)
  · rw [if_neg (Int.not_lt.mpr h)]; exact k2 (Int.not_lt.mpr h)
  · rw [if_pos (Int.not_le.mp h)]; exact k1 (Int.not_le.mp h)
theorem jt_icmp_ge (n : Nat) {off : Int} {tgt : Nat} {x y : Int} {r1 r2 : α} (hn : P[n]? = some (.if_icmp .ge off, pc, pc2)) (ht : (pc : Int) + off = (tgt : Int)) (k1 : x < y → J X M P tb R kc nc EX F ads sk (pc2, L, st, σ) (some r1)) (k2 : ¬ (x < y) → J X M P tb R kc nc EX F ads sk (tgt, L, st, σ) (some r2)) : J X M P tb R kc nc EX F ads sk (pc, L, (.inl y :: .inl x :: st), σ) (some (if x < y then r1 else r2)) := by
  refine jb_icmp n (y ≤ x) hn ht Iff.rfl (fun h => ?_) (fun h => ?_)
  · rw [if_neg (Int.not_lt.mpr h)]; exact k2 (Int.not_lt.mpr h)
  · rw [if_pos (Int.not_le.mp h)]; exact k1 (Int.not_le.mp h)
theorem jc_icmp_gt (n : Nat) {off : Int} {tgt : Nat} {x y : Int} {r1 r2 : Option α} (hn : P[n]? = some (.if_icmp .gt off, pc, pc2)) (ht : (pc : Int) + off = (tgt : Int)) (k1 : y < x → J X M P tb R kc nc EX F ads sk (tgt, L, st, σ) r1) (k2 : ¬ (y < x) → J X M P tb R kc nc EX F ads sk (pc2, L, st, σ) r2) : J X M P tb R kc nc EX F ads sk (pc, L, (.inl y :: .inl x :: st), σ) (if y < x then r1 else r2) := by
  refine jb_icmp n (y < x) hn ht Iff.rfl (fun h => ?_) (fun h => ?_)
  · rw [if_pos h]; exact k1 h
  · rw [if_neg h]; exact k2 h
theorem jt_icmp_gt (n : Nat) {off : Int} {tgt : Nat} {x y : Int} {r1 r2 : α} (hn : P[n]? = some (.if_icmp .gt off, pc, pc2)) (ht : (pc : Int) + off = (tgt : Int)) (k1 : y < x → J X M P tb R kc nc EX F ads sk (tgt, L, st, σ) (some r1)) (k2 : ¬ (y < x) → J X M P tb R kc nc EX F ads sk (pc2, L, st, σ) (some r2)) : J X M P tb R kc nc EX F ads sk (pc, L, (.inl y :: .inl x :: st), σ) (some (if y < x then r1 else r2)) := by
  refine jb_icmp n (y < x) hn ht Iff.rfl (fun h => ?_) (fun h => ?_)
  · rw [if_pos h]; exact k1 h
  · rw [if_neg h]; exact k2 h
theorem jc_icmp_le (n : Nat) {off : Int} {tgt : Nat} {x y : Int} {r1 r2 : Option α} (hn : P[n]? = some (.if_icmp .le off, pc, pc2)) (ht : (pc : Int) + off = (tgt : Int)) (k1 : y < x → J X M P tb R kc nc EX F ads sk (pc2, L, st, σ) r1) (k2 : ¬ (y < x) → J X M P tb R kc nc EX F ads sk (tgt, L, st, σ) r2) : J X M P tb R kc nc EX F ads sk (pc, L, (.inl y :: .inl x :: st), σ) (if y < x then r1 else r2) := by
  refine jb_icmp n (x ≤ y) hn ht Iff.rfl (fun h => ?_) (fun h => ?_)
  · rw [if_neg (Int.not_lt.mpr h)]; exact k2 (Int.not_lt.mpr h)
  · rw [if_pos (Int.not_le.mp h)]; exact k1 (Int.not_le.mp h)
theorem jt_icmp_le (n : Nat) {off : Int} {tgt : Nat} {x y : Int} {r1 r2 : α} (hn : P[n]? = some (.if_icmp .le off, pc, pc2)) (ht : (pc : Int) + off = (tgt : Int)) (k1 : y < x → J X M P tb R kc nc EX F ads sk (pc2, L, st, σ) (some r1)) (k2 : ¬ (y < x) → J X M P tb R kc nc EX F ads sk (tgt, L, st, σ) (some r2)) : J X M P tb R kc nc EX F ads sk (pc, L, (.inl y :: .inl x :: st), σ) (some (if y < x then r1 else r2)) := by
  refine jb_icmp n (x ≤ y) hn ht Iff.rfl (fun h => ?_) (fun h => ?_)
  · rw [if_neg (Int.not_lt.mpr h)]; exact k2 (Int.not_lt.mpr h)
  · rw [if_pos (Int.not_le.mp h)]; exact k1 (Int.not_le.mp h)
theorem jc_if_eq (n : Nat) {off : Int} {tgt : Nat} {x : Int} {r1 r2 : Option α} (hn : P[n]? = some (.ifCond .eq off, pc, pc2)) (ht : (pc : Int) + off = (tgt : Int)) (k1 : x = 0 → J X M P tb R kc nc EX F ads sk (tgt, L, st, σ) r1) (k2 : ¬ (x = 0) → J X M P tb R kc nc EX F ads sk (pc2, L, st, σ) r2) : J X M P tb R kc nc EX F ads sk (pc, L, (.inl x :: st), σ) (if x = 0 then r1 else r2) := by
  refine jb_if n (x = 0) hn ht Iff.rfl (fun h => ?_) (fun h => ?_)
  · rw [if_pos h]; exact k1 h
  · rw [if_neg h]; exact k2 h
theorem jt_if_eq (n : Nat) {off : Int} {tgt : Nat} {x : Int} {r1 r2 : α} (hn : P[n]? = some (.ifCond .eq off, pc, pc2)) (ht : (pc : Int) + off = (tgt : Int)) (k1 : x = 0 → J X M P tb R kc nc EX F ads sk (tgt, L, st, σ) (some r1)) (k2 : ¬ (x = 0) → J X M P tb R kc nc EX F ads sk (pc2, L, st, σ) (some r2)) : J X M P tb R kc nc EX F ads sk (pc, L, (.inl x :: st), σ) (some (if x = 0 then r1 else r2)) := by
  refine jb_if n (x = 0) hn ht Iff.rfl (fun h => ?_) (fun h => ?_)
  · rw [if_pos h]; exact k1 h
  · rw [if_neg h]; exact k2 h
theorem jc_if_ne (n : Nat) {off : Int} {tgt : Nat} {x : Int} {r1 r2 : Option α} (hn : P[n]? = some (.ifCond .ne off, pc, pc2)) (ht : (pc : Int) + off = (tgt : Int)) (k1 : x = 0 → J X M P tb R kc nc EX F ads sk (pc2, L, st, σ) r1) (k2 : ¬ (x = 0) → J X M P tb R kc nc EX F ads sk (tgt, L, st, σ) r2) : J X M P tb R kc nc EX F ads sk (pc, L, (.inl x :: st), σ) (if x = 0 then r1 else r2) := by
  refine jb_if n (¬ x = 0) hn ht Iff.rfl (fun h => ?_) (fun h => ?_)
  · rw [if_neg h]; exact k2 h
  · rw [if_pos (Decidable.of_not_not h)]; exact k1 (Decidable.of_not_not h)
theorem jt_if_ne (n : Nat) {off : Int} {tgt : Nat} {x : Int} {r1 r2 : α} (hn : P[n]? = some (.ifCond .ne off, pc, pc2)) (ht : (pc : Int) + off = (tgt : Int)) (k1 : x = 0 → J X M P tb R kc nc EX F ads sk (pc2, L, st, σ) (some r1)) (k2 : ¬ (x = 0) → J X M P tb R kc nc EX F ads sk (tgt, L, st, σ) (some r2)) : J X M P tb R kc nc EX F ads sk (pc, L, (.inl x :: st), σ) (some (if x = 0 then r1 else r2)) := by
  refine jb_if n (¬ x = 0) hn ht Iff.rfl (fun h => ?_) (fun h => ?_)
  · rw [if_neg h]; exact k2 h
  · rw [if_pos (Decidable.of_not_not h)]; exact k1 (Decidable.of_not_not h)
theorem jc_if_lt (n : Nat) {off : Int} {tgt : Nat} {x : Int} {r1 r2 : Option α} (hn : P[n]? = some (.ifCond .lt off, pc, pc2)) (ht : (pc : Int) + off = (tgt : Int)) (k1 : x < 0 → J X M P tb R kc nc EX F ads sk (tgt, L, st, σ) r1) (k2 : ¬ (x < 0) → J X M P tb R kc nc EX F ads sk (pc2, L, st, σ) r2) : J X M P tb R kc nc EX F ads sk (pc, L, (.inl x :: st), σ) (if x < 0 then r1 else r2) := by
  refine jb_if n (x < 0) hn ht Iff.rfl (fun h => ?_) (fun h => ?_)
  · rw [if_pos h]; exact k1 h
  · rw [if_neg h]; exact k2 h
theorem jt_if_lt (n : Nat) {off : Int} {tgt : Nat} {x : Int} {r1 r2 : α} (hn : P[n]? = some (.ifCond .lt off, pc, pc2)) (ht : (pc : Int) + off = (tgt : Int)) (k1 : x < 0 → J X M P tb R kc nc EX F ads sk (tgt, L, st, σ) (some r1)) (k2 : ¬ (x < 0) → J X M P tb R kc nc EX F ads sk (pc2, L, st, σ) (some r2)) : J X M P tb R kc nc EX F ads sk (pc, L, (.inl x :: st), σ) (some (if x < 0 then r1 else r2)) := by
  refine jb_if n (x < 0) hn ht Iff.rfl (fun h => ?_) (fun h => ?_)
  · rw [if_pos h]; exact k1 h
  · rw [if_neg h]; exact k2 h
theorem jc_if_ge (n : Nat) {off : Int} {tgt : Nat} {x : Int} {r1 r2 : Option α} (hn : P[n]? = some (.ifCond .ge off, pc, pc2)) (ht : (pc : Int) + off = (tgt : Int)) (k1 : x < 0 → J X M P tb R kc nc EX F ads sk (pc2, L, st, σ) r1) (k2 : ¬ (x < 0) → J X M P tb R kc nc EX F ads sk (tgt, L, st, σ) r2) : J X M P tb R kc nc EX F ads sk (pc, L, (.inl x :: st), σ) (if x < 0 then r1 else r2) := by
  refine jb_if n (0 ≤ x) hn ht Iff.rfl (fun h => ?_) (fun h => ?_)
  · rw [if_neg (Int.not_lt.mpr h)]; exact k2 (Int.not_lt.mpr h)
  · rw [if_pos (Int.not_le.mp h)]; exact k1 (Int.not_le.mp h)
theorem jt_if_ge (n : Nat) {off : Int} {tgt : Nat} {x : Int} {r1 r2 : α} (hn : P[n]? = some (.ifCond .ge off, pc, pc2)) (ht : (pc : Int) + off = (tgt : Int)) (k1 : x < 0 → J X M P tb R kc nc EX F ads sk (pc2, L, st, σ) (some r1)) (k2 : ¬ (x < 0) → J X M P tb R kc nc EX F ads sk (tgt, L, st, σ) (some r2)) : J X M P tb R kc nc EX F ads sk (pc, L, (.inl x :: st), σ) (some (if x < 0 then r1 else r2)) := by
  refine jb_if n (0 ≤ x) hn ht Iff.rfl (fun h => ?_) (fun h => ?_)
  · rw [if_neg (Int.not_lt.mpr h)]; exact k2 (Int.not_lt.mpr h)
  · rw [if_pos (Int.not_le.mp h)]; exact k1 (Int.not_le.mp h)
theorem jc_if_gt (n : Nat) {off : Int} {tgt : Nat} {x : Int} {r1 r2 : Option α} (hn : P[n]? = some (.ifCond .gt off, pc, pc2)) (ht : (pc : Int) + off = (tgt : Int)) (k1 : 0 < x → J X M P tb R kc nc EX F ads sk (tgt, L, st, σ) r1) (k2 : ¬ (0 < x) → J X M P tb R kc nc EX F ads sk (pc2, L, st, σ) r2) : J X M P tb R kc nc EX F ads sk (pc, L, (.inl x :: st), σ) (if 0 < x then r1 else r2) := by
  refine jb_if n (0 < x) hn ht Iff.rfl (fun h => ?_) (fun h => ?_)
  · rw [if_pos h]; exact k1 h
  · rw [if_neg h]; exact k2 h
theorem jt_if_gt (n : Nat) {off : Int} {tgt : Nat} {x : Int} {r1 r2 : α} (hn : P[n]? = some (.ifCond .gt off, pc, pc2)) (ht : (pc : Int) + off = (tgt : Int)) (k1 : 0 < x → J X M P tb R kc nc EX F ads sk (tgt, L, st, σ) (some r1)) (k2 : ¬ (0 < x) → J X M P tb R kc nc EX F ads sk (pc2, L, st, σ) (some r2)) : J X M P tb R kc nc EX F ads sk (pc, L, (.inl x :: st), σ) (some (if 0 < x then r1 else r2)) := by
  refine jb_if n (0 < x) hn ht Iff.rfl (fun h => ?_) (fun h => ?_)
  · rw [if_pos h]; exact k1 h
  · rw [if_neg h]; exact k2 h
theorem jc_if_le (n : Nat) {off : Int} {tgt : Nat} {x : Int} {r1 r2 : Option α} (hn : P[n]? = some (.ifCond .le off, pc, pc2)) (ht : (pc : Int) + off = (tgt : Int)) (k1 : 0 < x → J X M P tb R kc nc EX F ads sk (pc2, L, st, σ) r1) (k2 : ¬ (0 < x) → J X M P tb R kc nc EX F ads sk (tgt, L, st, σ) r2) : J X M P tb R kc nc EX F ads sk (pc, L, (.inl x :: st), σ) (if 0 < x then r1 else r2) := by
  refine jb_if n (x ≤ 0) hn ht Iff.rfl (fun h => ?_) (fun h => ?_)
  · rw [if_neg (Int.not_lt.mpr h)]; exact k2 (Int.not_lt.mpr h)
  · rw [if_pos (Int.not_le.mp h)]; exact k1 (Int.not_le.mp h)
theorem jt_if_le (n : Nat) {off : Int} {tgt : Nat} {x : Int} {r1 r2 : α} (hn : P[n]? = some (.ifCond .le off, pc, pc2)) (ht : (pc : Int) + off = (tgt : Int)) (k1 : 0 < x → J X M P tb R kc nc EX F ads sk (pc2, L, st, σ) (some r1)) (k2 : ¬ (0 < x) → J X M P tb R kc nc EX F ads sk (tgt, L, st, σ) (some r2)) : J X M P tb R kc nc EX F ads sk (pc, L, (.inl x :: st), σ) (some (if 0 < x then r1 else r2)) := by
  refine jb_if n (x ≤ 0) hn ht Iff.rfl (fun h => ?_) (fun h => ?_)
  · rw [if_neg (Int.not_lt.mpr h)]; exact k2 (Int.not_lt.mpr h)
  · rw [if_pos (Int.not_le.mp h)]; exact k1 (Int.not_le.mp h)
theorem jc_ite {ps : PS} {c : Prop} [Decidable c] {r1 r2 : Option α} (k1 : c → J X M P tb R kc nc EX F ads sk ps r1) (k2 : ¬ c → J X M P tb R kc nc EX F ads sk ps r2) : J X M P tb R kc nc EX F ads sk ps (if c then r1 else r2) := by
  by_cases h : c
  · rw [if_pos h]; exact k1 h
  · rw [if_neg h]; exact k2 h
theorem jt_ite {ps : PS} {c : Prop} [Decidable c] {r1 r2 : α} (k1 : c → J X M P tb R kc nc EX F ads sk ps (some r1)) (k2 : ¬ c → J X M P tb R kc nc EX F ads sk ps (some r2)) : J X M P tb R kc nc EX F ads sk ps (some (if c then r1 else r2)) := by
  by_cases h : c
  · rw [if_pos h]; exact k1 h
  · rw [if_neg h]; exact k2 h
theorem rok {d : Nat} {N : MM} (h1 : Nat.ble (N.2.2.2.2 + 1) d = true) (h2 : Nat.ble (8 + (N.2.2.1 + 11) + 64 * N.2.2.2.2) (64 * d) = true) : RoomOK (rmD d 0 0) N 0 0 0 0 :=
  ⟨⟨Nat.le_of_ble_eq_true h1, Nat.le_of_ble_eq_true h2⟩, Nat.le_refl 0, Nat.le_refl 0⟩
theorem rokS {d : Nat} {N : MM} (h1 : N.2.2.2.2 + 1 ≤ d) (h2 : N.2.2.1 ≤ 45) : RoomOK (rmD d 0 0) N 0 0 0 0 := by
  refine ⟨⟨h1, ?_⟩, Nat.le_refl 0, Nat.le_refl 0⟩
  show 8 + (N.2.2.1 + 11) + 64 * N.2.2.2.2 ≤ 64 * d
  omega
theorem rokC {d : Nat} (h1 : Nat.ble 1 d = true) (h2 : Nat.ble (8 + (nativeFrameWords "java/lang/System" "arraycopy" 5 + 11)) 64 = true) : 1 ≤ (rmD d 0 0).frames ∧ 8 + (nativeFrameWords "java/lang/System" "arraycopy" 5 + 11) ≤ (rmD d 0 0).locals := by
  have h1 := Nat.le_of_ble_eq_true h1
  have h2 := Nat.le_of_ble_eq_true h2
  refine ⟨h1, ?_⟩
  show _ ≤ 64 * d
  omega
theorem j_cvT (n j ar : Nat) {N : MM} {idx c ci : Nat} {fs : List (Option (Option Nat))} {q : vw_C} {As st0 : List PV} {w : β → Option PV × Sg} {a : β} {res : Option α} (hn : P[n]? = some (.invokevirtual idx, pc, pc2)) (hm : tb.2.2.1[j]? = some (idx, N.1)) (hw : MWV N ar) (hs : sk[c]? = some (.inl (ci, fs))) (hcl : vwCl[ci]? = some q) (hcn : q.1 = N.1.cls) (hC : CF X N ads sk (.inr (some c) :: As) σ w (some a)) (hlen : As.length = ar) (hst : As.reverse ++ .inr (some c) :: st = st0) (hR : RoomOK R N kc nc 0 0) (h8 : st.length ≤ 8)
    (k : nrR N (w a).1 → J X M P tb R kc nc EX F ads sk (pc2, L, (w a).1.toList ++ st, (w a).2) res) : J X M P tb R kc nc EX F ads sk (pc, L, st0, σ) res :=
  j_cv (K := fun _ => res) n j ar hn hm hw hs hcl hcn hC hlen hst hR h8 (fun b hb hr => by cases hb; exact k hr)
theorem j_csT (n j ar : Nat) {N : MM} {idx : Nat} {As st0 : List PV} {w : β → Option PV × Sg} {a : β} {res : Option α} (hn : P[n]? = some (.invokestatic idx, pc, pc2)) (hm : tb.2.2.1[j]? = some (idx, N.1)) (hw : MWS N ar) (hC : CF X N ads sk As σ w (some a)) (hlen : As.length = ar) (hst : As.reverse ++ st = st0) (hR : RoomOK R N kc nc 0 0) (h8 : st.length ≤ 8)
    (k : nrR N (w a).1 → J X M P tb R kc nc EX F ads sk (pc2, L, (w a).1.toList ++ st, (w a).2) res) : J X M P tb R kc nc EX F ads sk (pc, L, st0, σ) res :=
  j_cs (K := fun _ => res) n j ar hn hm hw hC hlen hst hR h8 (fun b hb hr => by cases hb; exact k hr)
theorem j_csNT (n j ar : Nat) {N : MM} {idx : Nat} {host : String} {As st0 : List PV} {w : β → Option PV × Sg} {a : β} {res : Option α} (hn : P[n]? = some (.invokestatic idx, pc, pc2)) (hm : tb.2.2.2.1[j]? = some (idx, N.1, host)) (hw : MWS N ar) (hC : CF X N ads sk As σ w (some a)) (hlen : As.length = ar) (hst : As.reverse ++ st = st0) (hR : RoomOK R N kc nc 0 0) (h8 : st.length ≤ 8)
    (k : nrR N (w a).1 → J X M P tb R kc nc EX F ads sk (pc2, L, (w a).1.toList ++ st, (w a).2) res) : J X M P tb R kc nc EX F ads sk (pc, L, st0, σ) res :=
  j_csN (K := fun _ => res) n j ar hn hm hw hC hlen hst hR h8 (fun b hb hr => by cases hb; exact k hr)
/-- reads and writes whose place is plainly within the array -/
theorem j_ald0 (n : Nat) {c N : Nat} {i : Int} {res : Option α} (hn : P[n]? = some (.iaload, pc, pc2)) (hs : sk[c]? = some (.inr (0, N))) (hi : 0 ≤ i ∧ i < (N : Int)) (kk : J X M P tb R kc nc EX F ads sk (pc2, L, .inl (rd σ c i) :: st, σ) res) : J X M P tb R kc nc EX F ads sk (pc, L, .inl i :: .inr (some c) :: st, σ) res := by
  have := j_ald n hn hs rfl kk
  unfold grd at this
  rwa [if_pos hi] at this
theorem j_ast0 (n : Nat) {c N : Nat} {i z : Int} {res : Option α} (hn : P[n]? = some (.iastore, pc, pc2)) (hs : sk[c]? = some (.inr (0, N))) (hi : 0 ≤ i ∧ i < (N : Int)) (kk : J X M P tb R kc nc EX F ads sk (pc2, L, st, wr σ c i z) res) : J X M P tb R kc nc EX F ads sk (pc, L, .inl z :: .inl i :: .inr (some c) :: st, σ) res := by
  have := j_ast n hn hs rfl kk
  unfold grd at this
  rwa [if_pos hi] at this
theorem j_div (n : Nat) {x y : Int} {res : Option α} (hn : P[n]? = some (.idiv, pc, pc2)) (kk : J X M P tb R kc nc EX F ads sk (pc2, L, .inl (tdv x y) :: st, σ) res) : J X M P tb R kc nc EX F ads sk (pc, L, .inl y :: .inl x :: st, σ) (grd (¬ y = 0) res) := by
  refine j_grd (fun hg => J.step (ps2 := (pc2, L, .inl (tdv x y) :: st, σ)) (fun ho a ha hq => ⟨ha, ⟨hq.1, hq.2.1, nrS_cons (bw_toInt _) (nrS_tail (nrS_tail hq.2.2))⟩, fun Z kk => ?_⟩) kk)
  obtain ⟨hd, rfl⟩ := okP_get ho.1 hn (by simp [lenI])
  refine w_idiv hd (fun q => hg ((ofI_eq0 (nrS_head hq.2.2)).mp q)) ?_
  simpa only [WP, lenI, emS, List.map_cons, em, tdv, Int32.ofInt_toInt] using kk
theorem j_rem (n : Nat) {x y : Int} {res : Option α} (hn : P[n]? = some (.irem, pc, pc2)) (kk : J X M P tb R kc nc EX F ads sk (pc2, L, .inl (trm x y) :: st, σ) res) : J X M P tb R kc nc EX F ads sk (pc, L, .inl y :: .inl x :: st, σ) (grd (¬ y = 0) res) := by
  refine j_grd (fun hg => J.step (ps2 := (pc2, L, .inl (trm x y) :: st, σ)) (fun ho a ha hq => ⟨ha, ⟨hq.1, hq.2.1, nrS_cons (bw_toInt _) (nrS_tail (nrS_tail hq.2.2))⟩, fun Z kk => ?_⟩) kk)
  obtain ⟨hd, rfl⟩ := okP_get ho.1 hn (by simp [lenI])
  refine w_irem hd (fun q => hg ((ofI_eq0 (nrS_head hq.2.2)).mp q)) ?_
  simpa only [WP, lenI, emS, List.map_cons, em, trm, Int32.ofInt_toInt] using kk
theorem j_div0 (n : Nat) {x y : Int} {res : Option α} (hn : P[n]? = some (.idiv, pc, pc2)) (hy : ¬ y = 0) (kk : J X M P tb R kc nc EX F ads sk (pc2, L, .inl (tdv x y) :: st, σ) res) : J X M P tb R kc nc EX F ads sk (pc, L, .inl y :: .inl x :: st, σ) res := by
  have := j_div n hn kk
  unfold grd at this
  rwa [if_pos hy] at this
theorem j_rem0 (n : Nat) {x y : Int} {res : Option α} (hn : P[n]? = some (.irem, pc, pc2)) (hy : ¬ y = 0) (kk : J X M P tb R kc nc EX F ads sk (pc2, L, .inl (trm x y) :: st, σ) res) : J X M P tb R kc nc EX F ads sk (pc, L, .inl y :: .inl x :: st, σ) res := by
  have := j_rem n hn kk
  unfold grd at this
  rwa [if_pos hy] at this
end JI
end
