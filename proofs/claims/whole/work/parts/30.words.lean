/-! what the tables say of each method that is called -/
theorem tk1 {w : Cond} {i : Nat} (h : tables_1_1[i]? = some w) (hg : goodWord w = true) : w ∈ TW := List.mem_filter.mpr ⟨List.mem_append_right _ (by unfold tables_1; simp only [List.mem_append]; exact Or.inl (List.mem_of_getElem? h)), hg⟩
theorem tk2 {w : Cond} {i : Nat} (h : tables_1_2[i]? = some w) (hg : goodWord w = true) : w ∈ TW := List.mem_filter.mpr ⟨List.mem_append_right _ (by unfold tables_1; simp only [List.mem_append]; exact Or.inr (Or.inl (List.mem_of_getElem? h))), hg⟩
theorem tk3 {w : Cond} {i : Nat} (h : tables_1_3[i]? = some w) (hg : goodWord w = true) : w ∈ TW := List.mem_filter.mpr ⟨List.mem_append_right _ (by unfold tables_1; simp only [List.mem_append]; exact Or.inr (Or.inr (Or.inl (List.mem_of_getElem? h)))), hg⟩
theorem tk4 {w : Cond} {i : Nat} (h : tables_1_4[i]? = some w) (hg : goodWord w = true) : w ∈ TW := List.mem_filter.mpr ⟨List.mem_append_right _ (by unfold tables_1; simp only [List.mem_append]; exact Or.inr (Or.inr (Or.inr (Or.inl (List.mem_of_getElem? h))))), hg⟩
theorem tk5 {w : Cond} {i : Nat} (h : tables_1_5[i]? = some w) (hg : goodWord w = true) : w ∈ TW := List.mem_filter.mpr ⟨List.mem_append_right _ (by unfold tables_1; simp only [List.mem_append]; exact Or.inr (Or.inr (Or.inr (Or.inr (Or.inl (List.mem_of_getElem? h)))))), hg⟩
theorem tk6 {w : Cond} {i : Nat} (h : tables_1_6[i]? = some w) (hg : goodWord w = true) : w ∈ TW := List.mem_filter.mpr ⟨List.mem_append_right _ (by unfold tables_1; simp only [List.mem_append]; exact Or.inr (Or.inr (Or.inr (Or.inr (Or.inr (Or.inl (List.mem_of_getElem? h))))))), hg⟩
theorem tk7 {w : Cond} {i : Nat} (h : tables_1_7[i]? = some w) (hg : goodWord w = true) : w ∈ TW := List.mem_filter.mpr ⟨List.mem_append_right _ (by unfold tables_1; simp only [List.mem_append]; exact Or.inr (Or.inr (Or.inr (Or.inr (Or.inr (Or.inr (Or.inl (List.mem_of_getElem? h)))))))), hg⟩
theorem tk8 {w : Cond} {i : Nat} (h : tables_1_8[i]? = some w) (hg : goodWord w = true) : w ∈ TW := List.mem_filter.mpr ⟨List.mem_append_right _ (by unfold tables_1; simp only [List.mem_append]; exact Or.inr (Or.inr (Or.inr (Or.inr (Or.inr (Or.inr (Or.inr ((List.mem_of_getElem? h))))))))), hg⟩
def wsA0 : List Cond := [(Jvm.Cond.initialized "SnowRises$Folk"),
  (Jvm.Cond.instanceMethod ({ cls := "SnowRises$Folk", name := "has", desc := "(I)Z" } : Jvm.MethodName)),
  (Jvm.Cond.selects "SnowRises$Folk" ({ cls := "SnowRises$Folk", name := "has", desc := "(I)Z" } : Jvm.MethodName) ({ cls := "SnowRises$Folk", name := "has", desc := "(I)Z" } : Jvm.MethodName)),
  (Jvm.Cond.instanceMethod ({ cls := "SnowRises$Folk", name := "isFree", desc := "(I)Z" } : Jvm.MethodName)),
  (Jvm.Cond.selects "SnowRises$Folk" ({ cls := "SnowRises$Folk", name := "isFree", desc := "(I)Z" } : Jvm.MethodName) ({ cls := "SnowRises$Folk", name := "isFree", desc := "(I)Z" } : Jvm.MethodName)),
  (Jvm.Cond.initialized "java/lang/Math"),
  (Jvm.Cond.static ({ cls := "java/lang/Math", name := "max", desc := "(II)I" } : Jvm.MethodName)),
  (Jvm.Cond.initialized "SnowRises$Law"),
  (Jvm.Cond.static ({ cls := "SnowRises$Law", name := "joined", desc := "(III)I" } : Jvm.MethodName)),
  (Jvm.Cond.instanceMethod ({ cls := "SnowRises$Law", name := "run", desc := "(II)I" } : Jvm.MethodName)),
  (Jvm.Cond.static ({ cls := "java/lang/Math", name := "min", desc := "(II)I" } : Jvm.MethodName)),
  (Jvm.Cond.static ({ cls := "java/lang/Math", name := "abs", desc := "(I)I" } : Jvm.MethodName)),
  (Jvm.Cond.instanceMethod ({ cls := "SnowRises$Law", name := "forgetNames", desc := "()V" } : Jvm.MethodName)),
  (Jvm.Cond.selects "SnowRises$Law" ({ cls := "SnowRises$Law", name := "forgetNames", desc := "()V" } : Jvm.MethodName) ({ cls := "SnowRises$Law", name := "forgetNames", desc := "()V" } : Jvm.MethodName)),
  (Jvm.Cond.instanceMethod ({ cls := "SnowRises$Law", name := "name", desc := "(II)V" } : Jvm.MethodName)),
  (Jvm.Cond.selects "SnowRises$Law" ({ cls := "SnowRises$Law", name := "name", desc := "(II)V" } : Jvm.MethodName) ({ cls := "SnowRises$Law", name := "name", desc := "(II)V" } : Jvm.MethodName)),
  (Jvm.Cond.instanceMethod ({ cls := "SnowRises$Folk", name := "areKin", desc := "(II)Z" } : Jvm.MethodName)),
  (Jvm.Cond.selects "SnowRises$Folk" ({ cls := "SnowRises$Folk", name := "areKin", desc := "(II)Z" } : Jvm.MethodName) ({ cls := "SnowRises$Folk", name := "areKin", desc := "(II)Z" } : Jvm.MethodName)),
  (Jvm.Cond.instanceMethod ({ cls := "SnowRises$Law", name := "tell", desc := "(II)I" } : Jvm.MethodName)),
  (Jvm.Cond.selects "SnowRises$Law" ({ cls := "SnowRises$Law", name := "tell", desc := "(II)I" } : Jvm.MethodName) ({ cls := "SnowRises$Law", name := "tell", desc := "(II)I" } : Jvm.MethodName)),
  (Jvm.Cond.initialized "SnowRises"),
  (Jvm.Cond.static ({ cls := "SnowRises", name := "held", desc := "(II)I" } : Jvm.MethodName)),
  (Jvm.Cond.initialized "SnowRises$World"),
  (Jvm.Cond.instanceMethod ({ cls := "SnowRises$World", name := "matchBy", desc := "(IIII)I" } : Jvm.MethodName)),
  (Jvm.Cond.selects "SnowRises$World" ({ cls := "SnowRises$World", name := "matchBy", desc := "(IIII)I" } : Jvm.MethodName) ({ cls := "SnowRises$World", name := "matchBy", desc := "(IIII)I" } : Jvm.MethodName)),
  (Jvm.Cond.initialized "SnowRises$Couples"),
  (Jvm.Cond.instanceMethod ({ cls := "SnowRises$Couples", name := "gather", desc := "(LSnowRises$Folk;)V" } : Jvm.MethodName)),
  (Jvm.Cond.instanceMethod ({ cls := "SnowRises$World", name := "matchOf", desc := "(II)I" } : Jvm.MethodName)),
  (Jvm.Cond.selects "SnowRises$World" ({ cls := "SnowRises$World", name := "matchOf", desc := "(II)I" } : Jvm.MethodName) ({ cls := "SnowRises$World", name := "matchOf", desc := "(II)I" } : Jvm.MethodName)),
  (Jvm.Cond.instanceMethod ({ cls := "SnowRises$Couples", name := "asksNext", desc := "(I)Z" } : Jvm.MethodName)),
  (Jvm.Cond.instanceMethod ({ cls := "SnowRises$Couples", name := "sumWith", desc := "(III)I" } : Jvm.MethodName)),
  (Jvm.Cond.instanceMethod ({ cls := "SnowRises$World", name := "foundOf", desc := "(II)I" } : Jvm.MethodName)),
  (Jvm.Cond.selects "SnowRises$World" ({ cls := "SnowRises$World", name := "foundOf", desc := "(II)I" } : Jvm.MethodName) ({ cls := "SnowRises$World", name := "foundOf", desc := "(II)I" } : Jvm.MethodName)),
  (Jvm.Cond.initialized "java/lang/Integer"),
  (Jvm.Cond.static ({ cls := "java/lang/Integer", name := "bitCount", desc := "(I)I" } : Jvm.MethodName)),
  (Jvm.Cond.instanceMethod ({ cls := "SnowRises$Couples", name := "greatestSum", desc := "(II)I" } : Jvm.MethodName)),
  (Jvm.Cond.instanceMethod ({ cls := "SnowRises$Couples", name := "takeFirstWay", desc := "()V" } : Jvm.MethodName)),
  (Jvm.Cond.static ({ cls := "SnowRises", name := "steps", desc := "(II)I" } : Jvm.MethodName)),
  (Jvm.Cond.instanceMethod ({ cls := "SnowRises$World", name := "hasField", desc := "(I)Z" } : Jvm.MethodName)),
  (Jvm.Cond.selects "SnowRises$World" ({ cls := "SnowRises$World", name := "hasField", desc := "(I)Z" } : Jvm.MethodName) ({ cls := "SnowRises$World", name := "hasField", desc := "(I)Z" } : Jvm.MethodName)),
  (Jvm.Cond.instanceMethod ({ cls := "SnowRises$World", name := "liftOf", desc := "(IIIII)I" } : Jvm.MethodName)),
  (Jvm.Cond.selects "SnowRises$World" ({ cls := "SnowRises$World", name := "liftOf", desc := "(IIIII)I" } : Jvm.MethodName) ({ cls := "SnowRises$World", name := "liftOf", desc := "(IIIII)I" } : Jvm.MethodName)),
  (Jvm.Cond.instanceMethod ({ cls := "SnowRises$Couples", name := "firstBaring", desc := "(LSnowRises$World;IIII)I" } : Jvm.MethodName)),
  (Jvm.Cond.instanceMethod ({ cls := "SnowRises$Couples", name := "mostAlike", desc := "(LSnowRises$World;II)I" } : Jvm.MethodName)),
  (Jvm.Cond.static ({ cls := "SnowRises$Folk", name := "hopeAmong", desc := "(LSnowRises$Folk;II)I" } : Jvm.MethodName)),
  (Jvm.Cond.instanceMethod ({ cls := "SnowRises$Law", name := "put", desc := "(I)V" } : Jvm.MethodName)),
  (Jvm.Cond.selects "SnowRises$Law" ({ cls := "SnowRises$Law", name := "put", desc := "(I)V" } : Jvm.MethodName) ({ cls := "SnowRises$Law", name := "put", desc := "(I)V" } : Jvm.MethodName)),
  (Jvm.Cond.static ({ cls := "SnowRises$Law", name := "codeOfName", desc := "(I)I" } : Jvm.MethodName)),
  (Jvm.Cond.initialized "SnowRises$Reader"),
  (Jvm.Cond.instanceMethod ({ cls := "SnowRises$Reader", name := "pass", desc := "()V" } : Jvm.MethodName)),
  (Jvm.Cond.instanceMethod ({ cls := "SnowRises$Reader", name := "refuse", desc := "(I)Z" } : Jvm.MethodName)),
  (Jvm.Cond.instanceMethod ({ cls := "SnowRises$Reader", name := "readsUnit", desc := "()Z" } : Jvm.MethodName)),
  (Jvm.Cond.static ({ cls := "SnowRises$Law", name := "codeOfJoint", desc := "(I)I" } : Jvm.MethodName)),
  (Jvm.Cond.instanceMethod ({ cls := "SnowRises$Reader", name := "readsSingle", desc := "(I)Z" } : Jvm.MethodName)),
  (Jvm.Cond.instanceMethod ({ cls := "SnowRises$Reader", name := "readsEither", desc := "(I)Z" } : Jvm.MethodName)),
  (Jvm.Cond.instanceMethod ({ cls := "SnowRises$Reader", name := "passes", desc := "(I)Z" } : Jvm.MethodName)),
  (Jvm.Cond.instanceMethod ({ cls := "SnowRises$Reader", name := "readsSum", desc := "()Z" } : Jvm.MethodName)),
  (Jvm.Cond.instanceMethod ({ cls := "SnowRises$Reader", name := "passesNumber", desc := "(II)Z" } : Jvm.MethodName)),
  (Jvm.Cond.instanceMethod ({ cls := "SnowRises$Reader", name := "begins", desc := "(ILSnowRises$Rows;)Z" } : Jvm.MethodName)),
  (Jvm.Cond.instanceMethod ({ cls := "SnowRises$Reader", name := "passesPerson", desc := "(I)Z" } : Jvm.MethodName)),
  (Jvm.Cond.instanceMethod ({ cls := "SnowRises$Reader", name := "passesField", desc := "()Z" } : Jvm.MethodName)),
  (Jvm.Cond.initialized "SnowRises$Rows"),
  (Jvm.Cond.instanceMethod ({ cls := "SnowRises$Rows", name := "add", desc := "(IIII)Z" } : Jvm.MethodName)),
  (Jvm.Cond.selects "SnowRises$Rows" ({ cls := "SnowRises$Rows", name := "add", desc := "(IIII)Z" } : Jvm.MethodName) ({ cls := "SnowRises$Rows", name := "add", desc := "(IIII)Z" } : Jvm.MethodName)),
  (Jvm.Cond.instanceMethod ({ cls := "SnowRises$Law", name := "clear", desc := "()V" } : Jvm.MethodName)),
  (Jvm.Cond.selects "SnowRises$Law" ({ cls := "SnowRises$Law", name := "clear", desc := "()V" } : Jvm.MethodName) ({ cls := "SnowRises$Law", name := "clear", desc := "()V" } : Jvm.MethodName)),
  (Jvm.Cond.instanceMethod ({ cls := "SnowRises$World", name := "rowsOf", desc := "(I)LSnowRises$Rows;" } : Jvm.MethodName)),
  (Jvm.Cond.selects "SnowRises$World" ({ cls := "SnowRises$World", name := "rowsOf", desc := "(I)LSnowRises$Rows;" } : Jvm.MethodName) ({ cls := "SnowRises$World", name := "rowsOf", desc := "(I)LSnowRises$Rows;" } : Jvm.MethodName)),
  (Jvm.Cond.instanceMethod ({ cls := "SnowRises$Reader", name := "lawLine", desc := "()Z" } : Jvm.MethodName)),
  (Jvm.Cond.instanceMethod ({ cls := "SnowRises$Reader", name := "vowLine", desc := "()Z" } : Jvm.MethodName)),
  (Jvm.Cond.instanceMethod ({ cls := "SnowRises$Reader", name := "weatherLine", desc := "()Z" } : Jvm.MethodName)),
  (Jvm.Cond.instanceMethod ({ cls := "SnowRises$Reader", name := "wantLine", desc := "()Z" } : Jvm.MethodName)),
  (Jvm.Cond.initialized "SnowRises$Rounds"),
  (Jvm.Cond.instanceMethod ({ cls := "SnowRises$Rounds", name := "isOpen", desc := "(II)Z" } : Jvm.MethodName)),
  (Jvm.Cond.static ({ cls := "SnowRises$Rounds", name := "fits", desc := "(LSnowRises$Rounds;I)Z" } : Jvm.MethodName)),
  (Jvm.Cond.instanceMethod ({ cls := "SnowRises$Folk", name := "wedSet", desc := "()I" } : Jvm.MethodName)),
  (Jvm.Cond.selects "SnowRises$Folk" ({ cls := "SnowRises$Folk", name := "wedSet", desc := "()I" } : Jvm.MethodName) ({ cls := "SnowRises$Folk", name := "wedSet", desc := "()I" } : Jvm.MethodName)),
  (Jvm.Cond.instanceMethod ({ cls := "SnowRises$Rows", name := "cell", desc := "(II)I" } : Jvm.MethodName)),
  (Jvm.Cond.selects "SnowRises$Rows" ({ cls := "SnowRises$Rows", name := "cell", desc := "(II)I" } : Jvm.MethodName) ({ cls := "SnowRises$Rows", name := "cell", desc := "(II)I" } : Jvm.MethodName)),
  (Jvm.Cond.initialized "SnowRises$Tape"),
  (Jvm.Cond.instanceMethod ({ cls := "SnowRises$Tape", name := "sign", desc := "(I)I" } : Jvm.MethodName)),
  (Jvm.Cond.static ({ cls := "SnowRises$Tape", name := "isLetter", desc := "(I)Z" } : Jvm.MethodName)),
  (Jvm.Cond.instanceMethod ({ cls := "SnowRises$Tape", name := "isSame", desc := "(III)Z" } : Jvm.MethodName)),
  (Jvm.Cond.static ({ cls := "SnowRises$Tape", name := "isDigit", desc := "(I)Z" } : Jvm.MethodName)),
  (Jvm.Cond.instanceMethod ({ cls := "SnowRises$Tape", name := "lettersEnd", desc := "(I)I" } : Jvm.MethodName)),
  (Jvm.Cond.instanceMethod ({ cls := "SnowRises$Tape", name := "wordOf", desc := "(II)I" } : Jvm.MethodName)),
  (Jvm.Cond.instanceMethod ({ cls := "SnowRises$Tape", name := "digitsEnd", desc := "(I)I" } : Jvm.MethodName)),
  (Jvm.Cond.instanceMethod ({ cls := "SnowRises$Tape", name := "valueOf", desc := "(II)I" } : Jvm.MethodName)),
  (Jvm.Cond.instanceMethod ({ cls := "SnowRises$World", name := "isSteep", desc := "(I)Z" } : Jvm.MethodName)),
  (Jvm.Cond.selects "SnowRises$World" ({ cls := "SnowRises$World", name := "isSteep", desc := "(I)Z" } : Jvm.MethodName) ({ cls := "SnowRises$World", name := "isSteep", desc := "(I)Z" } : Jvm.MethodName)),
  (Jvm.Cond.instanceMethod ({ cls := "SnowRises$World", name := "beside", desc := "(II)I" } : Jvm.MethodName)),
  (Jvm.Cond.selects "SnowRises$World" ({ cls := "SnowRises$World", name := "beside", desc := "(II)I" } : Jvm.MethodName) ({ cls := "SnowRises$World", name := "beside", desc := "(II)I" } : Jvm.MethodName)),
  (Jvm.Cond.initialized "SnowRises$Ways"),
  (Jvm.Cond.instanceMethod ({ cls := "SnowRises$Ways", name := "reach", desc := "(II)V" } : Jvm.MethodName)),
  (Jvm.Cond.static ({ cls := "SnowRises$Ways", name := "direction", desc := "(II)I" } : Jvm.MethodName)),
  (Jvm.Cond.instanceMethod ({ cls := "SnowRises$Ways", name := "search", desc := "(LSnowRises$World;II)Z" } : Jvm.MethodName)),
  (Jvm.Cond.instanceMethod ({ cls := "SnowRises$Ways", name := "addWay", desc := "(II)V" } : Jvm.MethodName)),
  (Jvm.Cond.instanceMethod ({ cls := "SnowRises$Folk", name := "copy", desc := "(LSnowRises$Folk;)V" } : Jvm.MethodName)),
  (Jvm.Cond.selects "SnowRises$Folk" ({ cls := "SnowRises$Folk", name := "copy", desc := "(LSnowRises$Folk;)V" } : Jvm.MethodName) ({ cls := "SnowRises$Folk", name := "copy", desc := "(LSnowRises$Folk;)V" } : Jvm.MethodName)),
  (Jvm.Cond.instanceMethod ({ cls := "SnowRises$Law", name := "copy", desc := "(LSnowRises$Law;)V" } : Jvm.MethodName))]
theorem wdA0 : ∀ w ∈ wsA0, w ∈ TW := tw_all [3, 469, 470, 494, 495, 6, 125, 4, 544, 540, 505, 520, 523, 524, 527, 528, 531, 532, 535, 536, 1, 547, 2, 516, 517, 10, 979, 896, 897, 985, 1008, 512, 513, 20, 997, 1004, 1013, 554, 449, 450, 558, 559, 1025, 1058, 1155, 813, 814, 817, 9, 802, 798, 810, 820, 828, 824, 832, 806, 844, 840, 848, 853, 5, 578, 579, 148, 149, 789, 790, 794, 836, 859, 863, 12, 1119, 1115, 947, 948, 603, 604, 8, 649, 652, 714, 717, 656, 661, 721, 725, 1076, 1077, 570, 571, 11, 1095, 1102, 1091, 1099, 934, 935, 870] (by decide +kernel) (by decide +kernel)
def wsA1 : List Cond := [(Jvm.Cond.selects "SnowRises$Law" ({ cls := "SnowRises$Law", name := "copy", desc := "(LSnowRises$Law;)V" } : Jvm.MethodName) ({ cls := "SnowRises$Law", name := "copy", desc := "(LSnowRises$Law;)V" } : Jvm.MethodName)),
  (Jvm.Cond.instanceMethod ({ cls := "SnowRises$Rows", name := "copy", desc := "(LSnowRises$Rows;)V" } : Jvm.MethodName)),
  (Jvm.Cond.selects "SnowRises$Rows" ({ cls := "SnowRises$Rows", name := "copy", desc := "(LSnowRises$Rows;)V" } : Jvm.MethodName) ({ cls := "SnowRises$Rows", name := "copy", desc := "(LSnowRises$Rows;)V" } : Jvm.MethodName)),
  (Jvm.Cond.instanceMethod ({ cls := "SnowRises$World", name := "rise", desc := "()I" } : Jvm.MethodName)),
  (Jvm.Cond.instanceMethod ({ cls := "SnowRises$World", name := "drift", desc := "()I" } : Jvm.MethodName)),
  (Jvm.Cond.instanceMethod ({ cls := "SnowRises$World", name := "note", desc := "(III)V" } : Jvm.MethodName)),
  (Jvm.Cond.selects "SnowRises$World" ({ cls := "SnowRises$World", name := "note", desc := "(III)V" } : Jvm.MethodName) ({ cls := "SnowRises$World", name := "note", desc := "(III)V" } : Jvm.MethodName)),
  (Jvm.Cond.instanceMethod ({ cls := "SnowRises$World", name := "draw", desc := "(I)I" } : Jvm.MethodName)),
  (Jvm.Cond.instanceMethod ({ cls := "SnowRises$World", name := "meltOf", desc := "(I)I" } : Jvm.MethodName)),
  (Jvm.Cond.selects "SnowRises$World" ({ cls := "SnowRises$World", name := "meltOf", desc := "(I)I" } : Jvm.MethodName) ({ cls := "SnowRises$World", name := "meltOf", desc := "(I)I" } : Jvm.MethodName)),
  (Jvm.Cond.instanceMethod ({ cls := "SnowRises$World", name := "weatherOf", desc := "(I)I" } : Jvm.MethodName)),
  (Jvm.Cond.selects "SnowRises$World" ({ cls := "SnowRises$World", name := "weatherOf", desc := "(I)I" } : Jvm.MethodName) ({ cls := "SnowRises$World", name := "weatherOf", desc := "(I)I" } : Jvm.MethodName)),
  (Jvm.Cond.instanceMethod ({ cls := "SnowRises$Folk", name := "canWed", desc := "(II)Z" } : Jvm.MethodName)),
  (Jvm.Cond.selects "SnowRises$Folk" ({ cls := "SnowRises$Folk", name := "canWed", desc := "(II)Z" } : Jvm.MethodName) ({ cls := "SnowRises$Folk", name := "canWed", desc := "(II)Z" } : Jvm.MethodName)),
  (Jvm.Cond.instanceMethod ({ cls := "SnowRises$World", name := "makeVow", desc := "(III)I" } : Jvm.MethodName)),
  (Jvm.Cond.selects "SnowRises$World" ({ cls := "SnowRises$World", name := "makeVow", desc := "(III)I" } : Jvm.MethodName) ({ cls := "SnowRises$World", name := "makeVow", desc := "(III)I" } : Jvm.MethodName)),
  (Jvm.Cond.instanceMethod ({ cls := "SnowRises$World", name := "slide", desc := "()V" } : Jvm.MethodName)),
  (Jvm.Cond.instanceMethod ({ cls := "SnowRises$World", name := "meltAll", desc := "()V" } : Jvm.MethodName)),
  (Jvm.Cond.instanceMethod ({ cls := "SnowRises$Rows", name := "greatest", desc := "(I)I" } : Jvm.MethodName)),
  (Jvm.Cond.selects "SnowRises$Rows" ({ cls := "SnowRises$Rows", name := "greatest", desc := "(I)I" } : Jvm.MethodName) ({ cls := "SnowRises$Rows", name := "greatest", desc := "(I)I" } : Jvm.MethodName)),
  (Jvm.Cond.instanceMethod ({ cls := "SnowRises$World", name := "isBare", desc := "(I)Z" } : Jvm.MethodName)),
  (Jvm.Cond.selects "SnowRises$World" ({ cls := "SnowRises$World", name := "isBare", desc := "(I)Z" } : Jvm.MethodName) ({ cls := "SnowRises$World", name := "isBare", desc := "(I)Z" } : Jvm.MethodName)),
  (Jvm.Cond.instanceMethod ({ cls := "SnowRises$World", name := "allStirsFit", desc := "(II)Z" } : Jvm.MethodName)),
  (Jvm.Cond.instanceMethod ({ cls := "SnowRises$World", name := "begin", desc := "(II)V" } : Jvm.MethodName)),
  (Jvm.Cond.static ({ cls := "SnowRises", name := "within", desc := "(II)Z" } : Jvm.MethodName)),
  (Jvm.Cond.instanceMethod ({ cls := "SnowRises$Folk", name := "add", desc := "(IIII)I" } : Jvm.MethodName)),
  (Jvm.Cond.selects "SnowRises$Folk" ({ cls := "SnowRises$Folk", name := "add", desc := "(IIII)I" } : Jvm.MethodName) ({ cls := "SnowRises$Folk", name := "add", desc := "(IIII)I" } : Jvm.MethodName)),
  (Jvm.Cond.instanceMethod ({ cls := "SnowRises", name := "setValley", desc := "(II)Z" } : Jvm.MethodName)),
  (Jvm.Cond.instanceMethod ({ cls := "SnowRises", name := "setOne", desc := "(III)Z" } : Jvm.MethodName)),
  (Jvm.Cond.instanceMethod ({ cls := "SnowRises$Folk", name := "areTwo", desc := "(II)Z" } : Jvm.MethodName)),
  (Jvm.Cond.selects "SnowRises$Folk" ({ cls := "SnowRises$Folk", name := "areTwo", desc := "(II)Z" } : Jvm.MethodName) ({ cls := "SnowRises$Folk", name := "areTwo", desc := "(II)Z" } : Jvm.MethodName)),
  (Jvm.Cond.instanceMethod ({ cls := "SnowRises$Folk", name := "makeKin", desc := "(IIZ)V" } : Jvm.MethodName)),
  (Jvm.Cond.selects "SnowRises$Folk" ({ cls := "SnowRises$Folk", name := "makeKin", desc := "(IIZ)V" } : Jvm.MethodName) ({ cls := "SnowRises$Folk", name := "makeKin", desc := "(IIZ)V" } : Jvm.MethodName)),
  (Jvm.Cond.initialized "SnowRises$Past"),
  (Jvm.Cond.instanceMethod ({ cls := "SnowRises$Past", name := "keep", desc := "(LSnowRises$World;)V" } : Jvm.MethodName)),
  (Jvm.Cond.selects "SnowRises$Past" ({ cls := "SnowRises$Past", name := "keep", desc := "(LSnowRises$World;)V" } : Jvm.MethodName) ({ cls := "SnowRises$Past", name := "keep", desc := "(LSnowRises$World;)V" } : Jvm.MethodName)),
  (Jvm.Cond.instanceMethod ({ cls := "SnowRises$World", name := "passDay", desc := "()I" } : Jvm.MethodName)),
  (Jvm.Cond.selects "SnowRises$World" ({ cls := "SnowRises$World", name := "passDay", desc := "()I" } : Jvm.MethodName) ({ cls := "SnowRises$World", name := "passDay", desc := "()I" } : Jvm.MethodName)),
  (Jvm.Cond.instanceMethod ({ cls := "SnowRises$Tape", name := "put", desc := "(I)V" } : Jvm.MethodName)),
  (Jvm.Cond.selects "SnowRises$Tape" ({ cls := "SnowRises$Tape", name := "put", desc := "(I)V" } : Jvm.MethodName) ({ cls := "SnowRises$Tape", name := "put", desc := "(I)V" } : Jvm.MethodName)),
  (Jvm.Cond.instanceMethod ({ cls := "SnowRises$Tape", name := "split", desc := "()V" } : Jvm.MethodName)),
  (Jvm.Cond.selects "SnowRises$Tape" ({ cls := "SnowRises$Tape", name := "split", desc := "()V" } : Jvm.MethodName) ({ cls := "SnowRises$Tape", name := "split", desc := "()V" } : Jvm.MethodName)),
  (Jvm.Cond.instanceMethod ({ cls := "SnowRises$Reader", name := "reads", desc := "(I)Z" } : Jvm.MethodName)),
  (Jvm.Cond.selects "SnowRises$Reader" ({ cls := "SnowRises$Reader", name := "reads", desc := "(I)Z" } : Jvm.MethodName) ({ cls := "SnowRises$Reader", name := "reads", desc := "(I)Z" } : Jvm.MethodName)),
  (Jvm.Cond.instanceMethod ({ cls := "SnowRises$World", name := "take", desc := "(ILSnowRises$World;)I" } : Jvm.MethodName)),
  (Jvm.Cond.selects "SnowRises$World" ({ cls := "SnowRises$World", name := "take", desc := "(ILSnowRises$World;)I" } : Jvm.MethodName) ({ cls := "SnowRises$World", name := "take", desc := "(ILSnowRises$World;)I" } : Jvm.MethodName)),
  (Jvm.Cond.instanceMethod ({ cls := "SnowRises$World", name := "copy", desc := "(LSnowRises$World;)V" } : Jvm.MethodName)),
  (Jvm.Cond.selects "SnowRises$World" ({ cls := "SnowRises$World", name := "copy", desc := "(LSnowRises$World;)V" } : Jvm.MethodName) ({ cls := "SnowRises$World", name := "copy", desc := "(LSnowRises$World;)V" } : Jvm.MethodName)),
  (Jvm.Cond.instanceMethod ({ cls := "SnowRises", name := "beginThought", desc := "()V" } : Jvm.MethodName)),
  (Jvm.Cond.instanceMethod ({ cls := "SnowRises$World", name := "firstVoid", desc := "()I" } : Jvm.MethodName)),
  (Jvm.Cond.selects "SnowRises$World" ({ cls := "SnowRises$World", name := "firstVoid", desc := "()I" } : Jvm.MethodName) ({ cls := "SnowRises$World", name := "firstVoid", desc := "()I" } : Jvm.MethodName)),
  (Jvm.Cond.instanceMethod ({ cls := "SnowRises$World", name := "unmetWant", desc := "(I)I" } : Jvm.MethodName)),
  (Jvm.Cond.selects "SnowRises$World" ({ cls := "SnowRises$World", name := "unmetWant", desc := "(I)I" } : Jvm.MethodName) ({ cls := "SnowRises$World", name := "unmetWant", desc := "(I)I" } : Jvm.MethodName)),
  (Jvm.Cond.instanceMethod ({ cls := "SnowRises$World", name := "worthMet", desc := "(I)I" } : Jvm.MethodName)),
  (Jvm.Cond.selects "SnowRises$World" ({ cls := "SnowRises$World", name := "worthMet", desc := "(I)I" } : Jvm.MethodName) ({ cls := "SnowRises$World", name := "worthMet", desc := "(I)I" } : Jvm.MethodName)),
  (Jvm.Cond.instanceMethod ({ cls := "SnowRises$Couples", name := "settle", desc := "(LSnowRises$World;)V" } : Jvm.MethodName)),
  (Jvm.Cond.selects "SnowRises$Couples" ({ cls := "SnowRises$Couples", name := "settle", desc := "(LSnowRises$World;)V" } : Jvm.MethodName) ({ cls := "SnowRises$Couples", name := "settle", desc := "(LSnowRises$World;)V" } : Jvm.MethodName)),
  (Jvm.Cond.instanceMethod ({ cls := "SnowRises$Couples", name := "pair", desc := "(LSnowRises$World;)I" } : Jvm.MethodName)),
  (Jvm.Cond.selects "SnowRises$Couples" ({ cls := "SnowRises$Couples", name := "pair", desc := "(LSnowRises$World;)I" } : Jvm.MethodName) ({ cls := "SnowRises$Couples", name := "pair", desc := "(LSnowRises$World;)I" } : Jvm.MethodName)),
  (Jvm.Cond.instanceMethod ({ cls := "SnowRises$Couples", name := "baring", desc := "(LSnowRises$World;I)I" } : Jvm.MethodName)),
  (Jvm.Cond.selects "SnowRises$Couples" ({ cls := "SnowRises$Couples", name := "baring", desc := "(LSnowRises$World;I)I" } : Jvm.MethodName) ({ cls := "SnowRises$Couples", name := "baring", desc := "(LSnowRises$World;I)I" } : Jvm.MethodName)),
  (Jvm.Cond.instanceMethod ({ cls := "SnowRises$World", name := "whoCanBe", desc := "(I)I" } : Jvm.MethodName)),
  (Jvm.Cond.selects "SnowRises$World" ({ cls := "SnowRises$World", name := "whoCanBe", desc := "(I)I" } : Jvm.MethodName) ({ cls := "SnowRises$World", name := "whoCanBe", desc := "(I)I" } : Jvm.MethodName)),
  (Jvm.Cond.instanceMethod ({ cls := "SnowRises$Couples", name := "nextToPass", desc := "(LSnowRises$World;II)I" } : Jvm.MethodName)),
  (Jvm.Cond.selects "SnowRises$Couples" ({ cls := "SnowRises$Couples", name := "nextToPass", desc := "(LSnowRises$World;II)I" } : Jvm.MethodName) ({ cls := "SnowRises$Couples", name := "nextToPass", desc := "(LSnowRises$World;II)I" } : Jvm.MethodName)),
  (Jvm.Cond.instanceMethod ({ cls := "SnowRises$Ways", name := "fewestSteps", desc := "(LSnowRises$World;II)I" } : Jvm.MethodName)),
  (Jvm.Cond.selects "SnowRises$Ways" ({ cls := "SnowRises$Ways", name := "fewestSteps", desc := "(LSnowRises$World;II)I" } : Jvm.MethodName) ({ cls := "SnowRises$Ways", name := "fewestSteps", desc := "(LSnowRises$World;II)I" } : Jvm.MethodName)),
  (Jvm.Cond.instanceMethod ({ cls := "SnowRises$Ways", name := "fewestToCut", desc := "(LSnowRises$World;II)I" } : Jvm.MethodName)),
  (Jvm.Cond.selects "SnowRises$Ways" ({ cls := "SnowRises$Ways", name := "fewestToCut", desc := "(LSnowRises$World;II)I" } : Jvm.MethodName) ({ cls := "SnowRises$Ways", name := "fewestToCut", desc := "(LSnowRises$World;II)I" } : Jvm.MethodName)),
  (Jvm.Cond.instanceMethod ({ cls := "SnowRises$Rounds", name := "make", desc := "(LSnowRises$World;)V" } : Jvm.MethodName)),
  (Jvm.Cond.selects "SnowRises$Rounds" ({ cls := "SnowRises$Rounds", name := "make", desc := "(LSnowRises$World;)V" } : Jvm.MethodName) ({ cls := "SnowRises$Rounds", name := "make", desc := "(LSnowRises$World;)V" } : Jvm.MethodName)),
  (Jvm.Cond.instanceMethod ({ cls := "SnowRises$Rounds", name := "dayOf", desc := "(I)I" } : Jvm.MethodName)),
  (Jvm.Cond.selects "SnowRises$Rounds" ({ cls := "SnowRises$Rounds", name := "dayOf", desc := "(I)I" } : Jvm.MethodName) ({ cls := "SnowRises$Rounds", name := "dayOf", desc := "(I)I" } : Jvm.MethodName)),
  (Jvm.Cond.static ({ cls := "java/lang/Math", name := "floorDiv", desc := "(II)I" } : Jvm.MethodName)),
  (Jvm.Cond.instanceMethod ({ cls := "SnowRises$World", name := "worthBare", desc := "()I" } : Jvm.MethodName)),
  (Jvm.Cond.selects "SnowRises$World" ({ cls := "SnowRises$World", name := "worthBare", desc := "()I" } : Jvm.MethodName) ({ cls := "SnowRises$World", name := "worthBare", desc := "()I" } : Jvm.MethodName)),
  (Jvm.Cond.instanceMethod ({ cls := "SnowRises$Folk", name := "allKinOf", desc := "(I)I" } : Jvm.MethodName)),
  (Jvm.Cond.selects "SnowRises$Folk" ({ cls := "SnowRises$Folk", name := "allKinOf", desc := "(I)I" } : Jvm.MethodName) ({ cls := "SnowRises$Folk", name := "allKinOf", desc := "(I)I" } : Jvm.MethodName)),
  (Jvm.Cond.instanceMethod ({ cls := "SnowRises$Past", name := "giveBack", desc := "(LSnowRises$World;)Z" } : Jvm.MethodName)),
  (Jvm.Cond.selects "SnowRises$Past" ({ cls := "SnowRises$Past", name := "giveBack", desc := "(LSnowRises$World;)Z" } : Jvm.MethodName) ({ cls := "SnowRises$Past", name := "giveBack", desc := "(LSnowRises$World;)Z" } : Jvm.MethodName)),
  (Jvm.Cond.instanceMethod ({ cls := "SnowRises$World", name := "bareFields", desc := "()I" } : Jvm.MethodName)),
  (Jvm.Cond.selects "SnowRises$World" ({ cls := "SnowRises$World", name := "bareFields", desc := "()I" } : Jvm.MethodName) ({ cls := "SnowRises$World", name := "bareFields", desc := "()I" } : Jvm.MethodName)),
  (Jvm.Cond.initialized "SnowRisesModel"),
  (Jvm.Cond.static ({ cls := "SnowRisesModel", name := "isIn", desc := "(III)Z" } : Jvm.MethodName)),
  (Jvm.Cond.instanceMethod ({ cls := "SnowRisesModel", name := "isOn", desc := "(II)Z" } : Jvm.MethodName)),
  (Jvm.Cond.instanceMethod ({ cls := "SnowRisesModel", name := "isField", desc := "(I)Z" } : Jvm.MethodName)),
  (Jvm.Cond.instanceMethod ({ cls := "SnowRisesModel", name := "isPerson", desc := "(I)Z" } : Jvm.MethodName)),
  (Jvm.Cond.static ({ cls := "SnowRisesModel", name := "size", desc := "(I)I" } : Jvm.MethodName)),
  (Jvm.Cond.instanceMethod ({ cls := "SnowRisesModel", name := "forgets", desc := "()V" } : Jvm.MethodName)),
  (Jvm.Cond.instanceMethod ({ cls := "SnowRisesModel", name := "begins", desc := "(II)V" } : Jvm.MethodName)),
  (Jvm.Cond.instanceMethod ({ cls := "SnowRisesModel", name := "canSet", desc := "(III)Z" } : Jvm.MethodName)),
  (Jvm.Cond.static ({ cls := "SnowRisesModel", name := "placeOf", desc := "(II)I" } : Jvm.MethodName)),
  (Jvm.Cond.instanceMethod ({ cls := "SnowRisesModel", name := "is", desc := "(Ljava/lang/String;)Z" } : Jvm.MethodName)),
  (Jvm.Cond.instanceMethod ({ cls := "SnowRisesModel", name := "asked", desc := "()I" } : Jvm.MethodName)),
  (Jvm.Cond.instanceMethod ({ cls := "SnowRisesModel", name := "lawWord", desc := "()I" } : Jvm.MethodName)),
  (Jvm.Cond.instanceMethod ({ cls := "SnowRisesModel", name := "vowWord", desc := "()I" } : Jvm.MethodName)),
  (Jvm.Cond.instanceMethod ({ cls := "SnowRisesModel", name := "weatherWord", desc := "()I" } : Jvm.MethodName)),
  (Jvm.Cond.instanceMethod ({ cls := "SnowRisesModel", name := "wantWord", desc := "()I" } : Jvm.MethodName)),
  (Jvm.Cond.instanceMethod ({ cls := "SnowRisesModel", name := "see", desc := "(I)I" } : Jvm.MethodName)),
  (Jvm.Cond.static ({ cls := "SnowRisesModel", name := "isLetter", desc := "(I)Z" } : Jvm.MethodName))]
theorem wdA1 : ∀ w ∈ wsA1, w ∈ TW := tw_all [871, 877, 878, 563, 567, 574, 575, 614, 623, 624, 599, 600, 490, 491, 508, 509, 610, 620, 951, 952, 961, 962, 1045, 145, 446, 453, 454, 462, 466, 477, 478, 482, 483, 7, 498, 499, 595, 596, 632, 633, 644, 645, 784, 785, 866, 867, 929, 930, 926, 943, 944, 957, 958, 965, 966, 974, 975, 992, 993, 1020, 1021, 1040, 1041, 1053, 1054, 1072, 1073, 1086, 1087, 1109, 1110, 1123, 1124, 1136, 1139, 1140, 1147, 1148, 1164, 1165, 1176, 1177, 13, 1196, 1200, 1193, 1349, 1577, 1329, 1189, 1345, 1352, 1392, 1404, 1387, 1418, 1424, 1429, 1376, 1379] (by decide +kernel) (by decide +kernel)
def wsA2 : List Cond := [(Jvm.Cond.instanceMethod ({ cls := "SnowRisesModel", name := "word", desc := "()I" } : Jvm.MethodName)),
  (Jvm.Cond.static ({ cls := "SnowRisesModel", name := "isDigit", desc := "(I)Z" } : Jvm.MethodName)),
  (Jvm.Cond.instanceMethod ({ cls := "SnowRisesModel", name := "bad", desc := "(I)Z" } : Jvm.MethodName)),
  (Jvm.Cond.instanceMethod ({ cls := "SnowRisesModel", name := "next0", desc := "()V" } : Jvm.MethodName)),
  (Jvm.Cond.instanceMethod ({ cls := "SnowRisesModel", name := "lay", desc := "(II)V" } : Jvm.MethodName)),
  (Jvm.Cond.instanceMethod ({ cls := "SnowRisesModel", name := "unit", desc := "()Z" } : Jvm.MethodName)),
  (Jvm.Cond.instanceMethod ({ cls := "SnowRisesModel", name := "product", desc := "()Z" } : Jvm.MethodName)),
  (Jvm.Cond.instanceMethod ({ cls := "SnowRisesModel", name := "every", desc := "()Z" } : Jvm.MethodName)),
  (Jvm.Cond.instanceMethod ({ cls := "SnowRisesModel", name := "oneTest", desc := "()Z" } : Jvm.MethodName)),
  (Jvm.Cond.instanceMethod ({ cls := "SnowRisesModel", name := "opens", desc := "()Z" } : Jvm.MethodName)),
  (Jvm.Cond.instanceMethod ({ cls := "SnowRisesModel", name := "any", desc := "()Z" } : Jvm.MethodName)),
  (Jvm.Cond.instanceMethod ({ cls := "SnowRisesModel", name := "need", desc := "(I)Z" } : Jvm.MethodName)),
  (Jvm.Cond.instanceMethod ({ cls := "SnowRisesModel", name := "sumUp", desc := "()Z" } : Jvm.MethodName)),
  (Jvm.Cond.instanceMethod ({ cls := "SnowRisesModel", name := "aLine", desc := "()Z" } : Jvm.MethodName)),
  (Jvm.Cond.instanceMethod ({ cls := "SnowRisesModel", name := "number", desc := "(III)Z" } : Jvm.MethodName)),
  (Jvm.Cond.instanceMethod ({ cls := "SnowRisesModel", name := "told", desc := "(IIII)Z" } : Jvm.MethodName)),
  (Jvm.Cond.instanceMethod ({ cls := "SnowRisesModel", name := "areUnlike", desc := "(II)Z" } : Jvm.MethodName)),
  (Jvm.Cond.instanceMethod ({ cls := "SnowRisesModel", name := "aField", desc := "(II)Z" } : Jvm.MethodName)),
  (Jvm.Cond.instanceMethod ({ cls := "SnowRisesModel", name := "aVow", desc := "()Z" } : Jvm.MethodName)),
  (Jvm.Cond.instanceMethod ({ cls := "SnowRisesModel", name := "aWeather", desc := "()Z" } : Jvm.MethodName)),
  (Jvm.Cond.instanceMethod ({ cls := "SnowRisesModel", name := "aWant", desc := "()Z" } : Jvm.MethodName)),
  (Jvm.Cond.instanceMethod ({ cls := "SnowRisesModel", name := "aRow", desc := "()Z" } : Jvm.MethodName)),
  (Jvm.Cond.instanceMethod ({ cls := "SnowRisesModel", name := "putsLaw", desc := "()I" } : Jvm.MethodName)),
  (Jvm.Cond.instanceMethod ({ cls := "SnowRisesModel", name := "puts", desc := "(III)I" } : Jvm.MethodName)),
  (Jvm.Cond.instanceMethod ({ cls := "SnowRisesModel", name := "readsLaw", desc := "()Z" } : Jvm.MethodName)),
  (Jvm.Cond.instanceMethod ({ cls := "SnowRisesModel", name := "readsRows", desc := "()Z" } : Jvm.MethodName)),
  (Jvm.Cond.instanceMethod ({ cls := "SnowRisesModel", name := "putsText", desc := "(I)I" } : Jvm.MethodName)),
  (Jvm.Cond.static ({ cls := "SnowRisesModel", name := "both", desc := "(III)I" } : Jvm.MethodName)),
  (Jvm.Cond.instanceMethod ({ cls := "SnowRisesModel", name := "comesTo", desc := "(III)I" } : Jvm.MethodName)),
  (Jvm.Cond.instanceMethod ({ cls := "SnowRisesModel", name := "isSo", desc := "(I)Z" } : Jvm.MethodName)),
  (Jvm.Cond.static ({ cls := "SnowRisesModel", name := "lesser", desc := "(II)I" } : Jvm.MethodName)),
  (Jvm.Cond.static ({ cls := "SnowRisesModel", name := "greater", desc := "(II)I" } : Jvm.MethodName)),
  (Jvm.Cond.instanceMethod ({ cls := "SnowRisesModel", name := "clears", desc := "()V" } : Jvm.MethodName)),
  (Jvm.Cond.instanceMethod ({ cls := "SnowRisesModel", name := "laysTwo", desc := "(II)V" } : Jvm.MethodName)),
  (Jvm.Cond.instanceMethod ({ cls := "SnowRisesModel", name := "says", desc := "(III)I" } : Jvm.MethodName)),
  (Jvm.Cond.instanceMethod ({ cls := "SnowRisesModel", name := "matchOf", desc := "(II)I" } : Jvm.MethodName)),
  (Jvm.Cond.instanceMethod ({ cls := "SnowRisesModel", name := "foundOf", desc := "(II)I" } : Jvm.MethodName)),
  (Jvm.Cond.static ({ cls := "SnowRisesModel", name := "apart", desc := "(II)I" } : Jvm.MethodName)),
  (Jvm.Cond.instanceMethod ({ cls := "SnowRisesModel", name := "isFree", desc := "(I)Z" } : Jvm.MethodName)),
  (Jvm.Cond.instanceMethod ({ cls := "SnowRisesModel", name := "liftOf", desc := "(IIII)I" } : Jvm.MethodName)),
  (Jvm.Cond.instanceMethod ({ cls := "SnowRisesModel", name := "lifts", desc := "(IIII)I" } : Jvm.MethodName)),
  (Jvm.Cond.instanceMethod ({ cls := "SnowRisesModel", name := "wentTo", desc := "(II)I" } : Jvm.MethodName)),
  (Jvm.Cond.instanceMethod ({ cls := "SnowRisesModel", name := "rises", desc := "(III)I" } : Jvm.MethodName)),
  (Jvm.Cond.instanceMethod ({ cls := "SnowRisesModel", name := "drifts", desc := "(III)I" } : Jvm.MethodName)),
  (Jvm.Cond.instanceMethod ({ cls := "SnowRisesModel", name := "notes", desc := "(III)V" } : Jvm.MethodName)),
  (Jvm.Cond.instanceMethod ({ cls := "SnowRisesModel", name := "canVow", desc := "(III)Z" } : Jvm.MethodName)),
  (Jvm.Cond.instanceMethod ({ cls := "SnowRisesModel", name := "keeps", desc := "()V" } : Jvm.MethodName)),
  (Jvm.Cond.instanceMethod ({ cls := "SnowRisesModel", name := "vows", desc := "(III)I" } : Jvm.MethodName)),
  (Jvm.Cond.instanceMethod ({ cls := "SnowRisesModel", name := "weatherOf", desc := "(I)I" } : Jvm.MethodName)),
  (Jvm.Cond.instanceMethod ({ cls := "SnowRisesModel", name := "ofVow", desc := "(II)I" } : Jvm.MethodName)),
  (Jvm.Cond.instanceMethod ({ cls := "SnowRisesModel", name := "draw", desc := "(I)I" } : Jvm.MethodName)),
  (Jvm.Cond.instanceMethod ({ cls := "SnowRisesModel", name := "snows", desc := "()V" } : Jvm.MethodName)),
  (Jvm.Cond.instanceMethod ({ cls := "SnowRisesModel", name := "vowsOfDay", desc := "()I" } : Jvm.MethodName)),
  (Jvm.Cond.instanceMethod ({ cls := "SnowRisesModel", name := "slides", desc := "()V" } : Jvm.MethodName)),
  (Jvm.Cond.instanceMethod ({ cls := "SnowRisesModel", name := "meltOf", desc := "(I)I" } : Jvm.MethodName)),
  (Jvm.Cond.instanceMethod ({ cls := "SnowRisesModel", name := "aDay", desc := "()I" } : Jvm.MethodName)),
  (Jvm.Cond.instanceMethod ({ cls := "SnowRisesModel", name := "lays", desc := "()V" } : Jvm.MethodName)),
  (Jvm.Cond.instanceMethod ({ cls := "SnowRisesModel", name := "putsBack", desc := "()V" } : Jvm.MethodName)),
  (Jvm.Cond.instanceMethod ({ cls := "SnowRisesModel", name := "lastOf", desc := "(III)I" } : Jvm.MethodName)),
  (Jvm.Cond.instanceMethod ({ cls := "SnowRisesModel", name := "meetsWants", desc := "(I)I" } : Jvm.MethodName)),
  (Jvm.Cond.instanceMethod ({ cls := "SnowRisesModel", name := "nextAsked", desc := "(I)I" } : Jvm.MethodName)),
  (Jvm.Cond.instanceMethod ({ cls := "SnowRisesModel", name := "keepsFor", desc := "(II)Z" } : Jvm.MethodName)),
  (Jvm.Cond.instanceMethod ({ cls := "SnowRisesModel", name := "asksOn", desc := "(I)V" } : Jvm.MethodName)),
  (Jvm.Cond.instanceMethod ({ cls := "SnowRisesModel", name := "canHave", desc := "(III)Z" } : Jvm.MethodName)),
  (Jvm.Cond.instanceMethod ({ cls := "SnowRisesModel", name := "laysFound", desc := "()V" } : Jvm.MethodName)),
  (Jvm.Cond.instanceMethod ({ cls := "SnowRisesModel", name := "laysBest", desc := "()V" } : Jvm.MethodName)),
  (Jvm.Cond.instanceMethod ({ cls := "SnowRisesModel", name := "takenBy", desc := "(II)I" } : Jvm.MethodName)),
  (Jvm.Cond.instanceMethod ({ cls := "SnowRisesModel", name := "canBe", desc := "(II)Z" } : Jvm.MethodName)),
  (Jvm.Cond.instanceMethod ({ cls := "SnowRisesModel", name := "whoBy", desc := "(I)I" } : Jvm.MethodName)),
  (Jvm.Cond.static ({ cls := "SnowRisesModel", name := "count", desc := "(I)I" } : Jvm.MethodName)),
  (Jvm.Cond.instanceMethod ({ cls := "SnowRisesModel", name := "mostAlike", desc := "(II)I" } : Jvm.MethodName)),
  (Jvm.Cond.instanceMethod ({ cls := "SnowRisesModel", name := "isSafe", desc := "(I)Z" } : Jvm.MethodName)),
  (Jvm.Cond.instanceMethod ({ cls := "SnowRisesModel", name := "isComeTo", desc := "(II)V" } : Jvm.MethodName)),
  (Jvm.Cond.instanceMethod ({ cls := "SnowRisesModel", name := "wayTo", desc := "(II)I" } : Jvm.MethodName)),
  (Jvm.Cond.instanceMethod ({ cls := "SnowRisesModel", name := "goesIn", desc := "(I)V" } : Jvm.MethodName)),
  (Jvm.Cond.instanceMethod ({ cls := "SnowRisesModel", name := "goesOut", desc := "(I)V" } : Jvm.MethodName)),
  (Jvm.Cond.instanceMethod ({ cls := "SnowRisesModel", name := "turns", desc := "(II)V" } : Jvm.MethodName)),
  (Jvm.Cond.instanceMethod ({ cls := "SnowRisesModel", name := "hasWay", desc := "(II)Z" } : Jvm.MethodName)),
  (Jvm.Cond.instanceMethod ({ cls := "SnowRisesModel", name := "roundsFrom", desc := "(III)Z" } : Jvm.MethodName)),
  (Jvm.Cond.instanceMethod ({ cls := "SnowRisesModel", name := "isAloneIn", desc := "(II)Z" } : Jvm.MethodName)),
  (Jvm.Cond.instanceMethod ({ cls := "SnowRisesModel", name := "counting", desc := "()I" } : Jvm.MethodName)),
  (Jvm.Cond.instanceMethod ({ cls := "SnowRisesModel", name := "hopeOf", desc := "(I)I" } : Jvm.MethodName)),
  (Jvm.Cond.instanceMethod ({ cls := "SnowRisesModel", name := "bareFields", desc := "()I" } : Jvm.MethodName)),
  (Jvm.Cond.instanceMethod ({ cls := "SnowRises", name := "state", desc := "(I)I" } : Jvm.MethodName)),
  (Jvm.Cond.selects "SnowRises" ({ cls := "SnowRises", name := "state", desc := "(I)I" } : Jvm.MethodName) ({ cls := "SnowRises", name := "state", desc := "(I)I" } : Jvm.MethodName)),
  (Jvm.Cond.instanceMethod ({ cls := "SnowRisesModel", name := "state", desc := "(I)I" } : Jvm.MethodName)),
  (Jvm.Cond.selects "SnowRisesModel" ({ cls := "SnowRisesModel", name := "state", desc := "(I)I" } : Jvm.MethodName) ({ cls := "SnowRisesModel", name := "state", desc := "(I)I" } : Jvm.MethodName)),
  (Jvm.Cond.instanceMethod ({ cls := "SnowRises", name := "valley", desc := "(II)Z" } : Jvm.MethodName)),
  (Jvm.Cond.selects "SnowRises" ({ cls := "SnowRises", name := "valley", desc := "(II)Z" } : Jvm.MethodName) ({ cls := "SnowRises", name := "valley", desc := "(II)Z" } : Jvm.MethodName)),
  (Jvm.Cond.instanceMethod ({ cls := "SnowRisesModel", name := "valley", desc := "(II)Z" } : Jvm.MethodName)),
  (Jvm.Cond.selects "SnowRisesModel" ({ cls := "SnowRisesModel", name := "valley", desc := "(II)Z" } : Jvm.MethodName) ({ cls := "SnowRisesModel", name := "valley", desc := "(II)Z" } : Jvm.MethodName)),
  (Jvm.Cond.instanceMethod ({ cls := "SnowRises", name := "person", desc := "(IIII)I" } : Jvm.MethodName)),
  (Jvm.Cond.selects "SnowRises" ({ cls := "SnowRises", name := "person", desc := "(IIII)I" } : Jvm.MethodName) ({ cls := "SnowRises", name := "person", desc := "(IIII)I" } : Jvm.MethodName)),
  (Jvm.Cond.instanceMethod ({ cls := "SnowRisesModel", name := "person", desc := "(IIII)I" } : Jvm.MethodName)),
  (Jvm.Cond.selects "SnowRisesModel" ({ cls := "SnowRisesModel", name := "person", desc := "(IIII)I" } : Jvm.MethodName) ({ cls := "SnowRisesModel", name := "person", desc := "(IIII)I" } : Jvm.MethodName)),
  (Jvm.Cond.instanceMethod ({ cls := "SnowRises", name := "set", desc := "(III)Z" } : Jvm.MethodName)),
  (Jvm.Cond.selects "SnowRises" ({ cls := "SnowRises", name := "set", desc := "(III)Z" } : Jvm.MethodName) ({ cls := "SnowRises", name := "set", desc := "(III)Z" } : Jvm.MethodName)),
  (Jvm.Cond.instanceMethod ({ cls := "SnowRisesModel", name := "set", desc := "(III)Z" } : Jvm.MethodName)),
  (Jvm.Cond.selects "SnowRisesModel" ({ cls := "SnowRisesModel", name := "set", desc := "(III)Z" } : Jvm.MethodName) ({ cls := "SnowRisesModel", name := "set", desc := "(III)Z" } : Jvm.MethodName)),
  (Jvm.Cond.instanceMethod ({ cls := "SnowRises", name := "kin", desc := "(IIZ)Z" } : Jvm.MethodName))]
theorem wdA2 : ∀ w ∈ wsA2, w ∈ TW := tw_all [1383, 1434, 1446, 1372, 1462, 1458, 1454, 1470, 1474, 1478, 1466, 1482, 1450, 1442, 1502, 1498, 1506, 1510, 1494, 1514, 1518, 1490, 1526, 1530, 1438, 1486, 1522, 1592, 1589, 1585, 1595, 1598, 1574, 1570, 1581, 1566, 1562, 1613, 1550, 1610, 1606, 1621, 1602, 1617, 1625, 1546, 1554, 1558, 1649, 1657, 1665, 1645, 1653, 1661, 1671, 1641, 1703, 1707, 1719, 1715, 1731, 1735, 1727, 1751, 1743, 1747, 1755, 1775, 1771, 1782, 1787, 1800, 1812, 1828, 1816, 1820, 1824, 1808, 1840, 1844, 1836, 1864, 1876, 433, 434, 1324, 1325, 437, 438, 1332, 1333, 442, 443, 1336, 1337, 457, 458, 1340, 1341, 473] (by decide +kernel) (by decide +kernel)
def wsA3 : List Cond := [(Jvm.Cond.selects "SnowRises" ({ cls := "SnowRises", name := "kin", desc := "(IIZ)Z" } : Jvm.MethodName) ({ cls := "SnowRises", name := "kin", desc := "(IIZ)Z" } : Jvm.MethodName)),
  (Jvm.Cond.instanceMethod ({ cls := "SnowRisesModel", name := "kin", desc := "(IIZ)Z" } : Jvm.MethodName)),
  (Jvm.Cond.selects "SnowRisesModel" ({ cls := "SnowRisesModel", name := "kin", desc := "(IIZ)Z" } : Jvm.MethodName) ({ cls := "SnowRisesModel", name := "kin", desc := "(IIZ)Z" } : Jvm.MethodName)),
  (Jvm.Cond.instanceMethod ({ cls := "SnowRises", name := "vow", desc := "(III)I" } : Jvm.MethodName)),
  (Jvm.Cond.selects "SnowRises" ({ cls := "SnowRises", name := "vow", desc := "(III)I" } : Jvm.MethodName) ({ cls := "SnowRises", name := "vow", desc := "(III)I" } : Jvm.MethodName)),
  (Jvm.Cond.instanceMethod ({ cls := "SnowRisesModel", name := "vow", desc := "(III)I" } : Jvm.MethodName)),
  (Jvm.Cond.selects "SnowRisesModel" ({ cls := "SnowRisesModel", name := "vow", desc := "(III)I" } : Jvm.MethodName) ({ cls := "SnowRisesModel", name := "vow", desc := "(III)I" } : Jvm.MethodName)),
  (Jvm.Cond.instanceMethod ({ cls := "SnowRises", name := "part", desc := "(II)Z" } : Jvm.MethodName)),
  (Jvm.Cond.selects "SnowRises" ({ cls := "SnowRises", name := "part", desc := "(II)Z" } : Jvm.MethodName) ({ cls := "SnowRises", name := "part", desc := "(II)Z" } : Jvm.MethodName)),
  (Jvm.Cond.instanceMethod ({ cls := "SnowRisesModel", name := "part", desc := "(II)Z" } : Jvm.MethodName)),
  (Jvm.Cond.selects "SnowRisesModel" ({ cls := "SnowRisesModel", name := "part", desc := "(II)Z" } : Jvm.MethodName) ({ cls := "SnowRisesModel", name := "part", desc := "(II)Z" } : Jvm.MethodName)),
  (Jvm.Cond.instanceMethod ({ cls := "SnowRises", name := "sweep", desc := "(I)I" } : Jvm.MethodName)),
  (Jvm.Cond.selects "SnowRises" ({ cls := "SnowRises", name := "sweep", desc := "(I)I" } : Jvm.MethodName) ({ cls := "SnowRises", name := "sweep", desc := "(I)I" } : Jvm.MethodName)),
  (Jvm.Cond.instanceMethod ({ cls := "SnowRisesModel", name := "sweep", desc := "(I)I" } : Jvm.MethodName)),
  (Jvm.Cond.selects "SnowRisesModel" ({ cls := "SnowRisesModel", name := "sweep", desc := "(I)I" } : Jvm.MethodName) ({ cls := "SnowRisesModel", name := "sweep", desc := "(I)I" } : Jvm.MethodName)),
  (Jvm.Cond.instanceMethod ({ cls := "SnowRises", name := "days", desc := "(I)I" } : Jvm.MethodName)),
  (Jvm.Cond.selects "SnowRises" ({ cls := "SnowRises", name := "days", desc := "(I)I" } : Jvm.MethodName) ({ cls := "SnowRises", name := "days", desc := "(I)I" } : Jvm.MethodName)),
  (Jvm.Cond.instanceMethod ({ cls := "SnowRisesModel", name := "days", desc := "(I)I" } : Jvm.MethodName)),
  (Jvm.Cond.selects "SnowRisesModel" ({ cls := "SnowRisesModel", name := "days", desc := "(I)I" } : Jvm.MethodName) ({ cls := "SnowRisesModel", name := "days", desc := "(I)I" } : Jvm.MethodName)),
  (Jvm.Cond.instanceMethod ({ cls := "SnowRises", name := "feed", desc := "(IIIII)I" } : Jvm.MethodName)),
  (Jvm.Cond.selects "SnowRises" ({ cls := "SnowRises", name := "feed", desc := "(IIIII)I" } : Jvm.MethodName) ({ cls := "SnowRises", name := "feed", desc := "(IIIII)I" } : Jvm.MethodName)),
  (Jvm.Cond.instanceMethod ({ cls := "SnowRisesModel", name := "feed", desc := "(IIIII)I" } : Jvm.MethodName)),
  (Jvm.Cond.selects "SnowRisesModel" ({ cls := "SnowRisesModel", name := "feed", desc := "(IIIII)I" } : Jvm.MethodName) ({ cls := "SnowRisesModel", name := "feed", desc := "(IIIII)I" } : Jvm.MethodName)),
  (Jvm.Cond.instanceMethod ({ cls := "SnowRises", name := "end", desc := "(I)Z" } : Jvm.MethodName)),
  (Jvm.Cond.selects "SnowRises" ({ cls := "SnowRises", name := "end", desc := "(I)Z" } : Jvm.MethodName) ({ cls := "SnowRises", name := "end", desc := "(I)Z" } : Jvm.MethodName)),
  (Jvm.Cond.instanceMethod ({ cls := "SnowRisesModel", name := "end", desc := "(I)Z" } : Jvm.MethodName)),
  (Jvm.Cond.selects "SnowRisesModel" ({ cls := "SnowRisesModel", name := "end", desc := "(I)Z" } : Jvm.MethodName) ({ cls := "SnowRisesModel", name := "end", desc := "(I)Z" } : Jvm.MethodName)),
  (Jvm.Cond.instanceMethod ({ cls := "SnowRises", name := "text", desc := "(I)I" } : Jvm.MethodName)),
  (Jvm.Cond.selects "SnowRises" ({ cls := "SnowRises", name := "text", desc := "(I)I" } : Jvm.MethodName) ({ cls := "SnowRises", name := "text", desc := "(I)I" } : Jvm.MethodName)),
  (Jvm.Cond.instanceMethod ({ cls := "SnowRisesModel", name := "text", desc := "(I)I" } : Jvm.MethodName)),
  (Jvm.Cond.selects "SnowRisesModel" ({ cls := "SnowRisesModel", name := "text", desc := "(I)I" } : Jvm.MethodName) ({ cls := "SnowRisesModel", name := "text", desc := "(I)I" } : Jvm.MethodName)),
  (Jvm.Cond.instanceMethod ({ cls := "SnowRises", name := "fault", desc := "(I)I" } : Jvm.MethodName)),
  (Jvm.Cond.selects "SnowRises" ({ cls := "SnowRises", name := "fault", desc := "(I)I" } : Jvm.MethodName) ({ cls := "SnowRises", name := "fault", desc := "(I)I" } : Jvm.MethodName)),
  (Jvm.Cond.instanceMethod ({ cls := "SnowRisesModel", name := "fault", desc := "(I)I" } : Jvm.MethodName)),
  (Jvm.Cond.selects "SnowRisesModel" ({ cls := "SnowRisesModel", name := "fault", desc := "(I)I" } : Jvm.MethodName) ({ cls := "SnowRisesModel", name := "fault", desc := "(I)I" } : Jvm.MethodName)),
  (Jvm.Cond.instanceMethod ({ cls := "SnowRises", name := "of", desc := "(II)I" } : Jvm.MethodName)),
  (Jvm.Cond.selects "SnowRises" ({ cls := "SnowRises", name := "of", desc := "(II)I" } : Jvm.MethodName) ({ cls := "SnowRises", name := "of", desc := "(II)I" } : Jvm.MethodName)),
  (Jvm.Cond.instanceMethod ({ cls := "SnowRisesModel", name := "of", desc := "(II)I" } : Jvm.MethodName)),
  (Jvm.Cond.selects "SnowRisesModel" ({ cls := "SnowRisesModel", name := "of", desc := "(II)I" } : Jvm.MethodName) ({ cls := "SnowRisesModel", name := "of", desc := "(II)I" } : Jvm.MethodName)),
  (Jvm.Cond.instanceMethod ({ cls := "SnowRises", name := "match", desc := "(IIZ)I" } : Jvm.MethodName)),
  (Jvm.Cond.selects "SnowRises" ({ cls := "SnowRises", name := "match", desc := "(IIZ)I" } : Jvm.MethodName) ({ cls := "SnowRises", name := "match", desc := "(IIZ)I" } : Jvm.MethodName)),
  (Jvm.Cond.instanceMethod ({ cls := "SnowRisesModel", name := "match", desc := "(IIZ)I" } : Jvm.MethodName)),
  (Jvm.Cond.selects "SnowRisesModel" ({ cls := "SnowRisesModel", name := "match", desc := "(IIZ)I" } : Jvm.MethodName) ({ cls := "SnowRisesModel", name := "match", desc := "(IIZ)I" } : Jvm.MethodName)),
  (Jvm.Cond.instanceMethod ({ cls := "SnowRises", name := "at", desc := "(II)I" } : Jvm.MethodName)),
  (Jvm.Cond.selects "SnowRises" ({ cls := "SnowRises", name := "at", desc := "(II)I" } : Jvm.MethodName) ({ cls := "SnowRises", name := "at", desc := "(II)I" } : Jvm.MethodName)),
  (Jvm.Cond.instanceMethod ({ cls := "SnowRisesModel", name := "at", desc := "(II)I" } : Jvm.MethodName)),
  (Jvm.Cond.selects "SnowRisesModel" ({ cls := "SnowRisesModel", name := "at", desc := "(II)I" } : Jvm.MethodName) ({ cls := "SnowRisesModel", name := "at", desc := "(II)I" } : Jvm.MethodName)),
  (Jvm.Cond.instanceMethod ({ cls := "SnowRises", name := "lift", desc := "(IIII)I" } : Jvm.MethodName)),
  (Jvm.Cond.selects "SnowRises" ({ cls := "SnowRises", name := "lift", desc := "(IIII)I" } : Jvm.MethodName) ({ cls := "SnowRises", name := "lift", desc := "(IIII)I" } : Jvm.MethodName)),
  (Jvm.Cond.instanceMethod ({ cls := "SnowRisesModel", name := "lift", desc := "(IIII)I" } : Jvm.MethodName)),
  (Jvm.Cond.selects "SnowRisesModel" ({ cls := "SnowRisesModel", name := "lift", desc := "(IIII)I" } : Jvm.MethodName) ({ cls := "SnowRisesModel", name := "lift", desc := "(IIII)I" } : Jvm.MethodName)),
  (Jvm.Cond.instanceMethod ({ cls := "SnowRises", name := "weather", desc := "(I)I" } : Jvm.MethodName)),
  (Jvm.Cond.selects "SnowRises" ({ cls := "SnowRises", name := "weather", desc := "(I)I" } : Jvm.MethodName) ({ cls := "SnowRises", name := "weather", desc := "(I)I" } : Jvm.MethodName)),
  (Jvm.Cond.instanceMethod ({ cls := "SnowRisesModel", name := "weather", desc := "(I)I" } : Jvm.MethodName)),
  (Jvm.Cond.selects "SnowRisesModel" ({ cls := "SnowRisesModel", name := "weather", desc := "(I)I" } : Jvm.MethodName) ({ cls := "SnowRisesModel", name := "weather", desc := "(I)I" } : Jvm.MethodName)),
  (Jvm.Cond.instanceMethod ({ cls := "SnowRises", name := "book", desc := "(II)I" } : Jvm.MethodName)),
  (Jvm.Cond.selects "SnowRises" ({ cls := "SnowRises", name := "book", desc := "(II)I" } : Jvm.MethodName) ({ cls := "SnowRises", name := "book", desc := "(II)I" } : Jvm.MethodName)),
  (Jvm.Cond.instanceMethod ({ cls := "SnowRisesModel", name := "book", desc := "(II)I" } : Jvm.MethodName)),
  (Jvm.Cond.selects "SnowRisesModel" ({ cls := "SnowRisesModel", name := "book", desc := "(II)I" } : Jvm.MethodName) ({ cls := "SnowRisesModel", name := "book", desc := "(II)I" } : Jvm.MethodName)),
  (Jvm.Cond.instanceMethod ({ cls := "SnowRises", name := "lies", desc := "(II)I" } : Jvm.MethodName)),
  (Jvm.Cond.selects "SnowRises" ({ cls := "SnowRises", name := "lies", desc := "(II)I" } : Jvm.MethodName) ({ cls := "SnowRises", name := "lies", desc := "(II)I" } : Jvm.MethodName)),
  (Jvm.Cond.instanceMethod ({ cls := "SnowRisesModel", name := "lies", desc := "(II)I" } : Jvm.MethodName)),
  (Jvm.Cond.selects "SnowRisesModel" ({ cls := "SnowRisesModel", name := "lies", desc := "(II)I" } : Jvm.MethodName) ({ cls := "SnowRisesModel", name := "lies", desc := "(II)I" } : Jvm.MethodName)),
  (Jvm.Cond.instanceMethod ({ cls := "SnowRises", name := "meets", desc := "(I)I" } : Jvm.MethodName)),
  (Jvm.Cond.selects "SnowRises" ({ cls := "SnowRises", name := "meets", desc := "(I)I" } : Jvm.MethodName) ({ cls := "SnowRises", name := "meets", desc := "(I)I" } : Jvm.MethodName)),
  (Jvm.Cond.instanceMethod ({ cls := "SnowRisesModel", name := "meets", desc := "(I)I" } : Jvm.MethodName)),
  (Jvm.Cond.selects "SnowRisesModel" ({ cls := "SnowRisesModel", name := "meets", desc := "(I)I" } : Jvm.MethodName) ({ cls := "SnowRisesModel", name := "meets", desc := "(I)I" } : Jvm.MethodName)),
  (Jvm.Cond.instanceMethod ({ cls := "SnowRises", name := "stable", desc := "(I)I" } : Jvm.MethodName)),
  (Jvm.Cond.selects "SnowRises" ({ cls := "SnowRises", name := "stable", desc := "(I)I" } : Jvm.MethodName) ({ cls := "SnowRises", name := "stable", desc := "(I)I" } : Jvm.MethodName)),
  (Jvm.Cond.instanceMethod ({ cls := "SnowRisesModel", name := "stable", desc := "(I)I" } : Jvm.MethodName)),
  (Jvm.Cond.selects "SnowRisesModel" ({ cls := "SnowRisesModel", name := "stable", desc := "(I)I" } : Jvm.MethodName) ({ cls := "SnowRisesModel", name := "stable", desc := "(I)I" } : Jvm.MethodName)),
  (Jvm.Cond.instanceMethod ({ cls := "SnowRises", name := "best", desc := "(I)I" } : Jvm.MethodName)),
  (Jvm.Cond.selects "SnowRises" ({ cls := "SnowRises", name := "best", desc := "(I)I" } : Jvm.MethodName) ({ cls := "SnowRises", name := "best", desc := "(I)I" } : Jvm.MethodName)),
  (Jvm.Cond.instanceMethod ({ cls := "SnowRisesModel", name := "best", desc := "(I)I" } : Jvm.MethodName)),
  (Jvm.Cond.selects "SnowRisesModel" ({ cls := "SnowRisesModel", name := "best", desc := "(I)I" } : Jvm.MethodName) ({ cls := "SnowRisesModel", name := "best", desc := "(I)I" } : Jvm.MethodName)),
  (Jvm.Cond.instanceMethod ({ cls := "SnowRises", name := "bares", desc := "(II)I" } : Jvm.MethodName)),
  (Jvm.Cond.selects "SnowRises" ({ cls := "SnowRises", name := "bares", desc := "(II)I" } : Jvm.MethodName) ({ cls := "SnowRises", name := "bares", desc := "(II)I" } : Jvm.MethodName)),
  (Jvm.Cond.instanceMethod ({ cls := "SnowRisesModel", name := "bares", desc := "(II)I" } : Jvm.MethodName)),
  (Jvm.Cond.selects "SnowRisesModel" ({ cls := "SnowRisesModel", name := "bares", desc := "(II)I" } : Jvm.MethodName) ({ cls := "SnowRisesModel", name := "bares", desc := "(II)I" } : Jvm.MethodName)),
  (Jvm.Cond.instanceMethod ({ cls := "SnowRises", name := "stir", desc := "(IIZ)I" } : Jvm.MethodName)),
  (Jvm.Cond.selects "SnowRises" ({ cls := "SnowRises", name := "stir", desc := "(IIZ)I" } : Jvm.MethodName) ({ cls := "SnowRises", name := "stir", desc := "(IIZ)I" } : Jvm.MethodName)),
  (Jvm.Cond.instanceMethod ({ cls := "SnowRisesModel", name := "stir", desc := "(IIZ)I" } : Jvm.MethodName)),
  (Jvm.Cond.selects "SnowRisesModel" ({ cls := "SnowRisesModel", name := "stir", desc := "(IIZ)I" } : Jvm.MethodName) ({ cls := "SnowRisesModel", name := "stir", desc := "(IIZ)I" } : Jvm.MethodName)),
  (Jvm.Cond.instanceMethod ({ cls := "SnowRises", name := "who", desc := "(I)I" } : Jvm.MethodName)),
  (Jvm.Cond.selects "SnowRises" ({ cls := "SnowRises", name := "who", desc := "(I)I" } : Jvm.MethodName) ({ cls := "SnowRises", name := "who", desc := "(I)I" } : Jvm.MethodName)),
  (Jvm.Cond.instanceMethod ({ cls := "SnowRisesModel", name := "who", desc := "(I)I" } : Jvm.MethodName)),
  (Jvm.Cond.selects "SnowRisesModel" ({ cls := "SnowRisesModel", name := "who", desc := "(I)I" } : Jvm.MethodName) ({ cls := "SnowRisesModel", name := "who", desc := "(I)I" } : Jvm.MethodName)),
  (Jvm.Cond.instanceMethod ({ cls := "SnowRises", name := "ask", desc := "(I)I" } : Jvm.MethodName)),
  (Jvm.Cond.selects "SnowRises" ({ cls := "SnowRises", name := "ask", desc := "(I)I" } : Jvm.MethodName) ({ cls := "SnowRises", name := "ask", desc := "(I)I" } : Jvm.MethodName)),
  (Jvm.Cond.instanceMethod ({ cls := "SnowRisesModel", name := "ask", desc := "(I)I" } : Jvm.MethodName)),
  (Jvm.Cond.selects "SnowRisesModel" ({ cls := "SnowRisesModel", name := "ask", desc := "(I)I" } : Jvm.MethodName) ({ cls := "SnowRisesModel", name := "ask", desc := "(I)I" } : Jvm.MethodName)),
  (Jvm.Cond.instanceMethod ({ cls := "SnowRises", name := "safe", desc := "(II)I" } : Jvm.MethodName)),
  (Jvm.Cond.selects "SnowRises" ({ cls := "SnowRises", name := "safe", desc := "(II)I" } : Jvm.MethodName) ({ cls := "SnowRises", name := "safe", desc := "(II)I" } : Jvm.MethodName)),
  (Jvm.Cond.instanceMethod ({ cls := "SnowRisesModel", name := "safe", desc := "(II)I" } : Jvm.MethodName)),
  (Jvm.Cond.selects "SnowRisesModel" ({ cls := "SnowRisesModel", name := "safe", desc := "(II)I" } : Jvm.MethodName) ({ cls := "SnowRisesModel", name := "safe", desc := "(II)I" } : Jvm.MethodName)),
  (Jvm.Cond.instanceMethod ({ cls := "SnowRises", name := "cut", desc := "(II)I" } : Jvm.MethodName)),
  (Jvm.Cond.selects "SnowRises" ({ cls := "SnowRises", name := "cut", desc := "(II)I" } : Jvm.MethodName) ({ cls := "SnowRises", name := "cut", desc := "(II)I" } : Jvm.MethodName)),
  (Jvm.Cond.instanceMethod ({ cls := "SnowRisesModel", name := "cut", desc := "(II)I" } : Jvm.MethodName)),
  (Jvm.Cond.selects "SnowRisesModel" ({ cls := "SnowRisesModel", name := "cut", desc := "(II)I" } : Jvm.MethodName) ({ cls := "SnowRisesModel", name := "cut", desc := "(II)I" } : Jvm.MethodName)),
  (Jvm.Cond.instanceMethod ({ cls := "SnowRises", name := "rounds", desc := "(I)I" } : Jvm.MethodName))]
theorem wdA3 : ∀ w ∈ wsA3, w ∈ TW := tw_all [474, 1355, 1356, 486, 487, 1541, 1542, 582, 583, 1628, 1629, 587, 588, 1632, 1633, 591, 592, 1636, 1637, 628, 629, 1359, 1360, 636, 637, 1363, 1364, 640, 641, 1367, 1368, 883, 884, 1533, 1534, 887, 888, 1674, 1675, 891, 892, 1678, 1679, 900, 901, 1682, 1683, 905, 906, 1686, 1687, 911, 912, 1690, 1691, 916, 917, 1694, 1695, 921, 922, 1698, 1699, 939, 940, 1710, 1711, 969, 970, 1722, 1723, 988, 989, 1738, 1739, 1016, 1017, 1758, 1759, 1031, 1032, 1762, 1763, 1036, 1037, 1766, 1767, 1048, 1049, 1778, 1779, 1068, 1069, 1795, 1796, 1081, 1082, 1803, 1804, 1105] (by decide +kernel) (by decide +kernel)
def wsA4 : List Cond := [(Jvm.Cond.selects "SnowRises" ({ cls := "SnowRises", name := "rounds", desc := "(I)I" } : Jvm.MethodName) ({ cls := "SnowRises", name := "rounds", desc := "(I)I" } : Jvm.MethodName)),
  (Jvm.Cond.instanceMethod ({ cls := "SnowRisesModel", name := "rounds", desc := "(I)I" } : Jvm.MethodName)),
  (Jvm.Cond.selects "SnowRisesModel" ({ cls := "SnowRisesModel", name := "rounds", desc := "(I)I" } : Jvm.MethodName) ({ cls := "SnowRisesModel", name := "rounds", desc := "(I)I" } : Jvm.MethodName)),
  (Jvm.Cond.instanceMethod ({ cls := "SnowRises", name := "comes", desc := "(II)I" } : Jvm.MethodName)),
  (Jvm.Cond.selects "SnowRises" ({ cls := "SnowRises", name := "comes", desc := "(II)I" } : Jvm.MethodName) ({ cls := "SnowRises", name := "comes", desc := "(II)I" } : Jvm.MethodName)),
  (Jvm.Cond.instanceMethod ({ cls := "SnowRisesModel", name := "comes", desc := "(II)I" } : Jvm.MethodName)),
  (Jvm.Cond.selects "SnowRisesModel" ({ cls := "SnowRisesModel", name := "comes", desc := "(II)I" } : Jvm.MethodName) ({ cls := "SnowRisesModel", name := "comes", desc := "(II)I" } : Jvm.MethodName)),
  (Jvm.Cond.instanceMethod ({ cls := "SnowRises", name := "asks", desc := "()I" } : Jvm.MethodName)),
  (Jvm.Cond.selects "SnowRises" ({ cls := "SnowRises", name := "asks", desc := "()I" } : Jvm.MethodName) ({ cls := "SnowRises", name := "asks", desc := "()I" } : Jvm.MethodName)),
  (Jvm.Cond.instanceMethod ({ cls := "SnowRisesModel", name := "asks", desc := "()I" } : Jvm.MethodName)),
  (Jvm.Cond.selects "SnowRisesModel" ({ cls := "SnowRisesModel", name := "asks", desc := "()I" } : Jvm.MethodName) ({ cls := "SnowRisesModel", name := "asks", desc := "()I" } : Jvm.MethodName)),
  (Jvm.Cond.instanceMethod ({ cls := "SnowRises", name := "tribe", desc := "(I)I" } : Jvm.MethodName)),
  (Jvm.Cond.selects "SnowRises" ({ cls := "SnowRises", name := "tribe", desc := "(I)I" } : Jvm.MethodName) ({ cls := "SnowRises", name := "tribe", desc := "(I)I" } : Jvm.MethodName)),
  (Jvm.Cond.instanceMethod ({ cls := "SnowRisesModel", name := "tribe", desc := "(I)I" } : Jvm.MethodName)),
  (Jvm.Cond.selects "SnowRisesModel" ({ cls := "SnowRisesModel", name := "tribe", desc := "(I)I" } : Jvm.MethodName) ({ cls := "SnowRisesModel", name := "tribe", desc := "(I)I" } : Jvm.MethodName)),
  (Jvm.Cond.instanceMethod ({ cls := "SnowRises", name := "hopes", desc := "(I)I" } : Jvm.MethodName)),
  (Jvm.Cond.selects "SnowRises" ({ cls := "SnowRises", name := "hopes", desc := "(I)I" } : Jvm.MethodName) ({ cls := "SnowRises", name := "hopes", desc := "(I)I" } : Jvm.MethodName)),
  (Jvm.Cond.instanceMethod ({ cls := "SnowRisesModel", name := "hopes", desc := "(I)I" } : Jvm.MethodName)),
  (Jvm.Cond.selects "SnowRisesModel" ({ cls := "SnowRisesModel", name := "hopes", desc := "(I)I" } : Jvm.MethodName) ({ cls := "SnowRisesModel", name := "hopes", desc := "(I)I" } : Jvm.MethodName)),
  (Jvm.Cond.instanceMethod ({ cls := "SnowRises", name := "undo", desc := "()Z" } : Jvm.MethodName)),
  (Jvm.Cond.selects "SnowRises" ({ cls := "SnowRises", name := "undo", desc := "()Z" } : Jvm.MethodName) ({ cls := "SnowRises", name := "undo", desc := "()Z" } : Jvm.MethodName)),
  (Jvm.Cond.instanceMethod ({ cls := "SnowRisesModel", name := "undo", desc := "()Z" } : Jvm.MethodName)),
  (Jvm.Cond.selects "SnowRisesModel" ({ cls := "SnowRisesModel", name := "undo", desc := "()Z" } : Jvm.MethodName) ({ cls := "SnowRisesModel", name := "undo", desc := "()Z" } : Jvm.MethodName)),
  (Jvm.Cond.instanceMethod ({ cls := "SnowRisesModel", name := "image", desc := "(Z)Z" } : Jvm.MethodName)),
  (Jvm.Cond.selects "SnowRisesModel" ({ cls := "SnowRisesModel", name := "image", desc := "(Z)Z" } : Jvm.MethodName) ({ cls := "SnowRisesModel", name := "image", desc := "(Z)Z" } : Jvm.MethodName)),
  (Jvm.Cond.instanceMethod ({ cls := "SnowRises", name := "look", desc := "(I)I" } : Jvm.MethodName)),
  (Jvm.Cond.selects "SnowRises" ({ cls := "SnowRises", name := "look", desc := "(I)I" } : Jvm.MethodName) ({ cls := "SnowRises", name := "look", desc := "(I)I" } : Jvm.MethodName)),
  (Jvm.Cond.instanceMethod ({ cls := "SnowRisesModel", name := "look", desc := "(I)I" } : Jvm.MethodName)),
  (Jvm.Cond.selects "SnowRisesModel" ({ cls := "SnowRisesModel", name := "look", desc := "(I)I" } : Jvm.MethodName) ({ cls := "SnowRisesModel", name := "look", desc := "(I)I" } : Jvm.MethodName))]
theorem wdA4 : ∀ w ∈ wsA4, w ∈ TW := tw_all [1106, 1831, 1832, 1127, 1128, 1847, 1848, 1132, 1133, 1851, 1852, 1143, 1144, 1855, 1856, 1151, 1152, 1859, 1860, 1160, 1161, 1537, 1538, 1867, 1868, 1172, 1173, 1871, 1872] (by decide +kernel) (by decide +kernel)
def wsP : List Cond := [(Jvm.Cond.selects "SnowRises$Law" ({ cls := "SnowRises$Law", name := "run", desc := "(II)I" } : Jvm.MethodName) ({ cls := "SnowRises$Law", name := "run", desc := "(II)I" } : Jvm.MethodName)),
  (Jvm.Cond.selects "SnowRises$Couples" ({ cls := "SnowRises$Couples", name := "gather", desc := "(LSnowRises$Folk;)V" } : Jvm.MethodName) ({ cls := "SnowRises$Couples", name := "gather", desc := "(LSnowRises$Folk;)V" } : Jvm.MethodName)),
  (Jvm.Cond.selects "SnowRises$Couples" ({ cls := "SnowRises$Couples", name := "asksNext", desc := "(I)Z" } : Jvm.MethodName) ({ cls := "SnowRises$Couples", name := "asksNext", desc := "(I)Z" } : Jvm.MethodName)),
  (Jvm.Cond.selects "SnowRises$Couples" ({ cls := "SnowRises$Couples", name := "sumWith", desc := "(III)I" } : Jvm.MethodName) ({ cls := "SnowRises$Couples", name := "sumWith", desc := "(III)I" } : Jvm.MethodName)),
  (Jvm.Cond.selects "SnowRises$Couples" ({ cls := "SnowRises$Couples", name := "greatestSum", desc := "(II)I" } : Jvm.MethodName) ({ cls := "SnowRises$Couples", name := "greatestSum", desc := "(II)I" } : Jvm.MethodName)),
  (Jvm.Cond.selects "SnowRises$Couples" ({ cls := "SnowRises$Couples", name := "takeFirstWay", desc := "()V" } : Jvm.MethodName) ({ cls := "SnowRises$Couples", name := "takeFirstWay", desc := "()V" } : Jvm.MethodName)),
  (Jvm.Cond.selects "SnowRises$Couples" ({ cls := "SnowRises$Couples", name := "firstBaring", desc := "(LSnowRises$World;IIII)I" } : Jvm.MethodName) ({ cls := "SnowRises$Couples", name := "firstBaring", desc := "(LSnowRises$World;IIII)I" } : Jvm.MethodName)),
  (Jvm.Cond.selects "SnowRises$Couples" ({ cls := "SnowRises$Couples", name := "mostAlike", desc := "(LSnowRises$World;II)I" } : Jvm.MethodName) ({ cls := "SnowRises$Couples", name := "mostAlike", desc := "(LSnowRises$World;II)I" } : Jvm.MethodName)),
  (Jvm.Cond.selects "SnowRises$Reader" ({ cls := "SnowRises$Reader", name := "pass", desc := "()V" } : Jvm.MethodName) ({ cls := "SnowRises$Reader", name := "pass", desc := "()V" } : Jvm.MethodName)),
  (Jvm.Cond.selects "SnowRises$Reader" ({ cls := "SnowRises$Reader", name := "refuse", desc := "(I)Z" } : Jvm.MethodName) ({ cls := "SnowRises$Reader", name := "refuse", desc := "(I)Z" } : Jvm.MethodName)),
  (Jvm.Cond.selects "SnowRises$Reader" ({ cls := "SnowRises$Reader", name := "readsUnit", desc := "()Z" } : Jvm.MethodName) ({ cls := "SnowRises$Reader", name := "readsUnit", desc := "()Z" } : Jvm.MethodName)),
  (Jvm.Cond.selects "SnowRises$Reader" ({ cls := "SnowRises$Reader", name := "readsSingle", desc := "(I)Z" } : Jvm.MethodName) ({ cls := "SnowRises$Reader", name := "readsSingle", desc := "(I)Z" } : Jvm.MethodName)),
  (Jvm.Cond.selects "SnowRises$Reader" ({ cls := "SnowRises$Reader", name := "readsEither", desc := "(I)Z" } : Jvm.MethodName) ({ cls := "SnowRises$Reader", name := "readsEither", desc := "(I)Z" } : Jvm.MethodName)),
  (Jvm.Cond.selects "SnowRises$Reader" ({ cls := "SnowRises$Reader", name := "passes", desc := "(I)Z" } : Jvm.MethodName) ({ cls := "SnowRises$Reader", name := "passes", desc := "(I)Z" } : Jvm.MethodName)),
  (Jvm.Cond.selects "SnowRises$Reader" ({ cls := "SnowRises$Reader", name := "readsSum", desc := "()Z" } : Jvm.MethodName) ({ cls := "SnowRises$Reader", name := "readsSum", desc := "()Z" } : Jvm.MethodName)),
  (Jvm.Cond.selects "SnowRises$Reader" ({ cls := "SnowRises$Reader", name := "passesNumber", desc := "(II)Z" } : Jvm.MethodName) ({ cls := "SnowRises$Reader", name := "passesNumber", desc := "(II)Z" } : Jvm.MethodName)),
  (Jvm.Cond.selects "SnowRises$Reader" ({ cls := "SnowRises$Reader", name := "begins", desc := "(ILSnowRises$Rows;)Z" } : Jvm.MethodName) ({ cls := "SnowRises$Reader", name := "begins", desc := "(ILSnowRises$Rows;)Z" } : Jvm.MethodName)),
  (Jvm.Cond.selects "SnowRises$Reader" ({ cls := "SnowRises$Reader", name := "passesPerson", desc := "(I)Z" } : Jvm.MethodName) ({ cls := "SnowRises$Reader", name := "passesPerson", desc := "(I)Z" } : Jvm.MethodName)),
  (Jvm.Cond.selects "SnowRises$Reader" ({ cls := "SnowRises$Reader", name := "passesField", desc := "()Z" } : Jvm.MethodName) ({ cls := "SnowRises$Reader", name := "passesField", desc := "()Z" } : Jvm.MethodName)),
  (Jvm.Cond.selects "SnowRises$Reader" ({ cls := "SnowRises$Reader", name := "lawLine", desc := "()Z" } : Jvm.MethodName) ({ cls := "SnowRises$Reader", name := "lawLine", desc := "()Z" } : Jvm.MethodName)),
  (Jvm.Cond.selects "SnowRises$Reader" ({ cls := "SnowRises$Reader", name := "vowLine", desc := "()Z" } : Jvm.MethodName) ({ cls := "SnowRises$Reader", name := "vowLine", desc := "()Z" } : Jvm.MethodName)),
  (Jvm.Cond.selects "SnowRises$Reader" ({ cls := "SnowRises$Reader", name := "weatherLine", desc := "()Z" } : Jvm.MethodName) ({ cls := "SnowRises$Reader", name := "weatherLine", desc := "()Z" } : Jvm.MethodName)),
  (Jvm.Cond.selects "SnowRises$Reader" ({ cls := "SnowRises$Reader", name := "wantLine", desc := "()Z" } : Jvm.MethodName) ({ cls := "SnowRises$Reader", name := "wantLine", desc := "()Z" } : Jvm.MethodName)),
  (Jvm.Cond.selects "SnowRises$Rounds" ({ cls := "SnowRises$Rounds", name := "isOpen", desc := "(II)Z" } : Jvm.MethodName) ({ cls := "SnowRises$Rounds", name := "isOpen", desc := "(II)Z" } : Jvm.MethodName)),
  (Jvm.Cond.selects "SnowRises$Tape" ({ cls := "SnowRises$Tape", name := "sign", desc := "(I)I" } : Jvm.MethodName) ({ cls := "SnowRises$Tape", name := "sign", desc := "(I)I" } : Jvm.MethodName)),
  (Jvm.Cond.selects "SnowRises$Tape" ({ cls := "SnowRises$Tape", name := "isSame", desc := "(III)Z" } : Jvm.MethodName) ({ cls := "SnowRises$Tape", name := "isSame", desc := "(III)Z" } : Jvm.MethodName)),
  (Jvm.Cond.selects "SnowRises$Tape" ({ cls := "SnowRises$Tape", name := "lettersEnd", desc := "(I)I" } : Jvm.MethodName) ({ cls := "SnowRises$Tape", name := "lettersEnd", desc := "(I)I" } : Jvm.MethodName)),
  (Jvm.Cond.selects "SnowRises$Tape" ({ cls := "SnowRises$Tape", name := "wordOf", desc := "(II)I" } : Jvm.MethodName) ({ cls := "SnowRises$Tape", name := "wordOf", desc := "(II)I" } : Jvm.MethodName)),
  (Jvm.Cond.selects "SnowRises$Tape" ({ cls := "SnowRises$Tape", name := "digitsEnd", desc := "(I)I" } : Jvm.MethodName) ({ cls := "SnowRises$Tape", name := "digitsEnd", desc := "(I)I" } : Jvm.MethodName)),
  (Jvm.Cond.selects "SnowRises$Tape" ({ cls := "SnowRises$Tape", name := "valueOf", desc := "(II)I" } : Jvm.MethodName) ({ cls := "SnowRises$Tape", name := "valueOf", desc := "(II)I" } : Jvm.MethodName)),
  (Jvm.Cond.selects "SnowRises$Ways" ({ cls := "SnowRises$Ways", name := "reach", desc := "(II)V" } : Jvm.MethodName) ({ cls := "SnowRises$Ways", name := "reach", desc := "(II)V" } : Jvm.MethodName)),
  (Jvm.Cond.selects "SnowRises$Ways" ({ cls := "SnowRises$Ways", name := "search", desc := "(LSnowRises$World;II)Z" } : Jvm.MethodName) ({ cls := "SnowRises$Ways", name := "search", desc := "(LSnowRises$World;II)Z" } : Jvm.MethodName)),
  (Jvm.Cond.selects "SnowRises$Ways" ({ cls := "SnowRises$Ways", name := "addWay", desc := "(II)V" } : Jvm.MethodName) ({ cls := "SnowRises$Ways", name := "addWay", desc := "(II)V" } : Jvm.MethodName)),
  (Jvm.Cond.selects "SnowRises$World" ({ cls := "SnowRises$World", name := "rise", desc := "()I" } : Jvm.MethodName) ({ cls := "SnowRises$World", name := "rise", desc := "()I" } : Jvm.MethodName)),
  (Jvm.Cond.selects "SnowRises$World" ({ cls := "SnowRises$World", name := "drift", desc := "()I" } : Jvm.MethodName) ({ cls := "SnowRises$World", name := "drift", desc := "()I" } : Jvm.MethodName)),
  (Jvm.Cond.selects "SnowRises$World" ({ cls := "SnowRises$World", name := "draw", desc := "(I)I" } : Jvm.MethodName) ({ cls := "SnowRises$World", name := "draw", desc := "(I)I" } : Jvm.MethodName)),
  (Jvm.Cond.selects "SnowRises$World" ({ cls := "SnowRises$World", name := "slide", desc := "()V" } : Jvm.MethodName) ({ cls := "SnowRises$World", name := "slide", desc := "()V" } : Jvm.MethodName)),
  (Jvm.Cond.selects "SnowRises$World" ({ cls := "SnowRises$World", name := "meltAll", desc := "()V" } : Jvm.MethodName) ({ cls := "SnowRises$World", name := "meltAll", desc := "()V" } : Jvm.MethodName)),
  (Jvm.Cond.selects "SnowRises$World" ({ cls := "SnowRises$World", name := "allStirsFit", desc := "(II)Z" } : Jvm.MethodName) ({ cls := "SnowRises$World", name := "allStirsFit", desc := "(II)Z" } : Jvm.MethodName)),
  (Jvm.Cond.selects "SnowRises$World" ({ cls := "SnowRises$World", name := "begin", desc := "(II)V" } : Jvm.MethodName) ({ cls := "SnowRises$World", name := "begin", desc := "(II)V" } : Jvm.MethodName)),
  (Jvm.Cond.selects "SnowRises" ({ cls := "SnowRises", name := "setValley", desc := "(II)Z" } : Jvm.MethodName) ({ cls := "SnowRises", name := "setValley", desc := "(II)Z" } : Jvm.MethodName)),
  (Jvm.Cond.selects "SnowRises" ({ cls := "SnowRises", name := "setOne", desc := "(III)Z" } : Jvm.MethodName) ({ cls := "SnowRises", name := "setOne", desc := "(III)Z" } : Jvm.MethodName)),
  (Jvm.Cond.selects "SnowRises" ({ cls := "SnowRises", name := "beginThought", desc := "()V" } : Jvm.MethodName) ({ cls := "SnowRises", name := "beginThought", desc := "()V" } : Jvm.MethodName)),
  (Jvm.Cond.selects "SnowRisesModel" ({ cls := "SnowRisesModel", name := "isOn", desc := "(II)Z" } : Jvm.MethodName) ({ cls := "SnowRisesModel", name := "isOn", desc := "(II)Z" } : Jvm.MethodName)),
  (Jvm.Cond.selects "SnowRisesModel" ({ cls := "SnowRisesModel", name := "isField", desc := "(I)Z" } : Jvm.MethodName) ({ cls := "SnowRisesModel", name := "isField", desc := "(I)Z" } : Jvm.MethodName)),
  (Jvm.Cond.selects "SnowRisesModel" ({ cls := "SnowRisesModel", name := "isPerson", desc := "(I)Z" } : Jvm.MethodName) ({ cls := "SnowRisesModel", name := "isPerson", desc := "(I)Z" } : Jvm.MethodName)),
  (Jvm.Cond.selects "SnowRisesModel" ({ cls := "SnowRisesModel", name := "forgets", desc := "()V" } : Jvm.MethodName) ({ cls := "SnowRisesModel", name := "forgets", desc := "()V" } : Jvm.MethodName)),
  (Jvm.Cond.selects "SnowRisesModel" ({ cls := "SnowRisesModel", name := "begins", desc := "(II)V" } : Jvm.MethodName) ({ cls := "SnowRisesModel", name := "begins", desc := "(II)V" } : Jvm.MethodName)),
  (Jvm.Cond.selects "SnowRisesModel" ({ cls := "SnowRisesModel", name := "canSet", desc := "(III)Z" } : Jvm.MethodName) ({ cls := "SnowRisesModel", name := "canSet", desc := "(III)Z" } : Jvm.MethodName)),
  (Jvm.Cond.selects "SnowRisesModel" ({ cls := "SnowRisesModel", name := "is", desc := "(Ljava/lang/String;)Z" } : Jvm.MethodName) ({ cls := "SnowRisesModel", name := "is", desc := "(Ljava/lang/String;)Z" } : Jvm.MethodName)),
  (Jvm.Cond.selects "SnowRisesModel" ({ cls := "SnowRisesModel", name := "asked", desc := "()I" } : Jvm.MethodName) ({ cls := "SnowRisesModel", name := "asked", desc := "()I" } : Jvm.MethodName)),
  (Jvm.Cond.selects "SnowRisesModel" ({ cls := "SnowRisesModel", name := "lawWord", desc := "()I" } : Jvm.MethodName) ({ cls := "SnowRisesModel", name := "lawWord", desc := "()I" } : Jvm.MethodName)),
  (Jvm.Cond.selects "SnowRisesModel" ({ cls := "SnowRisesModel", name := "vowWord", desc := "()I" } : Jvm.MethodName) ({ cls := "SnowRisesModel", name := "vowWord", desc := "()I" } : Jvm.MethodName)),
  (Jvm.Cond.selects "SnowRisesModel" ({ cls := "SnowRisesModel", name := "weatherWord", desc := "()I" } : Jvm.MethodName) ({ cls := "SnowRisesModel", name := "weatherWord", desc := "()I" } : Jvm.MethodName)),
  (Jvm.Cond.selects "SnowRisesModel" ({ cls := "SnowRisesModel", name := "wantWord", desc := "()I" } : Jvm.MethodName) ({ cls := "SnowRisesModel", name := "wantWord", desc := "()I" } : Jvm.MethodName)),
  (Jvm.Cond.selects "SnowRisesModel" ({ cls := "SnowRisesModel", name := "see", desc := "(I)I" } : Jvm.MethodName) ({ cls := "SnowRisesModel", name := "see", desc := "(I)I" } : Jvm.MethodName)),
  (Jvm.Cond.selects "SnowRisesModel" ({ cls := "SnowRisesModel", name := "word", desc := "()I" } : Jvm.MethodName) ({ cls := "SnowRisesModel", name := "word", desc := "()I" } : Jvm.MethodName)),
  (Jvm.Cond.selects "SnowRisesModel" ({ cls := "SnowRisesModel", name := "bad", desc := "(I)Z" } : Jvm.MethodName) ({ cls := "SnowRisesModel", name := "bad", desc := "(I)Z" } : Jvm.MethodName)),
  (Jvm.Cond.selects "SnowRisesModel" ({ cls := "SnowRisesModel", name := "next0", desc := "()V" } : Jvm.MethodName) ({ cls := "SnowRisesModel", name := "next0", desc := "()V" } : Jvm.MethodName)),
  (Jvm.Cond.selects "SnowRisesModel" ({ cls := "SnowRisesModel", name := "lay", desc := "(II)V" } : Jvm.MethodName) ({ cls := "SnowRisesModel", name := "lay", desc := "(II)V" } : Jvm.MethodName)),
  (Jvm.Cond.selects "SnowRisesModel" ({ cls := "SnowRisesModel", name := "unit", desc := "()Z" } : Jvm.MethodName) ({ cls := "SnowRisesModel", name := "unit", desc := "()Z" } : Jvm.MethodName)),
  (Jvm.Cond.selects "SnowRisesModel" ({ cls := "SnowRisesModel", name := "product", desc := "()Z" } : Jvm.MethodName) ({ cls := "SnowRisesModel", name := "product", desc := "()Z" } : Jvm.MethodName)),
  (Jvm.Cond.selects "SnowRisesModel" ({ cls := "SnowRisesModel", name := "every", desc := "()Z" } : Jvm.MethodName) ({ cls := "SnowRisesModel", name := "every", desc := "()Z" } : Jvm.MethodName)),
  (Jvm.Cond.selects "SnowRisesModel" ({ cls := "SnowRisesModel", name := "oneTest", desc := "()Z" } : Jvm.MethodName) ({ cls := "SnowRisesModel", name := "oneTest", desc := "()Z" } : Jvm.MethodName)),
  (Jvm.Cond.selects "SnowRisesModel" ({ cls := "SnowRisesModel", name := "opens", desc := "()Z" } : Jvm.MethodName) ({ cls := "SnowRisesModel", name := "opens", desc := "()Z" } : Jvm.MethodName)),
  (Jvm.Cond.selects "SnowRisesModel" ({ cls := "SnowRisesModel", name := "any", desc := "()Z" } : Jvm.MethodName) ({ cls := "SnowRisesModel", name := "any", desc := "()Z" } : Jvm.MethodName)),
  (Jvm.Cond.selects "SnowRisesModel" ({ cls := "SnowRisesModel", name := "need", desc := "(I)Z" } : Jvm.MethodName) ({ cls := "SnowRisesModel", name := "need", desc := "(I)Z" } : Jvm.MethodName)),
  (Jvm.Cond.selects "SnowRisesModel" ({ cls := "SnowRisesModel", name := "sumUp", desc := "()Z" } : Jvm.MethodName) ({ cls := "SnowRisesModel", name := "sumUp", desc := "()Z" } : Jvm.MethodName)),
  (Jvm.Cond.selects "SnowRisesModel" ({ cls := "SnowRisesModel", name := "aLine", desc := "()Z" } : Jvm.MethodName) ({ cls := "SnowRisesModel", name := "aLine", desc := "()Z" } : Jvm.MethodName)),
  (Jvm.Cond.selects "SnowRisesModel" ({ cls := "SnowRisesModel", name := "number", desc := "(III)Z" } : Jvm.MethodName) ({ cls := "SnowRisesModel", name := "number", desc := "(III)Z" } : Jvm.MethodName)),
  (Jvm.Cond.selects "SnowRisesModel" ({ cls := "SnowRisesModel", name := "told", desc := "(IIII)Z" } : Jvm.MethodName) ({ cls := "SnowRisesModel", name := "told", desc := "(IIII)Z" } : Jvm.MethodName)),
  (Jvm.Cond.selects "SnowRisesModel" ({ cls := "SnowRisesModel", name := "areUnlike", desc := "(II)Z" } : Jvm.MethodName) ({ cls := "SnowRisesModel", name := "areUnlike", desc := "(II)Z" } : Jvm.MethodName)),
  (Jvm.Cond.selects "SnowRisesModel" ({ cls := "SnowRisesModel", name := "aField", desc := "(II)Z" } : Jvm.MethodName) ({ cls := "SnowRisesModel", name := "aField", desc := "(II)Z" } : Jvm.MethodName)),
  (Jvm.Cond.selects "SnowRisesModel" ({ cls := "SnowRisesModel", name := "aVow", desc := "()Z" } : Jvm.MethodName) ({ cls := "SnowRisesModel", name := "aVow", desc := "()Z" } : Jvm.MethodName)),
  (Jvm.Cond.selects "SnowRisesModel" ({ cls := "SnowRisesModel", name := "aWeather", desc := "()Z" } : Jvm.MethodName) ({ cls := "SnowRisesModel", name := "aWeather", desc := "()Z" } : Jvm.MethodName)),
  (Jvm.Cond.selects "SnowRisesModel" ({ cls := "SnowRisesModel", name := "aWant", desc := "()Z" } : Jvm.MethodName) ({ cls := "SnowRisesModel", name := "aWant", desc := "()Z" } : Jvm.MethodName)),
  (Jvm.Cond.selects "SnowRisesModel" ({ cls := "SnowRisesModel", name := "aRow", desc := "()Z" } : Jvm.MethodName) ({ cls := "SnowRisesModel", name := "aRow", desc := "()Z" } : Jvm.MethodName)),
  (Jvm.Cond.selects "SnowRisesModel" ({ cls := "SnowRisesModel", name := "putsLaw", desc := "()I" } : Jvm.MethodName) ({ cls := "SnowRisesModel", name := "putsLaw", desc := "()I" } : Jvm.MethodName)),
  (Jvm.Cond.selects "SnowRisesModel" ({ cls := "SnowRisesModel", name := "puts", desc := "(III)I" } : Jvm.MethodName) ({ cls := "SnowRisesModel", name := "puts", desc := "(III)I" } : Jvm.MethodName)),
  (Jvm.Cond.selects "SnowRisesModel" ({ cls := "SnowRisesModel", name := "readsLaw", desc := "()Z" } : Jvm.MethodName) ({ cls := "SnowRisesModel", name := "readsLaw", desc := "()Z" } : Jvm.MethodName)),
  (Jvm.Cond.selects "SnowRisesModel" ({ cls := "SnowRisesModel", name := "readsRows", desc := "()Z" } : Jvm.MethodName) ({ cls := "SnowRisesModel", name := "readsRows", desc := "()Z" } : Jvm.MethodName)),
  (Jvm.Cond.selects "SnowRisesModel" ({ cls := "SnowRisesModel", name := "putsText", desc := "(I)I" } : Jvm.MethodName) ({ cls := "SnowRisesModel", name := "putsText", desc := "(I)I" } : Jvm.MethodName)),
  (Jvm.Cond.selects "SnowRisesModel" ({ cls := "SnowRisesModel", name := "comesTo", desc := "(III)I" } : Jvm.MethodName) ({ cls := "SnowRisesModel", name := "comesTo", desc := "(III)I" } : Jvm.MethodName)),
  (Jvm.Cond.selects "SnowRisesModel" ({ cls := "SnowRisesModel", name := "isSo", desc := "(I)Z" } : Jvm.MethodName) ({ cls := "SnowRisesModel", name := "isSo", desc := "(I)Z" } : Jvm.MethodName)),
  (Jvm.Cond.selects "SnowRisesModel" ({ cls := "SnowRisesModel", name := "clears", desc := "()V" } : Jvm.MethodName) ({ cls := "SnowRisesModel", name := "clears", desc := "()V" } : Jvm.MethodName)),
  (Jvm.Cond.selects "SnowRisesModel" ({ cls := "SnowRisesModel", name := "laysTwo", desc := "(II)V" } : Jvm.MethodName) ({ cls := "SnowRisesModel", name := "laysTwo", desc := "(II)V" } : Jvm.MethodName)),
  (Jvm.Cond.selects "SnowRisesModel" ({ cls := "SnowRisesModel", name := "says", desc := "(III)I" } : Jvm.MethodName) ({ cls := "SnowRisesModel", name := "says", desc := "(III)I" } : Jvm.MethodName)),
  (Jvm.Cond.selects "SnowRisesModel" ({ cls := "SnowRisesModel", name := "matchOf", desc := "(II)I" } : Jvm.MethodName) ({ cls := "SnowRisesModel", name := "matchOf", desc := "(II)I" } : Jvm.MethodName)),
  (Jvm.Cond.selects "SnowRisesModel" ({ cls := "SnowRisesModel", name := "foundOf", desc := "(II)I" } : Jvm.MethodName) ({ cls := "SnowRisesModel", name := "foundOf", desc := "(II)I" } : Jvm.MethodName)),
  (Jvm.Cond.selects "SnowRisesModel" ({ cls := "SnowRisesModel", name := "isFree", desc := "(I)Z" } : Jvm.MethodName) ({ cls := "SnowRisesModel", name := "isFree", desc := "(I)Z" } : Jvm.MethodName)),
  (Jvm.Cond.selects "SnowRisesModel" ({ cls := "SnowRisesModel", name := "liftOf", desc := "(IIII)I" } : Jvm.MethodName) ({ cls := "SnowRisesModel", name := "liftOf", desc := "(IIII)I" } : Jvm.MethodName)),
  (Jvm.Cond.selects "SnowRisesModel" ({ cls := "SnowRisesModel", name := "lifts", desc := "(IIII)I" } : Jvm.MethodName) ({ cls := "SnowRisesModel", name := "lifts", desc := "(IIII)I" } : Jvm.MethodName)),
  (Jvm.Cond.selects "SnowRisesModel" ({ cls := "SnowRisesModel", name := "wentTo", desc := "(II)I" } : Jvm.MethodName) ({ cls := "SnowRisesModel", name := "wentTo", desc := "(II)I" } : Jvm.MethodName)),
  (Jvm.Cond.selects "SnowRisesModel" ({ cls := "SnowRisesModel", name := "rises", desc := "(III)I" } : Jvm.MethodName) ({ cls := "SnowRisesModel", name := "rises", desc := "(III)I" } : Jvm.MethodName)),
  (Jvm.Cond.selects "SnowRisesModel" ({ cls := "SnowRisesModel", name := "drifts", desc := "(III)I" } : Jvm.MethodName) ({ cls := "SnowRisesModel", name := "drifts", desc := "(III)I" } : Jvm.MethodName)),
  (Jvm.Cond.selects "SnowRisesModel" ({ cls := "SnowRisesModel", name := "notes", desc := "(III)V" } : Jvm.MethodName) ({ cls := "SnowRisesModel", name := "notes", desc := "(III)V" } : Jvm.MethodName)),
  (Jvm.Cond.selects "SnowRisesModel" ({ cls := "SnowRisesModel", name := "canVow", desc := "(III)Z" } : Jvm.MethodName) ({ cls := "SnowRisesModel", name := "canVow", desc := "(III)Z" } : Jvm.MethodName)),
  (Jvm.Cond.selects "SnowRisesModel" ({ cls := "SnowRisesModel", name := "keeps", desc := "()V" } : Jvm.MethodName) ({ cls := "SnowRisesModel", name := "keeps", desc := "()V" } : Jvm.MethodName)),
  (Jvm.Cond.selects "SnowRisesModel" ({ cls := "SnowRisesModel", name := "vows", desc := "(III)I" } : Jvm.MethodName) ({ cls := "SnowRisesModel", name := "vows", desc := "(III)I" } : Jvm.MethodName)),
  (Jvm.Cond.selects "SnowRisesModel" ({ cls := "SnowRisesModel", name := "weatherOf", desc := "(I)I" } : Jvm.MethodName) ({ cls := "SnowRisesModel", name := "weatherOf", desc := "(I)I" } : Jvm.MethodName)),
  (Jvm.Cond.selects "SnowRisesModel" ({ cls := "SnowRisesModel", name := "ofVow", desc := "(II)I" } : Jvm.MethodName) ({ cls := "SnowRisesModel", name := "ofVow", desc := "(II)I" } : Jvm.MethodName)),
  (Jvm.Cond.selects "SnowRisesModel" ({ cls := "SnowRisesModel", name := "draw", desc := "(I)I" } : Jvm.MethodName) ({ cls := "SnowRisesModel", name := "draw", desc := "(I)I" } : Jvm.MethodName)),
  (Jvm.Cond.selects "SnowRisesModel" ({ cls := "SnowRisesModel", name := "snows", desc := "()V" } : Jvm.MethodName) ({ cls := "SnowRisesModel", name := "snows", desc := "()V" } : Jvm.MethodName)),
  (Jvm.Cond.selects "SnowRisesModel" ({ cls := "SnowRisesModel", name := "vowsOfDay", desc := "()I" } : Jvm.MethodName) ({ cls := "SnowRisesModel", name := "vowsOfDay", desc := "()I" } : Jvm.MethodName)),
  (Jvm.Cond.selects "SnowRisesModel" ({ cls := "SnowRisesModel", name := "slides", desc := "()V" } : Jvm.MethodName) ({ cls := "SnowRisesModel", name := "slides", desc := "()V" } : Jvm.MethodName)),
  (Jvm.Cond.selects "SnowRisesModel" ({ cls := "SnowRisesModel", name := "meltOf", desc := "(I)I" } : Jvm.MethodName) ({ cls := "SnowRisesModel", name := "meltOf", desc := "(I)I" } : Jvm.MethodName)),
  (Jvm.Cond.selects "SnowRisesModel" ({ cls := "SnowRisesModel", name := "aDay", desc := "()I" } : Jvm.MethodName) ({ cls := "SnowRisesModel", name := "aDay", desc := "()I" } : Jvm.MethodName)),
  (Jvm.Cond.selects "SnowRisesModel" ({ cls := "SnowRisesModel", name := "lays", desc := "()V" } : Jvm.MethodName) ({ cls := "SnowRisesModel", name := "lays", desc := "()V" } : Jvm.MethodName)),
  (Jvm.Cond.selects "SnowRisesModel" ({ cls := "SnowRisesModel", name := "putsBack", desc := "()V" } : Jvm.MethodName) ({ cls := "SnowRisesModel", name := "putsBack", desc := "()V" } : Jvm.MethodName)),
  (Jvm.Cond.selects "SnowRisesModel" ({ cls := "SnowRisesModel", name := "lastOf", desc := "(III)I" } : Jvm.MethodName) ({ cls := "SnowRisesModel", name := "lastOf", desc := "(III)I" } : Jvm.MethodName)),
  (Jvm.Cond.selects "SnowRisesModel" ({ cls := "SnowRisesModel", name := "meetsWants", desc := "(I)I" } : Jvm.MethodName) ({ cls := "SnowRisesModel", name := "meetsWants", desc := "(I)I" } : Jvm.MethodName)),
  (Jvm.Cond.selects "SnowRisesModel" ({ cls := "SnowRisesModel", name := "nextAsked", desc := "(I)I" } : Jvm.MethodName) ({ cls := "SnowRisesModel", name := "nextAsked", desc := "(I)I" } : Jvm.MethodName)),
  (Jvm.Cond.selects "SnowRisesModel" ({ cls := "SnowRisesModel", name := "keepsFor", desc := "(II)Z" } : Jvm.MethodName) ({ cls := "SnowRisesModel", name := "keepsFor", desc := "(II)Z" } : Jvm.MethodName)),
  (Jvm.Cond.selects "SnowRisesModel" ({ cls := "SnowRisesModel", name := "asksOn", desc := "(I)V" } : Jvm.MethodName) ({ cls := "SnowRisesModel", name := "asksOn", desc := "(I)V" } : Jvm.MethodName)),
  (Jvm.Cond.selects "SnowRisesModel" ({ cls := "SnowRisesModel", name := "canHave", desc := "(III)Z" } : Jvm.MethodName) ({ cls := "SnowRisesModel", name := "canHave", desc := "(III)Z" } : Jvm.MethodName)),
  (Jvm.Cond.selects "SnowRisesModel" ({ cls := "SnowRisesModel", name := "laysFound", desc := "()V" } : Jvm.MethodName) ({ cls := "SnowRisesModel", name := "laysFound", desc := "()V" } : Jvm.MethodName)),
  (Jvm.Cond.selects "SnowRisesModel" ({ cls := "SnowRisesModel", name := "laysBest", desc := "()V" } : Jvm.MethodName) ({ cls := "SnowRisesModel", name := "laysBest", desc := "()V" } : Jvm.MethodName)),
  (Jvm.Cond.selects "SnowRisesModel" ({ cls := "SnowRisesModel", name := "takenBy", desc := "(II)I" } : Jvm.MethodName) ({ cls := "SnowRisesModel", name := "takenBy", desc := "(II)I" } : Jvm.MethodName)),
  (Jvm.Cond.selects "SnowRisesModel" ({ cls := "SnowRisesModel", name := "canBe", desc := "(II)Z" } : Jvm.MethodName) ({ cls := "SnowRisesModel", name := "canBe", desc := "(II)Z" } : Jvm.MethodName)),
  (Jvm.Cond.selects "SnowRisesModel" ({ cls := "SnowRisesModel", name := "whoBy", desc := "(I)I" } : Jvm.MethodName) ({ cls := "SnowRisesModel", name := "whoBy", desc := "(I)I" } : Jvm.MethodName)),
  (Jvm.Cond.selects "SnowRisesModel" ({ cls := "SnowRisesModel", name := "mostAlike", desc := "(II)I" } : Jvm.MethodName) ({ cls := "SnowRisesModel", name := "mostAlike", desc := "(II)I" } : Jvm.MethodName)),
  (Jvm.Cond.selects "SnowRisesModel" ({ cls := "SnowRisesModel", name := "isSafe", desc := "(I)Z" } : Jvm.MethodName) ({ cls := "SnowRisesModel", name := "isSafe", desc := "(I)Z" } : Jvm.MethodName)),
  (Jvm.Cond.selects "SnowRisesModel" ({ cls := "SnowRisesModel", name := "isComeTo", desc := "(II)V" } : Jvm.MethodName) ({ cls := "SnowRisesModel", name := "isComeTo", desc := "(II)V" } : Jvm.MethodName)),
  (Jvm.Cond.selects "SnowRisesModel" ({ cls := "SnowRisesModel", name := "wayTo", desc := "(II)I" } : Jvm.MethodName) ({ cls := "SnowRisesModel", name := "wayTo", desc := "(II)I" } : Jvm.MethodName)),
  (Jvm.Cond.selects "SnowRisesModel" ({ cls := "SnowRisesModel", name := "goesIn", desc := "(I)V" } : Jvm.MethodName) ({ cls := "SnowRisesModel", name := "goesIn", desc := "(I)V" } : Jvm.MethodName)),
  (Jvm.Cond.selects "SnowRisesModel" ({ cls := "SnowRisesModel", name := "goesOut", desc := "(I)V" } : Jvm.MethodName) ({ cls := "SnowRisesModel", name := "goesOut", desc := "(I)V" } : Jvm.MethodName)),
  (Jvm.Cond.selects "SnowRisesModel" ({ cls := "SnowRisesModel", name := "turns", desc := "(II)V" } : Jvm.MethodName) ({ cls := "SnowRisesModel", name := "turns", desc := "(II)V" } : Jvm.MethodName)),
  (Jvm.Cond.selects "SnowRisesModel" ({ cls := "SnowRisesModel", name := "hasWay", desc := "(II)Z" } : Jvm.MethodName) ({ cls := "SnowRisesModel", name := "hasWay", desc := "(II)Z" } : Jvm.MethodName)),
  (Jvm.Cond.selects "SnowRisesModel" ({ cls := "SnowRisesModel", name := "roundsFrom", desc := "(III)Z" } : Jvm.MethodName) ({ cls := "SnowRisesModel", name := "roundsFrom", desc := "(III)Z" } : Jvm.MethodName)),
  (Jvm.Cond.selects "SnowRisesModel" ({ cls := "SnowRisesModel", name := "isAloneIn", desc := "(II)Z" } : Jvm.MethodName) ({ cls := "SnowRisesModel", name := "isAloneIn", desc := "(II)Z" } : Jvm.MethodName)),
  (Jvm.Cond.selects "SnowRisesModel" ({ cls := "SnowRisesModel", name := "counting", desc := "()I" } : Jvm.MethodName) ({ cls := "SnowRisesModel", name := "counting", desc := "()I" } : Jvm.MethodName)),
  (Jvm.Cond.selects "SnowRisesModel" ({ cls := "SnowRisesModel", name := "hopeOf", desc := "(I)I" } : Jvm.MethodName) ({ cls := "SnowRisesModel", name := "hopeOf", desc := "(I)I" } : Jvm.MethodName)),
  (Jvm.Cond.selects "SnowRisesModel" ({ cls := "SnowRisesModel", name := "bareFields", desc := "()I" } : Jvm.MethodName) ({ cls := "SnowRisesModel", name := "bareFields", desc := "()I" } : Jvm.MethodName))]
theorem wdP : ∀ w ∈ wsP, w ∈ TW := tw_allP [3, 31, 32, 34, 33, 35, 36, 38, 17, 16, 19, 21, 20, 22, 18, 25, 24, 26, 27, 15, 23, 28, 29, 42, 9, 12, 10, 11, 13, 14, 40, 39, 41, 4, 5, 7, 6, 8, 37, 0, 1, 2, 30, 45, 44, 48, 46, 43, 47, 53, 54, 52, 55, 56, 57, 50, 51, 60, 49, 64, 63, 62, 66, 67, 68, 65, 69, 61, 59, 74, 73, 75, 76, 72, 77, 78, 71, 80, 81, 58, 70, 79, 92, 91, 89, 88, 90, 87, 86, 83, 95, 94, 97, 93, 96, 98, 82, 84, 85, 101, 103, 105, 100, 102, 104, 106, 99, 107, 108, 110, 109, 112, 113, 111, 116, 114, 115, 117, 119, 118, 120, 121, 123, 127, 124, 125, 126, 122, 129, 130, 128, 131, 132] (by decide +kernel) (by decide +kernel)
set_option maxRecDepth 4000 in
theorem mwX1_has : MWV mX1_has 1 := ⟨⟨(wdA0 _ (List.mem_of_getElem? (i := 0) rfl)), tk2 (i := 231) rfl rfl, show yX1_has.cls ≠ _ by decide +kernel, show yX1_has.cls ≠ _ by decide +kernel, show (parseMethodDescriptor yX1_has.desc).map (fun d => d.parameters.length) = _ by decide +kernel⟩, (wdA0 _ (List.mem_of_getElem? (i := 1) rfl)), (wdA0 _ (List.mem_of_getElem? (i := 2) rfl))⟩
set_option maxRecDepth 4000 in
theorem mwX1_isFree : MWV mX1_isFree 1 := ⟨⟨(wdA0 _ (List.mem_of_getElem? (i := 0) rfl)), tk3 (i := 16) rfl rfl, show yX1_isFree.cls ≠ _ by decide +kernel, show yX1_isFree.cls ≠ _ by decide +kernel, show (parseMethodDescriptor yX1_isFree.desc).map (fun d => d.parameters.length) = _ by decide +kernel⟩, (wdA0 _ (List.mem_of_getElem? (i := 3) rfl)), (wdA0 _ (List.mem_of_getElem? (i := 4) rfl))⟩
set_option maxRecDepth 4000 in
theorem mwJ9_max_7cf53 : MWS mJ9_max_7cf53 2 := ⟨⟨(wdA0 _ (List.mem_of_getElem? (i := 5) rfl)), tk1 (i := 126) rfl rfl, show yJ9_max_7cf53.cls ≠ _ by decide +kernel, show yJ9_max_7cf53.cls ≠ _ by decide +kernel, show (parseMethodDescriptor yJ9_max_7cf53.desc).map (fun d => d.parameters.length) = _ by decide +kernel⟩, (wdA0 _ (List.mem_of_getElem? (i := 6) rfl))⟩
set_option maxRecDepth 4000 in
theorem mwX2_joined : MWS mX2_joined 3 := ⟨⟨(wdA0 _ (List.mem_of_getElem? (i := 7) rfl)), tk3 (i := 65) rfl rfl, show yX2_joined.cls ≠ _ by decide +kernel, show yX2_joined.cls ≠ _ by decide +kernel, show (parseMethodDescriptor yX2_joined.desc).map (fun d => d.parameters.length) = _ by decide +kernel⟩, (wdA0 _ (List.mem_of_getElem? (i := 8) rfl))⟩
set_option maxRecDepth 4000 in
theorem mwX2_run : MWV mX2_run 2 := ⟨⟨(wdA0 _ (List.mem_of_getElem? (i := 7) rfl)), tk3 (i := 61) rfl rfl, show yX2_run.cls ≠ _ by decide +kernel, show yX2_run.cls ≠ _ by decide +kernel, show (parseMethodDescriptor yX2_run.desc).map (fun d => d.parameters.length) = _ by decide +kernel⟩, (wdA0 _ (List.mem_of_getElem? (i := 9) rfl)), wdP _ (List.mem_of_getElem? (i := 0) rfl)⟩
set_option maxRecDepth 4000 in
theorem mwJ9_min_7cf53 : MWS mJ9_min_7cf53 2 := ⟨⟨(wdA0 _ (List.mem_of_getElem? (i := 5) rfl)), tk3 (i := 26) rfl rfl, show yJ9_min_7cf53.cls ≠ _ by decide +kernel, show yJ9_min_7cf53.cls ≠ _ by decide +kernel, show (parseMethodDescriptor yJ9_min_7cf53.desc).map (fun d => d.parameters.length) = _ by decide +kernel⟩, (wdA0 _ (List.mem_of_getElem? (i := 10) rfl))⟩
set_option maxRecDepth 4000 in
theorem mwJ9_abs_0f7a4 : MWS mJ9_abs_0f7a4 1 := ⟨⟨(wdA0 _ (List.mem_of_getElem? (i := 5) rfl)), tk3 (i := 41) rfl rfl, show yJ9_abs_0f7a4.cls ≠ _ by decide +kernel, show yJ9_abs_0f7a4.cls ≠ _ by decide +kernel, show (parseMethodDescriptor yJ9_abs_0f7a4.desc).map (fun d => d.parameters.length) = _ by decide +kernel⟩, (wdA0 _ (List.mem_of_getElem? (i := 11) rfl))⟩
set_option maxRecDepth 4000 in
theorem mwX2_forgetNames : MWV mX2_forgetNames 0 := ⟨⟨(wdA0 _ (List.mem_of_getElem? (i := 7) rfl)), tk3 (i := 45) rfl rfl, show yX2_forgetNames.cls ≠ _ by decide +kernel, show yX2_forgetNames.cls ≠ _ by decide +kernel, show (parseMethodDescriptor yX2_forgetNames.desc).map (fun d => d.parameters.length) = _ by decide +kernel⟩, (wdA0 _ (List.mem_of_getElem? (i := 12) rfl)), (wdA0 _ (List.mem_of_getElem? (i := 13) rfl))⟩
set_option maxRecDepth 4000 in
theorem mwX2_name : MWV mX2_name 2 := ⟨⟨(wdA0 _ (List.mem_of_getElem? (i := 7) rfl)), tk3 (i := 49) rfl rfl, show yX2_name.cls ≠ _ by decide +kernel, show yX2_name.cls ≠ _ by decide +kernel, show (parseMethodDescriptor yX2_name.desc).map (fun d => d.parameters.length) = _ by decide +kernel⟩, (wdA0 _ (List.mem_of_getElem? (i := 14) rfl)), (wdA0 _ (List.mem_of_getElem? (i := 15) rfl))⟩
set_option maxRecDepth 4000 in
theorem mwX1_areKin : MWV mX1_areKin 2 := ⟨⟨(wdA0 _ (List.mem_of_getElem? (i := 0) rfl)), tk3 (i := 53) rfl rfl, show yX1_areKin.cls ≠ _ by decide +kernel, show yX1_areKin.cls ≠ _ by decide +kernel, show (parseMethodDescriptor yX1_areKin.desc).map (fun d => d.parameters.length) = _ by decide +kernel⟩, (wdA0 _ (List.mem_of_getElem? (i := 16) rfl)), (wdA0 _ (List.mem_of_getElem? (i := 17) rfl))⟩
set_option maxRecDepth 4000 in
theorem mwX2_tell : MWV mX2_tell 2 := ⟨⟨(wdA0 _ (List.mem_of_getElem? (i := 7) rfl)), tk3 (i := 57) rfl rfl, show yX2_tell.cls ≠ _ by decide +kernel, show yX2_tell.cls ≠ _ by decide +kernel, show (parseMethodDescriptor yX2_tell.desc).map (fun d => d.parameters.length) = _ by decide +kernel⟩, (wdA0 _ (List.mem_of_getElem? (i := 18) rfl)), (wdA0 _ (List.mem_of_getElem? (i := 19) rfl))⟩
set_option maxRecDepth 4000 in
theorem mwX10_held : MWS mX10_held 2 := ⟨⟨(wdA0 _ (List.mem_of_getElem? (i := 20) rfl)), tk3 (i := 68) rfl rfl, show yX10_held.cls ≠ _ by decide +kernel, show yX10_held.cls ≠ _ by decide +kernel, show (parseMethodDescriptor yX10_held.desc).map (fun d => d.parameters.length) = _ by decide +kernel⟩, (wdA0 _ (List.mem_of_getElem? (i := 21) rfl))⟩
set_option maxRecDepth 4000 in
theorem mwX9_matchBy : MWV mX9_matchBy 4 := ⟨⟨(wdA0 _ (List.mem_of_getElem? (i := 22) rfl)), tk3 (i := 38) rfl rfl, show yX9_matchBy.cls ≠ _ by decide +kernel, show yX9_matchBy.cls ≠ _ by decide +kernel, show (parseMethodDescriptor yX9_matchBy.desc).map (fun d => d.parameters.length) = _ by decide +kernel⟩, (wdA0 _ (List.mem_of_getElem? (i := 23) rfl)), (wdA0 _ (List.mem_of_getElem? (i := 24) rfl))⟩
set_option maxRecDepth 4000 in
theorem mwX0_gather : MWV mX0_gather 1 := ⟨⟨(wdA0 _ (List.mem_of_getElem? (i := 25) rfl)), tk5 (i := 20) rfl rfl, show yX0_gather.cls ≠ _ by decide +kernel, show yX0_gather.cls ≠ _ by decide +kernel, show (parseMethodDescriptor yX0_gather.desc).map (fun d => d.parameters.length) = _ by decide +kernel⟩, (wdA0 _ (List.mem_of_getElem? (i := 26) rfl)), wdP _ (List.mem_of_getElem? (i := 1) rfl)⟩
set_option maxRecDepth 4000 in
theorem mwX9_matchOf : MWV mX9_matchOf 2 := ⟨⟨(wdA0 _ (List.mem_of_getElem? (i := 22) rfl)), tk4 (i := 178) rfl rfl, show yX9_matchOf.cls ≠ _ by decide +kernel, show yX9_matchOf.cls ≠ _ by decide +kernel, show (parseMethodDescriptor yX9_matchOf.desc).map (fun d => d.parameters.length) = _ by decide +kernel⟩, (wdA0 _ (List.mem_of_getElem? (i := 27) rfl)), (wdA0 _ (List.mem_of_getElem? (i := 28) rfl))⟩
set_option maxRecDepth 4000 in
theorem mwX0_asksNext : MWV mX0_asksNext 1 := ⟨⟨(wdA0 _ (List.mem_of_getElem? (i := 25) rfl)), tk5 (i := 26) rfl rfl, show yX0_asksNext.cls ≠ _ by decide +kernel, show yX0_asksNext.cls ≠ _ by decide +kernel, show (parseMethodDescriptor yX0_asksNext.desc).map (fun d => d.parameters.length) = _ by decide +kernel⟩, (wdA0 _ (List.mem_of_getElem? (i := 29) rfl)), wdP _ (List.mem_of_getElem? (i := 2) rfl)⟩
set_option maxRecDepth 4000 in
theorem mwX0_sumWith : MWV mX0_sumWith 3 := ⟨⟨(wdA0 _ (List.mem_of_getElem? (i := 25) rfl)), tk5 (i := 49) rfl rfl, show yX0_sumWith.cls ≠ _ by decide +kernel, show yX0_sumWith.cls ≠ _ by decide +kernel, show (parseMethodDescriptor yX0_sumWith.desc).map (fun d => d.parameters.length) = _ by decide +kernel⟩, (wdA0 _ (List.mem_of_getElem? (i := 30) rfl)), wdP _ (List.mem_of_getElem? (i := 3) rfl)⟩
set_option maxRecDepth 4000 in
theorem mwX9_foundOf : MWV mX9_foundOf 2 := ⟨⟨(wdA0 _ (List.mem_of_getElem? (i := 22) rfl)), tk3 (i := 34) rfl rfl, show yX9_foundOf.cls ≠ _ by decide +kernel, show yX9_foundOf.cls ≠ _ by decide +kernel, show (parseMethodDescriptor yX9_foundOf.desc).map (fun d => d.parameters.length) = _ by decide +kernel⟩, (wdA0 _ (List.mem_of_getElem? (i := 31) rfl)), (wdA0 _ (List.mem_of_getElem? (i := 32) rfl))⟩
set_option maxRecDepth 4000 in
theorem mwJ6_bitCount_0f7a4 : MWS mJ6_bitCount_0f7a4 1 := ⟨⟨(wdA0 _ (List.mem_of_getElem? (i := 33) rfl)), tk5 (i := 38) rfl rfl, show yJ6_bitCount_0f7a4.cls ≠ _ by decide +kernel, show yJ6_bitCount_0f7a4.cls ≠ _ by decide +kernel, show (parseMethodDescriptor yJ6_bitCount_0f7a4.desc).map (fun d => d.parameters.length) = _ by decide +kernel⟩, (wdA0 _ (List.mem_of_getElem? (i := 34) rfl))⟩
set_option maxRecDepth 4000 in
theorem mwX0_greatestSum : MWV mX0_greatestSum 2 := ⟨⟨(wdA0 _ (List.mem_of_getElem? (i := 25) rfl)), tk5 (i := 45) rfl rfl, show yX0_greatestSum.cls ≠ _ by decide +kernel, show yX0_greatestSum.cls ≠ _ by decide +kernel, show (parseMethodDescriptor yX0_greatestSum.desc).map (fun d => d.parameters.length) = _ by decide +kernel⟩, (wdA0 _ (List.mem_of_getElem? (i := 35) rfl)), wdP _ (List.mem_of_getElem? (i := 4) rfl)⟩
set_option maxRecDepth 4000 in
theorem mwX0_takeFirstWay : MWV mX0_takeFirstWay 0 := ⟨⟨(wdA0 _ (List.mem_of_getElem? (i := 25) rfl)), tk5 (i := 54) rfl rfl, show yX0_takeFirstWay.cls ≠ _ by decide +kernel, show yX0_takeFirstWay.cls ≠ _ by decide +kernel, show (parseMethodDescriptor yX0_takeFirstWay.desc).map (fun d => d.parameters.length) = _ by decide +kernel⟩, (wdA0 _ (List.mem_of_getElem? (i := 36) rfl)), wdP _ (List.mem_of_getElem? (i := 5) rfl)⟩
set_option maxRecDepth 4000 in
theorem mwX10_steps : MWS mX10_steps 2 := ⟨⟨(wdA0 _ (List.mem_of_getElem? (i := 20) rfl)), tk3 (i := 75) rfl rfl, show yX10_steps.cls ≠ _ by decide +kernel, show yX10_steps.cls ≠ _ by decide +kernel, show (parseMethodDescriptor yX10_steps.desc).map (fun d => d.parameters.length) = _ by decide +kernel⟩, (wdA0 _ (List.mem_of_getElem? (i := 37) rfl))⟩
set_option maxRecDepth 4000 in
theorem mwX9_hasField : MWV mX9_hasField 1 := ⟨⟨(wdA0 _ (List.mem_of_getElem? (i := 22) rfl)), tk2 (i := 211) rfl rfl, show yX9_hasField.cls ≠ _ by decide +kernel, show yX9_hasField.cls ≠ _ by decide +kernel, show (parseMethodDescriptor yX9_hasField.desc).map (fun d => d.parameters.length) = _ by decide +kernel⟩, (wdA0 _ (List.mem_of_getElem? (i := 38) rfl)), (wdA0 _ (List.mem_of_getElem? (i := 39) rfl))⟩
set_option maxRecDepth 4000 in
theorem mwX9_liftOf : MWV mX9_liftOf 5 := ⟨⟨(wdA0 _ (List.mem_of_getElem? (i := 22) rfl)), tk3 (i := 80) rfl rfl, show yX9_liftOf.cls ≠ _ by decide +kernel, show yX9_liftOf.cls ≠ _ by decide +kernel, show (parseMethodDescriptor yX9_liftOf.desc).map (fun d => d.parameters.length) = _ by decide +kernel⟩, (wdA0 _ (List.mem_of_getElem? (i := 40) rfl)), (wdA0 _ (List.mem_of_getElem? (i := 41) rfl))⟩
set_option maxRecDepth 4000 in
theorem mwX0_firstBaring : MWV mX0_firstBaring 5 := ⟨⟨(wdA0 _ (List.mem_of_getElem? (i := 25) rfl)), tk5 (i := 66) rfl rfl, show yX0_firstBaring.cls ≠ _ by decide +kernel, show yX0_firstBaring.cls ≠ _ by decide +kernel, show (parseMethodDescriptor yX0_firstBaring.desc).map (fun d => d.parameters.length) = _ by decide +kernel⟩, (wdA0 _ (List.mem_of_getElem? (i := 42) rfl)), wdP _ (List.mem_of_getElem? (i := 6) rfl)⟩
set_option maxRecDepth 4000 in
theorem mwX0_mostAlike : MWV mX0_mostAlike 3 := ⟨⟨(wdA0 _ (List.mem_of_getElem? (i := 25) rfl)), tk5 (i := 99) rfl rfl, show yX0_mostAlike.cls ≠ _ by decide +kernel, show yX0_mostAlike.cls ≠ _ by decide +kernel, show (parseMethodDescriptor yX0_mostAlike.desc).map (fun d => d.parameters.length) = _ by decide +kernel⟩, (wdA0 _ (List.mem_of_getElem? (i := 43) rfl)), wdP _ (List.mem_of_getElem? (i := 7) rfl)⟩
set_option maxRecDepth 4000 in
theorem mwX1_hopeAmong : ∀ d, MWS (mX1_hopeAmong d) 3 := fun _ => ⟨⟨(wdA0 _ (List.mem_of_getElem? (i := 0) rfl)), tk5 (i := 196) rfl rfl, show yX1_hopeAmong.cls ≠ _ by decide +kernel, show yX1_hopeAmong.cls ≠ _ by decide +kernel, show (parseMethodDescriptor yX1_hopeAmong.desc).map (fun d => d.parameters.length) = _ by decide +kernel⟩, (wdA0 _ (List.mem_of_getElem? (i := 44) rfl))⟩
set_option maxRecDepth 4000 in
theorem mwX2_put : MWV mX2_put 1 := ⟨⟨(wdA0 _ (List.mem_of_getElem? (i := 7) rfl)), tk4 (i := 95) rfl rfl, show yX2_put.cls ≠ _ by decide +kernel, show yX2_put.cls ≠ _ by decide +kernel, show (parseMethodDescriptor yX2_put.desc).map (fun d => d.parameters.length) = _ by decide +kernel⟩, (wdA0 _ (List.mem_of_getElem? (i := 45) rfl)), (wdA0 _ (List.mem_of_getElem? (i := 46) rfl))⟩
set_option maxRecDepth 4000 in
theorem mwX2_codeOfName : MWS mX2_codeOfName 1 := ⟨⟨(wdA0 _ (List.mem_of_getElem? (i := 7) rfl)), tk4 (i := 98) rfl rfl, show yX2_codeOfName.cls ≠ _ by decide +kernel, show yX2_codeOfName.cls ≠ _ by decide +kernel, show (parseMethodDescriptor yX2_codeOfName.desc).map (fun d => d.parameters.length) = _ by decide +kernel⟩, (wdA0 _ (List.mem_of_getElem? (i := 47) rfl))⟩
set_option maxRecDepth 4000 in
theorem mwX4_pass : MWV mX4_pass 0 := ⟨⟨(wdA0 _ (List.mem_of_getElem? (i := 48) rfl)), tk4 (i := 83) rfl rfl, show yX4_pass.cls ≠ _ by decide +kernel, show yX4_pass.cls ≠ _ by decide +kernel, show (parseMethodDescriptor yX4_pass.desc).map (fun d => d.parameters.length) = _ by decide +kernel⟩, (wdA0 _ (List.mem_of_getElem? (i := 49) rfl)), wdP _ (List.mem_of_getElem? (i := 8) rfl)⟩
set_option maxRecDepth 4000 in
theorem mwX4_refuse : MWV mX4_refuse 1 := ⟨⟨(wdA0 _ (List.mem_of_getElem? (i := 48) rfl)), tk4 (i := 79) rfl rfl, show yX4_refuse.cls ≠ _ by decide +kernel, show yX4_refuse.cls ≠ _ by decide +kernel, show (parseMethodDescriptor yX4_refuse.desc).map (fun d => d.parameters.length) = _ by decide +kernel⟩, (wdA0 _ (List.mem_of_getElem? (i := 50) rfl)), wdP _ (List.mem_of_getElem? (i := 9) rfl)⟩
set_option maxRecDepth 4000 in
theorem mwX4_readsUnit : MWV mX4_readsUnit 0 := ⟨⟨(wdA0 _ (List.mem_of_getElem? (i := 48) rfl)), tk4 (i := 91) rfl rfl, show yX4_readsUnit.cls ≠ _ by decide +kernel, show yX4_readsUnit.cls ≠ _ by decide +kernel, show (parseMethodDescriptor yX4_readsUnit.desc).map (fun d => d.parameters.length) = _ by decide +kernel⟩, (wdA0 _ (List.mem_of_getElem? (i := 51) rfl)), wdP _ (List.mem_of_getElem? (i := 10) rfl)⟩
set_option maxRecDepth 4000 in
theorem mwX2_codeOfJoint : MWS mX2_codeOfJoint 1 := ⟨⟨(wdA0 _ (List.mem_of_getElem? (i := 7) rfl)), tk4 (i := 101) rfl rfl, show yX2_codeOfJoint.cls ≠ _ by decide +kernel, show yX2_codeOfJoint.cls ≠ _ by decide +kernel, show (parseMethodDescriptor yX2_codeOfJoint.desc).map (fun d => d.parameters.length) = _ by decide +kernel⟩, (wdA0 _ (List.mem_of_getElem? (i := 52) rfl))⟩
set_option maxRecDepth 4000 in
theorem mwX4_readsSingle : ∀ d, MWV (mX4_readsSingle d) 1 := fun _ => ⟨⟨(wdA0 _ (List.mem_of_getElem? (i := 48) rfl)), tk4 (i := 109) rfl rfl, show yX4_readsSingle.cls ≠ _ by decide +kernel, show yX4_readsSingle.cls ≠ _ by decide +kernel, show (parseMethodDescriptor yX4_readsSingle.desc).map (fun d => d.parameters.length) = _ by decide +kernel⟩, (wdA0 _ (List.mem_of_getElem? (i := 53) rfl)), wdP _ (List.mem_of_getElem? (i := 11) rfl)⟩
set_option maxRecDepth 4000 in
theorem mwX4_readsEither : ∀ d, MWV (mX4_readsEither d) 1 := fun _ => ⟨⟨(wdA0 _ (List.mem_of_getElem? (i := 48) rfl)), tk4 (i := 105) rfl rfl, show yX4_readsEither.cls ≠ _ by decide +kernel, show yX4_readsEither.cls ≠ _ by decide +kernel, show (parseMethodDescriptor yX4_readsEither.desc).map (fun d => d.parameters.length) = _ by decide +kernel⟩, (wdA0 _ (List.mem_of_getElem? (i := 54) rfl)), wdP _ (List.mem_of_getElem? (i := 12) rfl)⟩
set_option maxRecDepth 4000 in
theorem mwX4_passes : MWV mX4_passes 1 := ⟨⟨(wdA0 _ (List.mem_of_getElem? (i := 48) rfl)), tk4 (i := 113) rfl rfl, show yX4_passes.cls ≠ _ by decide +kernel, show yX4_passes.cls ≠ _ by decide +kernel, show (parseMethodDescriptor yX4_passes.desc).map (fun d => d.parameters.length) = _ by decide +kernel⟩, (wdA0 _ (List.mem_of_getElem? (i := 55) rfl)), wdP _ (List.mem_of_getElem? (i := 13) rfl)⟩
set_option maxRecDepth 4000 in
theorem mwX4_readsSum : MWV mX4_readsSum 0 := ⟨⟨(wdA0 _ (List.mem_of_getElem? (i := 48) rfl)), tk4 (i := 87) rfl rfl, show yX4_readsSum.cls ≠ _ by decide +kernel, show yX4_readsSum.cls ≠ _ by decide +kernel, show (parseMethodDescriptor yX4_readsSum.desc).map (fun d => d.parameters.length) = _ by decide +kernel⟩, (wdA0 _ (List.mem_of_getElem? (i := 56) rfl)), wdP _ (List.mem_of_getElem? (i := 14) rfl)⟩
set_option maxRecDepth 4000 in
theorem mwX4_passesNumber : MWV mX4_passesNumber 2 := ⟨⟨(wdA0 _ (List.mem_of_getElem? (i := 48) rfl)), tk4 (i := 125) rfl rfl, show yX4_passesNumber.cls ≠ _ by decide +kernel, show yX4_passesNumber.cls ≠ _ by decide +kernel, show (parseMethodDescriptor yX4_passesNumber.desc).map (fun d => d.parameters.length) = _ by decide +kernel⟩, (wdA0 _ (List.mem_of_getElem? (i := 57) rfl)), wdP _ (List.mem_of_getElem? (i := 15) rfl)⟩
set_option maxRecDepth 4000 in
theorem mwX4_begins : MWV mX4_begins 2 := ⟨⟨(wdA0 _ (List.mem_of_getElem? (i := 48) rfl)), tk4 (i := 121) rfl rfl, show yX4_begins.cls ≠ _ by decide +kernel, show yX4_begins.cls ≠ _ by decide +kernel, show (parseMethodDescriptor yX4_begins.desc).map (fun d => d.parameters.length) = _ by decide +kernel⟩, (wdA0 _ (List.mem_of_getElem? (i := 58) rfl)), wdP _ (List.mem_of_getElem? (i := 16) rfl)⟩
set_option maxRecDepth 4000 in
theorem mwX4_passesPerson : MWV mX4_passesPerson 1 := ⟨⟨(wdA0 _ (List.mem_of_getElem? (i := 48) rfl)), tk4 (i := 129) rfl rfl, show yX4_passesPerson.cls ≠ _ by decide +kernel, show yX4_passesPerson.cls ≠ _ by decide +kernel, show (parseMethodDescriptor yX4_passesPerson.desc).map (fun d => d.parameters.length) = _ by decide +kernel⟩, (wdA0 _ (List.mem_of_getElem? (i := 59) rfl)), wdP _ (List.mem_of_getElem? (i := 17) rfl)⟩
set_option maxRecDepth 4000 in
theorem mwX4_passesField : MWV mX4_passesField 0 := ⟨⟨(wdA0 _ (List.mem_of_getElem? (i := 48) rfl)), tk4 (i := 134) rfl rfl, show yX4_passesField.cls ≠ _ by decide +kernel, show yX4_passesField.cls ≠ _ by decide +kernel, show (parseMethodDescriptor yX4_passesField.desc).map (fun d => d.parameters.length) = _ by decide +kernel⟩, (wdA0 _ (List.mem_of_getElem? (i := 60) rfl)), wdP _ (List.mem_of_getElem? (i := 18) rfl)⟩
set_option maxRecDepth 4000 in
theorem mwX6_add : MWV mX6_add 4 := ⟨⟨(wdA0 _ (List.mem_of_getElem? (i := 61) rfl)), tk3 (i := 100) rfl rfl, show yX6_add.cls ≠ _ by decide +kernel, show yX6_add.cls ≠ _ by decide +kernel, show (parseMethodDescriptor yX6_add.desc).map (fun d => d.parameters.length) = _ by decide +kernel⟩, (wdA0 _ (List.mem_of_getElem? (i := 62) rfl)), (wdA0 _ (List.mem_of_getElem? (i := 63) rfl))⟩
set_option maxRecDepth 4000 in
theorem mwX2_clear : MWV mX2_clear 0 := ⟨⟨(wdA0 _ (List.mem_of_getElem? (i := 7) rfl)), tk1 (i := 150) rfl rfl, show yX2_clear.cls ≠ _ by decide +kernel, show yX2_clear.cls ≠ _ by decide +kernel, show (parseMethodDescriptor yX2_clear.desc).map (fun d => d.parameters.length) = _ by decide +kernel⟩, (wdA0 _ (List.mem_of_getElem? (i := 64) rfl)), (wdA0 _ (List.mem_of_getElem? (i := 65) rfl))⟩
set_option maxRecDepth 4000 in
theorem mwX9_rowsOf : MWV mX9_rowsOf 1 := ⟨⟨(wdA0 _ (List.mem_of_getElem? (i := 22) rfl)), tk4 (i := 71) rfl rfl, show yX9_rowsOf.cls ≠ _ by decide +kernel, show yX9_rowsOf.cls ≠ _ by decide +kernel, show (parseMethodDescriptor yX9_rowsOf.desc).map (fun d => d.parameters.length) = _ by decide +kernel⟩, (wdA0 _ (List.mem_of_getElem? (i := 66) rfl)), (wdA0 _ (List.mem_of_getElem? (i := 67) rfl))⟩
set_option maxRecDepth 4000 in
theorem mwX4_lawLine : MWV mX4_lawLine 0 := ⟨⟨(wdA0 _ (List.mem_of_getElem? (i := 48) rfl)), tk4 (i := 75) rfl rfl, show yX4_lawLine.cls ≠ _ by decide +kernel, show yX4_lawLine.cls ≠ _ by decide +kernel, show (parseMethodDescriptor yX4_lawLine.desc).map (fun d => d.parameters.length) = _ by decide +kernel⟩, (wdA0 _ (List.mem_of_getElem? (i := 68) rfl)), wdP _ (List.mem_of_getElem? (i := 19) rfl)⟩
set_option maxRecDepth 4000 in
theorem mwX4_vowLine : MWV mX4_vowLine 0 := ⟨⟨(wdA0 _ (List.mem_of_getElem? (i := 48) rfl)), tk4 (i := 117) rfl rfl, show yX4_vowLine.cls ≠ _ by decide +kernel, show yX4_vowLine.cls ≠ _ by decide +kernel, show (parseMethodDescriptor yX4_vowLine.desc).map (fun d => d.parameters.length) = _ by decide +kernel⟩, (wdA0 _ (List.mem_of_getElem? (i := 69) rfl)), wdP _ (List.mem_of_getElem? (i := 20) rfl)⟩
set_option maxRecDepth 4000 in
theorem mwX4_weatherLine : MWV mX4_weatherLine 0 := ⟨⟨(wdA0 _ (List.mem_of_getElem? (i := 48) rfl)), tk4 (i := 140) rfl rfl, show yX4_weatherLine.cls ≠ _ by decide +kernel, show yX4_weatherLine.cls ≠ _ by decide +kernel, show (parseMethodDescriptor yX4_weatherLine.desc).map (fun d => d.parameters.length) = _ by decide +kernel⟩, (wdA0 _ (List.mem_of_getElem? (i := 70) rfl)), wdP _ (List.mem_of_getElem? (i := 21) rfl)⟩
set_option maxRecDepth 4000 in
theorem mwX4_wantLine : MWV mX4_wantLine 0 := ⟨⟨(wdA0 _ (List.mem_of_getElem? (i := 48) rfl)), tk4 (i := 144) rfl rfl, show yX4_wantLine.cls ≠ _ by decide +kernel, show yX4_wantLine.cls ≠ _ by decide +kernel, show (parseMethodDescriptor yX4_wantLine.desc).map (fun d => d.parameters.length) = _ by decide +kernel⟩, (wdA0 _ (List.mem_of_getElem? (i := 71) rfl)), wdP _ (List.mem_of_getElem? (i := 22) rfl)⟩
set_option maxRecDepth 4000 in
theorem mwX5_isOpen : MWV mX5_isOpen 2 := ⟨⟨(wdA0 _ (List.mem_of_getElem? (i := 72) rfl)), tk5 (i := 160) rfl rfl, show yX5_isOpen.cls ≠ _ by decide +kernel, show yX5_isOpen.cls ≠ _ by decide +kernel, show (parseMethodDescriptor yX5_isOpen.desc).map (fun d => d.parameters.length) = _ by decide +kernel⟩, (wdA0 _ (List.mem_of_getElem? (i := 73) rfl)), wdP _ (List.mem_of_getElem? (i := 23) rfl)⟩
set_option maxRecDepth 4000 in
theorem mwX5_fits : ∀ d, MWS (mX5_fits d) 2 := fun _ => ⟨⟨(wdA0 _ (List.mem_of_getElem? (i := 72) rfl)), tk5 (i := 156) rfl rfl, show yX5_fits.cls ≠ _ by decide +kernel, show yX5_fits.cls ≠ _ by decide +kernel, show (parseMethodDescriptor yX5_fits.desc).map (fun d => d.parameters.length) = _ by decide +kernel⟩, (wdA0 _ (List.mem_of_getElem? (i := 74) rfl))⟩
set_option maxRecDepth 4000 in
theorem mwX1_wedSet : MWV mX1_wedSet 0 := ⟨⟨(wdA0 _ (List.mem_of_getElem? (i := 0) rfl)), tk4 (i := 229) rfl rfl, show yX1_wedSet.cls ≠ _ by decide +kernel, show yX1_wedSet.cls ≠ _ by decide +kernel, show (parseMethodDescriptor yX1_wedSet.desc).map (fun d => d.parameters.length) = _ by decide +kernel⟩, (wdA0 _ (List.mem_of_getElem? (i := 75) rfl)), (wdA0 _ (List.mem_of_getElem? (i := 76) rfl))⟩
set_option maxRecDepth 4000 in
theorem mwX6_cell : MWV mX6_cell 2 := ⟨⟨(wdA0 _ (List.mem_of_getElem? (i := 61) rfl)), tk3 (i := 125) rfl rfl, show yX6_cell.cls ≠ _ by decide +kernel, show yX6_cell.cls ≠ _ by decide +kernel, show (parseMethodDescriptor yX6_cell.desc).map (fun d => d.parameters.length) = _ by decide +kernel⟩, (wdA0 _ (List.mem_of_getElem? (i := 77) rfl)), (wdA0 _ (List.mem_of_getElem? (i := 78) rfl))⟩
set_option maxRecDepth 4000 in
theorem mwX7_sign : MWV mX7_sign 1 := ⟨⟨(wdA0 _ (List.mem_of_getElem? (i := 79) rfl)), tk3 (i := 170) rfl rfl, show yX7_sign.cls ≠ _ by decide +kernel, show yX7_sign.cls ≠ _ by decide +kernel, show (parseMethodDescriptor yX7_sign.desc).map (fun d => d.parameters.length) = _ by decide +kernel⟩, (wdA0 _ (List.mem_of_getElem? (i := 80) rfl)), wdP _ (List.mem_of_getElem? (i := 24) rfl)⟩
set_option maxRecDepth 4000 in
theorem mwX7_isLetter : MWS mX7_isLetter 1 := ⟨⟨(wdA0 _ (List.mem_of_getElem? (i := 79) rfl)), tk3 (i := 173) rfl rfl, show yX7_isLetter.cls ≠ _ by decide +kernel, show yX7_isLetter.cls ≠ _ by decide +kernel, show (parseMethodDescriptor yX7_isLetter.desc).map (fun d => d.parameters.length) = _ by decide +kernel⟩, (wdA0 _ (List.mem_of_getElem? (i := 81) rfl))⟩
set_option maxRecDepth 4000 in
theorem mwX7_isSame : MWV mX7_isSame 3 := ⟨⟨(wdA0 _ (List.mem_of_getElem? (i := 79) rfl)), tk3 (i := 235) rfl rfl, show yX7_isSame.cls ≠ _ by decide +kernel, show yX7_isSame.cls ≠ _ by decide +kernel, show (parseMethodDescriptor yX7_isSame.desc).map (fun d => d.parameters.length) = _ by decide +kernel⟩, (wdA0 _ (List.mem_of_getElem? (i := 82) rfl)), wdP _ (List.mem_of_getElem? (i := 25) rfl)⟩
set_option maxRecDepth 4000 in
theorem mwX7_isDigit : MWS mX7_isDigit 1 := ⟨⟨(wdA0 _ (List.mem_of_getElem? (i := 79) rfl)), tk3 (i := 238) rfl rfl, show yX7_isDigit.cls ≠ _ by decide +kernel, show yX7_isDigit.cls ≠ _ by decide +kernel, show (parseMethodDescriptor yX7_isDigit.desc).map (fun d => d.parameters.length) = _ by decide +kernel⟩, (wdA0 _ (List.mem_of_getElem? (i := 83) rfl))⟩
set_option maxRecDepth 4000 in
theorem mwX7_lettersEnd : MWV mX7_lettersEnd 1 := ⟨⟨(wdA0 _ (List.mem_of_getElem? (i := 79) rfl)), tk3 (i := 177) rfl rfl, show yX7_lettersEnd.cls ≠ _ by decide +kernel, show yX7_lettersEnd.cls ≠ _ by decide +kernel, show (parseMethodDescriptor yX7_lettersEnd.desc).map (fun d => d.parameters.length) = _ by decide +kernel⟩, (wdA0 _ (List.mem_of_getElem? (i := 84) rfl)), wdP _ (List.mem_of_getElem? (i := 26) rfl)⟩
set_option maxRecDepth 4000 in
theorem mwX7_wordOf : MWV mX7_wordOf 2 := ⟨⟨(wdA0 _ (List.mem_of_getElem? (i := 79) rfl)), tk3 (i := 182) rfl rfl, show yX7_wordOf.cls ≠ _ by decide +kernel, show yX7_wordOf.cls ≠ _ by decide +kernel, show (parseMethodDescriptor yX7_wordOf.desc).map (fun d => d.parameters.length) = _ by decide +kernel⟩, (wdA0 _ (List.mem_of_getElem? (i := 85) rfl)), wdP _ (List.mem_of_getElem? (i := 27) rfl)⟩
set_option maxRecDepth 4000 in
theorem mwX7_digitsEnd : MWV mX7_digitsEnd 1 := ⟨⟨(wdA0 _ (List.mem_of_getElem? (i := 79) rfl)), tk4 (i := 2) rfl rfl, show yX7_digitsEnd.cls ≠ _ by decide +kernel, show yX7_digitsEnd.cls ≠ _ by decide +kernel, show (parseMethodDescriptor yX7_digitsEnd.desc).map (fun d => d.parameters.length) = _ by decide +kernel⟩, (wdA0 _ (List.mem_of_getElem? (i := 86) rfl)), wdP _ (List.mem_of_getElem? (i := 28) rfl)⟩
set_option maxRecDepth 4000 in
theorem mwX7_valueOf : MWV mX7_valueOf 2 := ⟨⟨(wdA0 _ (List.mem_of_getElem? (i := 79) rfl)), tk4 (i := 6) rfl rfl, show yX7_valueOf.cls ≠ _ by decide +kernel, show yX7_valueOf.cls ≠ _ by decide +kernel, show (parseMethodDescriptor yX7_valueOf.desc).map (fun d => d.parameters.length) = _ by decide +kernel⟩, (wdA0 _ (List.mem_of_getElem? (i := 87) rfl)), wdP _ (List.mem_of_getElem? (i := 29) rfl)⟩
set_option maxRecDepth 4000 in
theorem mwX9_isSteep : MWV mX9_isSteep 1 := ⟨⟨(wdA0 _ (List.mem_of_getElem? (i := 22) rfl)), tk5 (i := 118) rfl rfl, show yX9_isSteep.cls ≠ _ by decide +kernel, show yX9_isSteep.cls ≠ _ by decide +kernel, show (parseMethodDescriptor yX9_isSteep.desc).map (fun d => d.parameters.length) = _ by decide +kernel⟩, (wdA0 _ (List.mem_of_getElem? (i := 88) rfl)), (wdA0 _ (List.mem_of_getElem? (i := 89) rfl))⟩
set_option maxRecDepth 4000 in
theorem mwX9_beside : MWV mX9_beside 2 := ⟨⟨(wdA0 _ (List.mem_of_getElem? (i := 22) rfl)), tk3 (i := 92) rfl rfl, show yX9_beside.cls ≠ _ by decide +kernel, show yX9_beside.cls ≠ _ by decide +kernel, show (parseMethodDescriptor yX9_beside.desc).map (fun d => d.parameters.length) = _ by decide +kernel⟩, (wdA0 _ (List.mem_of_getElem? (i := 90) rfl)), (wdA0 _ (List.mem_of_getElem? (i := 91) rfl))⟩
set_option maxRecDepth 4000 in
theorem mwX8_reach : MWV mX8_reach 2 := ⟨⟨(wdA0 _ (List.mem_of_getElem? (i := 92) rfl)), tk5 (i := 136) rfl rfl, show yX8_reach.cls ≠ _ by decide +kernel, show yX8_reach.cls ≠ _ by decide +kernel, show (parseMethodDescriptor yX8_reach.desc).map (fun d => d.parameters.length) = _ by decide +kernel⟩, (wdA0 _ (List.mem_of_getElem? (i := 93) rfl)), wdP _ (List.mem_of_getElem? (i := 30) rfl)⟩
set_option maxRecDepth 4000 in
theorem mwX8_direction : MWS mX8_direction 2 := ⟨⟨(wdA0 _ (List.mem_of_getElem? (i := 92) rfl)), tk5 (i := 143) rfl rfl, show yX8_direction.cls ≠ _ by decide +kernel, show yX8_direction.cls ≠ _ by decide +kernel, show (parseMethodDescriptor yX8_direction.desc).map (fun d => d.parameters.length) = _ by decide +kernel⟩, (wdA0 _ (List.mem_of_getElem? (i := 94) rfl))⟩
set_option maxRecDepth 4000 in
theorem mwX8_search : MWV mX8_search 3 := ⟨⟨(wdA0 _ (List.mem_of_getElem? (i := 92) rfl)), tk5 (i := 132) rfl rfl, show yX8_search.cls ≠ _ by decide +kernel, show yX8_search.cls ≠ _ by decide +kernel, show (parseMethodDescriptor yX8_search.desc).map (fun d => d.parameters.length) = _ by decide +kernel⟩, (wdA0 _ (List.mem_of_getElem? (i := 95) rfl)), wdP _ (List.mem_of_getElem? (i := 31) rfl)⟩
set_option maxRecDepth 4000 in
theorem mwX8_addWay : MWV mX8_addWay 2 := ⟨⟨(wdA0 _ (List.mem_of_getElem? (i := 92) rfl)), tk5 (i := 140) rfl rfl, show yX8_addWay.cls ≠ _ by decide +kernel, show yX8_addWay.cls ≠ _ by decide +kernel, show (parseMethodDescriptor yX8_addWay.desc).map (fun d => d.parameters.length) = _ by decide +kernel⟩, (wdA0 _ (List.mem_of_getElem? (i := 96) rfl)), wdP _ (List.mem_of_getElem? (i := 32) rfl)⟩
set_option maxRecDepth 4000 in
theorem mwX1_copy : MWV mX1_copy 1 := ⟨⟨(wdA0 _ (List.mem_of_getElem? (i := 0) rfl)), tk4 (i := 216) rfl rfl, show yX1_copy.cls ≠ _ by decide +kernel, show yX1_copy.cls ≠ _ by decide +kernel, show (parseMethodDescriptor yX1_copy.desc).map (fun d => d.parameters.length) = _ by decide +kernel⟩, (wdA0 _ (List.mem_of_getElem? (i := 97) rfl)), (wdA0 _ (List.mem_of_getElem? (i := 98) rfl))⟩
set_option maxRecDepth 4000 in
theorem mwX2_copy : MWV mX2_copy 1 := ⟨⟨(wdA0 _ (List.mem_of_getElem? (i := 7) rfl)), tk4 (i := 152) rfl rfl, show yX2_copy.cls ≠ _ by decide +kernel, show yX2_copy.cls ≠ _ by decide +kernel, show (parseMethodDescriptor yX2_copy.desc).map (fun d => d.parameters.length) = _ by decide +kernel⟩, (wdA0 _ (List.mem_of_getElem? (i := 99) rfl)), (wdA1 _ (List.mem_of_getElem? (i := 0) rfl))⟩
set_option maxRecDepth 4000 in
theorem mwX6_copy : MWV mX6_copy 1 := ⟨⟨(wdA0 _ (List.mem_of_getElem? (i := 61) rfl)), tk4 (i := 159) rfl rfl, show yX6_copy.cls ≠ _ by decide +kernel, show yX6_copy.cls ≠ _ by decide +kernel, show (parseMethodDescriptor yX6_copy.desc).map (fun d => d.parameters.length) = _ by decide +kernel⟩, (wdA1 _ (List.mem_of_getElem? (i := 1) rfl)), (wdA1 _ (List.mem_of_getElem? (i := 2) rfl))⟩
set_option maxRecDepth 4000 in
theorem mwX9_rise : MWV mX9_rise 0 := ⟨⟨(wdA0 _ (List.mem_of_getElem? (i := 22) rfl)), tk3 (i := 84) rfl rfl, show yX9_rise.cls ≠ _ by decide +kernel, show yX9_rise.cls ≠ _ by decide +kernel, show (parseMethodDescriptor yX9_rise.desc).map (fun d => d.parameters.length) = _ by decide +kernel⟩, (wdA1 _ (List.mem_of_getElem? (i := 3) rfl)), wdP _ (List.mem_of_getElem? (i := 33) rfl)⟩
set_option maxRecDepth 4000 in
theorem mwX9_drift : MWV mX9_drift 0 := ⟨⟨(wdA0 _ (List.mem_of_getElem? (i := 22) rfl)), tk3 (i := 88) rfl rfl, show yX9_drift.cls ≠ _ by decide +kernel, show yX9_drift.cls ≠ _ by decide +kernel, show (parseMethodDescriptor yX9_drift.desc).map (fun d => d.parameters.length) = _ by decide +kernel⟩, (wdA1 _ (List.mem_of_getElem? (i := 4) rfl)), wdP _ (List.mem_of_getElem? (i := 34) rfl)⟩
set_option maxRecDepth 4000 in
theorem mwX9_note : MWV mX9_note 3 := ⟨⟨(wdA0 _ (List.mem_of_getElem? (i := 22) rfl)), tk3 (i := 96) rfl rfl, show yX9_note.cls ≠ _ by decide +kernel, show yX9_note.cls ≠ _ by decide +kernel, show (parseMethodDescriptor yX9_note.desc).map (fun d => d.parameters.length) = _ by decide +kernel⟩, (wdA1 _ (List.mem_of_getElem? (i := 5) rfl)), (wdA1 _ (List.mem_of_getElem? (i := 6) rfl))⟩
set_option maxRecDepth 4000 in
theorem mwX9_draw : MWV mX9_draw 1 := ⟨⟨(wdA0 _ (List.mem_of_getElem? (i := 22) rfl)), tk3 (i := 135) rfl rfl, show yX9_draw.cls ≠ _ by decide +kernel, show yX9_draw.cls ≠ _ by decide +kernel, show (parseMethodDescriptor yX9_draw.desc).map (fun d => d.parameters.length) = _ by decide +kernel⟩, (wdA1 _ (List.mem_of_getElem? (i := 7) rfl)), wdP _ (List.mem_of_getElem? (i := 35) rfl)⟩
set_option maxRecDepth 4000 in
theorem mwX9_meltOf : MWV mX9_meltOf 1 := ⟨⟨(wdA0 _ (List.mem_of_getElem? (i := 22) rfl)), tk3 (i := 145) rfl rfl, show yX9_meltOf.cls ≠ _ by decide +kernel, show yX9_meltOf.cls ≠ _ by decide +kernel, show (parseMethodDescriptor yX9_meltOf.desc).map (fun d => d.parameters.length) = _ by decide +kernel⟩, (wdA1 _ (List.mem_of_getElem? (i := 8) rfl)), (wdA1 _ (List.mem_of_getElem? (i := 9) rfl))⟩
set_option maxRecDepth 4000 in
theorem mwX9_weatherOf : MWV mX9_weatherOf 1 := ⟨⟨(wdA0 _ (List.mem_of_getElem? (i := 22) rfl)), tk3 (i := 121) rfl rfl, show yX9_weatherOf.cls ≠ _ by decide +kernel, show yX9_weatherOf.cls ≠ _ by decide +kernel, show (parseMethodDescriptor yX9_weatherOf.desc).map (fun d => d.parameters.length) = _ by decide +kernel⟩, (wdA1 _ (List.mem_of_getElem? (i := 10) rfl)), (wdA1 _ (List.mem_of_getElem? (i := 11) rfl))⟩
set_option maxRecDepth 4000 in
theorem mwX1_canWed : MWV mX1_canWed 2 := ⟨⟨(wdA0 _ (List.mem_of_getElem? (i := 0) rfl)), tk3 (i := 12) rfl rfl, show yX1_canWed.cls ≠ _ by decide +kernel, show yX1_canWed.cls ≠ _ by decide +kernel, show (parseMethodDescriptor yX1_canWed.desc).map (fun d => d.parameters.length) = _ by decide +kernel⟩, (wdA1 _ (List.mem_of_getElem? (i := 12) rfl)), (wdA1 _ (List.mem_of_getElem? (i := 13) rfl))⟩
set_option maxRecDepth 4000 in
theorem mwX9_makeVow : MWV mX9_makeVow 3 := ⟨⟨(wdA0 _ (List.mem_of_getElem? (i := 22) rfl)), tk3 (i := 30) rfl rfl, show yX9_makeVow.cls ≠ _ by decide +kernel, show yX9_makeVow.cls ≠ _ by decide +kernel, show (parseMethodDescriptor yX9_makeVow.desc).map (fun d => d.parameters.length) = _ by decide +kernel⟩, (wdA1 _ (List.mem_of_getElem? (i := 14) rfl)), (wdA1 _ (List.mem_of_getElem? (i := 15) rfl))⟩
set_option maxRecDepth 4000 in
theorem mwX9_slide : MWV mX9_slide 0 := ⟨⟨(wdA0 _ (List.mem_of_getElem? (i := 22) rfl)), tk3 (i := 131) rfl rfl, show yX9_slide.cls ≠ _ by decide +kernel, show yX9_slide.cls ≠ _ by decide +kernel, show (parseMethodDescriptor yX9_slide.desc).map (fun d => d.parameters.length) = _ by decide +kernel⟩, (wdA1 _ (List.mem_of_getElem? (i := 16) rfl)), wdP _ (List.mem_of_getElem? (i := 36) rfl)⟩
set_option maxRecDepth 4000 in
theorem mwX9_meltAll : MWV mX9_meltAll 0 := ⟨⟨(wdA0 _ (List.mem_of_getElem? (i := 22) rfl)), tk3 (i := 141) rfl rfl, show yX9_meltAll.cls ≠ _ by decide +kernel, show yX9_meltAll.cls ≠ _ by decide +kernel, show (parseMethodDescriptor yX9_meltAll.desc).map (fun d => d.parameters.length) = _ by decide +kernel⟩, (wdA1 _ (List.mem_of_getElem? (i := 17) rfl)), wdP _ (List.mem_of_getElem? (i := 37) rfl)⟩
set_option maxRecDepth 4000 in
theorem mwX6_greatest : MWV mX6_greatest 1 := ⟨⟨(wdA0 _ (List.mem_of_getElem? (i := 61) rfl)), tk4 (i := 233) rfl rfl, show yX6_greatest.cls ≠ _ by decide +kernel, show yX6_greatest.cls ≠ _ by decide +kernel, show (parseMethodDescriptor yX6_greatest.desc).map (fun d => d.parameters.length) = _ by decide +kernel⟩, (wdA1 _ (List.mem_of_getElem? (i := 18) rfl)), (wdA1 _ (List.mem_of_getElem? (i := 19) rfl))⟩
set_option maxRecDepth 4000 in
theorem mwX9_isBare : MWV mX9_isBare 1 := ⟨⟨(wdA0 _ (List.mem_of_getElem? (i := 22) rfl)), tk5 (i := 3) rfl rfl, show yX9_isBare.cls ≠ _ by decide +kernel, show yX9_isBare.cls ≠ _ by decide +kernel, show (parseMethodDescriptor yX9_isBare.desc).map (fun d => d.parameters.length) = _ by decide +kernel⟩, (wdA1 _ (List.mem_of_getElem? (i := 20) rfl)), (wdA1 _ (List.mem_of_getElem? (i := 21) rfl))⟩
set_option maxRecDepth 4000 in
theorem mwX9_allStirsFit : MWV mX9_allStirsFit 2 := ⟨⟨(wdA0 _ (List.mem_of_getElem? (i := 22) rfl)), tk5 (i := 86) rfl rfl, show yX9_allStirsFit.cls ≠ _ by decide +kernel, show yX9_allStirsFit.cls ≠ _ by decide +kernel, show (parseMethodDescriptor yX9_allStirsFit.desc).map (fun d => d.parameters.length) = _ by decide +kernel⟩, (wdA1 _ (List.mem_of_getElem? (i := 22) rfl)), wdP _ (List.mem_of_getElem? (i := 38) rfl)⟩
set_option maxRecDepth 4000 in
theorem mwX9_begin : MWV mX9_begin 2 := ⟨⟨(wdA0 _ (List.mem_of_getElem? (i := 22) rfl)), tk1 (i := 146) rfl rfl, show yX9_begin.cls ≠ _ by decide +kernel, show yX9_begin.cls ≠ _ by decide +kernel, show (parseMethodDescriptor yX9_begin.desc).map (fun d => d.parameters.length) = _ by decide +kernel⟩, (wdA1 _ (List.mem_of_getElem? (i := 23) rfl)), wdP _ (List.mem_of_getElem? (i := 39) rfl)⟩
set_option maxRecDepth 4000 in
theorem mwX10_within : MWS mX10_within 2 := ⟨⟨(wdA0 _ (List.mem_of_getElem? (i := 20) rfl)), tk2 (i := 207) rfl rfl, show yX10_within.cls ≠ _ by decide +kernel, show yX10_within.cls ≠ _ by decide +kernel, show (parseMethodDescriptor yX10_within.desc).map (fun d => d.parameters.length) = _ by decide +kernel⟩, (wdA1 _ (List.mem_of_getElem? (i := 24) rfl))⟩
set_option maxRecDepth 4000 in
theorem mwX1_add : MWV mX1_add 4 := ⟨⟨(wdA0 _ (List.mem_of_getElem? (i := 0) rfl)), tk2 (i := 215) rfl rfl, show yX1_add.cls ≠ _ by decide +kernel, show yX1_add.cls ≠ _ by decide +kernel, show (parseMethodDescriptor yX1_add.desc).map (fun d => d.parameters.length) = _ by decide +kernel⟩, (wdA1 _ (List.mem_of_getElem? (i := 25) rfl)), (wdA1 _ (List.mem_of_getElem? (i := 26) rfl))⟩
set_option maxRecDepth 4000 in
theorem mwX10_setValley : MWV mX10_setValley 2 := ⟨⟨(wdA0 _ (List.mem_of_getElem? (i := 20) rfl)), tk2 (i := 223) rfl rfl, show yX10_setValley.cls ≠ _ by decide +kernel, show yX10_setValley.cls ≠ _ by decide +kernel, show (parseMethodDescriptor yX10_setValley.desc).map (fun d => d.parameters.length) = _ by decide +kernel⟩, (wdA1 _ (List.mem_of_getElem? (i := 27) rfl)), wdP _ (List.mem_of_getElem? (i := 40) rfl)⟩
set_option maxRecDepth 4000 in
theorem mwX10_setOne : MWV mX10_setOne 3 := ⟨⟨(wdA0 _ (List.mem_of_getElem? (i := 20) rfl)), tk2 (i := 227) rfl rfl, show yX10_setOne.cls ≠ _ by decide +kernel, show yX10_setOne.cls ≠ _ by decide +kernel, show (parseMethodDescriptor yX10_setOne.desc).map (fun d => d.parameters.length) = _ by decide +kernel⟩, (wdA1 _ (List.mem_of_getElem? (i := 28) rfl)), wdP _ (List.mem_of_getElem? (i := 41) rfl)⟩
set_option maxRecDepth 4000 in
theorem mwX1_areTwo : MWV mX1_areTwo 2 := ⟨⟨(wdA0 _ (List.mem_of_getElem? (i := 0) rfl)), tk2 (i := 239) rfl rfl, show yX1_areTwo.cls ≠ _ by decide +kernel, show yX1_areTwo.cls ≠ _ by decide +kernel, show (parseMethodDescriptor yX1_areTwo.desc).map (fun d => d.parameters.length) = _ by decide +kernel⟩, (wdA1 _ (List.mem_of_getElem? (i := 29) rfl)), (wdA1 _ (List.mem_of_getElem? (i := 30) rfl))⟩
set_option maxRecDepth 4000 in
theorem mwX1_makeKin : MWV mX1_makeKin 3 := ⟨⟨(wdA0 _ (List.mem_of_getElem? (i := 0) rfl)), tk3 (i := 4) rfl rfl, show yX1_makeKin.cls ≠ _ by decide +kernel, show yX1_makeKin.cls ≠ _ by decide +kernel, show (parseMethodDescriptor yX1_makeKin.desc).map (fun d => d.parameters.length) = _ by decide +kernel⟩, (wdA1 _ (List.mem_of_getElem? (i := 31) rfl)), (wdA1 _ (List.mem_of_getElem? (i := 32) rfl))⟩
set_option maxRecDepth 4000 in
theorem mwX3_keep : MWV mX3_keep 1 := ⟨⟨(wdA1 _ (List.mem_of_getElem? (i := 33) rfl)), tk3 (i := 20) rfl rfl, show yX3_keep.cls ≠ _ by decide +kernel, show yX3_keep.cls ≠ _ by decide +kernel, show (parseMethodDescriptor yX3_keep.desc).map (fun d => d.parameters.length) = _ by decide +kernel⟩, (wdA1 _ (List.mem_of_getElem? (i := 34) rfl)), (wdA1 _ (List.mem_of_getElem? (i := 35) rfl))⟩
set_option maxRecDepth 4000 in
theorem mwX9_passDay : MWV mX9_passDay 0 := ⟨⟨(wdA0 _ (List.mem_of_getElem? (i := 22) rfl)), tk3 (i := 117) rfl rfl, show yX9_passDay.cls ≠ _ by decide +kernel, show yX9_passDay.cls ≠ _ by decide +kernel, show (parseMethodDescriptor yX9_passDay.desc).map (fun d => d.parameters.length) = _ by decide +kernel⟩, (wdA1 _ (List.mem_of_getElem? (i := 36) rfl)), (wdA1 _ (List.mem_of_getElem? (i := 37) rfl))⟩
set_option maxRecDepth 4000 in
theorem mwX7_put : MWV mX7_put 1 := ⟨⟨(wdA0 _ (List.mem_of_getElem? (i := 79) rfl)), tk3 (i := 154) rfl rfl, show yX7_put.cls ≠ _ by decide +kernel, show yX7_put.cls ≠ _ by decide +kernel, show (parseMethodDescriptor yX7_put.desc).map (fun d => d.parameters.length) = _ by decide +kernel⟩, (wdA1 _ (List.mem_of_getElem? (i := 38) rfl)), (wdA1 _ (List.mem_of_getElem? (i := 39) rfl))⟩
set_option maxRecDepth 4000 in
theorem mwX7_split : MWV mX7_split 0 := ⟨⟨(wdA0 _ (List.mem_of_getElem? (i := 79) rfl)), tk3 (i := 166) rfl rfl, show yX7_split.cls ≠ _ by decide +kernel, show yX7_split.cls ≠ _ by decide +kernel, show (parseMethodDescriptor yX7_split.desc).map (fun d => d.parameters.length) = _ by decide +kernel⟩, (wdA1 _ (List.mem_of_getElem? (i := 40) rfl)), (wdA1 _ (List.mem_of_getElem? (i := 41) rfl))⟩
set_option maxRecDepth 4000 in
theorem mwX4_reads : MWV mX4_reads 1 := ⟨⟨(wdA0 _ (List.mem_of_getElem? (i := 48) rfl)), tk4 (i := 66) rfl rfl, show yX4_reads.cls ≠ _ by decide +kernel, show yX4_reads.cls ≠ _ by decide +kernel, show (parseMethodDescriptor yX4_reads.desc).map (fun d => d.parameters.length) = _ by decide +kernel⟩, (wdA1 _ (List.mem_of_getElem? (i := 42) rfl)), (wdA1 _ (List.mem_of_getElem? (i := 43) rfl))⟩
set_option maxRecDepth 4000 in
theorem mwX9_take : MWV mX9_take 2 := ⟨⟨(wdA0 _ (List.mem_of_getElem? (i := 22) rfl)), tk4 (i := 148) rfl rfl, show yX9_take.cls ≠ _ by decide +kernel, show yX9_take.cls ≠ _ by decide +kernel, show (parseMethodDescriptor yX9_take.desc).map (fun d => d.parameters.length) = _ by decide +kernel⟩, (wdA1 _ (List.mem_of_getElem? (i := 44) rfl)), (wdA1 _ (List.mem_of_getElem? (i := 45) rfl))⟩
set_option maxRecDepth 4000 in
theorem mwX9_copy : MWV mX9_copy 1 := ⟨⟨(wdA0 _ (List.mem_of_getElem? (i := 22) rfl)), tk4 (i := 211) rfl rfl, show yX9_copy.cls ≠ _ by decide +kernel, show yX9_copy.cls ≠ _ by decide +kernel, show (parseMethodDescriptor yX9_copy.desc).map (fun d => d.parameters.length) = _ by decide +kernel⟩, (wdA1 _ (List.mem_of_getElem? (i := 46) rfl)), (wdA1 _ (List.mem_of_getElem? (i := 47) rfl))⟩
set_option maxRecDepth 4000 in
theorem mwX10_beginThought : MWV mX10_beginThought 0 := ⟨⟨(wdA0 _ (List.mem_of_getElem? (i := 20) rfl)), tk4 (i := 207) rfl rfl, show yX10_beginThought.cls ≠ _ by decide +kernel, show yX10_beginThought.cls ≠ _ by decide +kernel, show (parseMethodDescriptor yX10_beginThought.desc).map (fun d => d.parameters.length) = _ by decide +kernel⟩, (wdA1 _ (List.mem_of_getElem? (i := 48) rfl)), wdP _ (List.mem_of_getElem? (i := 42) rfl)⟩
set_option maxRecDepth 4000 in
theorem mwX9_firstVoid : MWV mX9_firstVoid 0 := ⟨⟨(wdA0 _ (List.mem_of_getElem? (i := 22) rfl)), tk4 (i := 225) rfl rfl, show yX9_firstVoid.cls ≠ _ by decide +kernel, show yX9_firstVoid.cls ≠ _ by decide +kernel, show (parseMethodDescriptor yX9_firstVoid.desc).map (fun d => d.parameters.length) = _ by decide +kernel⟩, (wdA1 _ (List.mem_of_getElem? (i := 49) rfl)), (wdA1 _ (List.mem_of_getElem? (i := 50) rfl))⟩
set_option maxRecDepth 4000 in
theorem mwX9_unmetWant : MWV mX9_unmetWant 1 := ⟨⟨(wdA0 _ (List.mem_of_getElem? (i := 22) rfl)), tk4 (i := 239) rfl rfl, show yX9_unmetWant.cls ≠ _ by decide +kernel, show yX9_unmetWant.cls ≠ _ by decide +kernel, show (parseMethodDescriptor yX9_unmetWant.desc).map (fun d => d.parameters.length) = _ by decide +kernel⟩, (wdA1 _ (List.mem_of_getElem? (i := 51) rfl)), (wdA1 _ (List.mem_of_getElem? (i := 52) rfl))⟩
set_option maxRecDepth 4000 in
theorem mwX9_worthMet : MWV mX9_worthMet 1 := ⟨⟨(wdA0 _ (List.mem_of_getElem? (i := 22) rfl)), tk5 (i := 7) rfl rfl, show yX9_worthMet.cls ≠ _ by decide +kernel, show yX9_worthMet.cls ≠ _ by decide +kernel, show (parseMethodDescriptor yX9_worthMet.desc).map (fun d => d.parameters.length) = _ by decide +kernel⟩, (wdA1 _ (List.mem_of_getElem? (i := 53) rfl)), (wdA1 _ (List.mem_of_getElem? (i := 54) rfl))⟩
set_option maxRecDepth 4000 in
theorem mwX0_settle : MWV mX0_settle 1 := ⟨⟨(wdA0 _ (List.mem_of_getElem? (i := 25) rfl)), tk5 (i := 16) rfl rfl, show yX0_settle.cls ≠ _ by decide +kernel, show yX0_settle.cls ≠ _ by decide +kernel, show (parseMethodDescriptor yX0_settle.desc).map (fun d => d.parameters.length) = _ by decide +kernel⟩, (wdA1 _ (List.mem_of_getElem? (i := 55) rfl)), (wdA1 _ (List.mem_of_getElem? (i := 56) rfl))⟩
set_option maxRecDepth 4000 in
theorem mwX0_pair : MWV mX0_pair 1 := ⟨⟨(wdA0 _ (List.mem_of_getElem? (i := 25) rfl)), tk5 (i := 34) rfl rfl, show yX0_pair.cls ≠ _ by decide +kernel, show yX0_pair.cls ≠ _ by decide +kernel, show (parseMethodDescriptor yX0_pair.desc).map (fun d => d.parameters.length) = _ by decide +kernel⟩, (wdA1 _ (List.mem_of_getElem? (i := 57) rfl)), (wdA1 _ (List.mem_of_getElem? (i := 58) rfl))⟩
set_option maxRecDepth 4000 in
theorem mwX0_baring : MWV mX0_baring 2 := ⟨⟨(wdA0 _ (List.mem_of_getElem? (i := 25) rfl)), tk5 (i := 62) rfl rfl, show yX0_baring.cls ≠ _ by decide +kernel, show yX0_baring.cls ≠ _ by decide +kernel, show (parseMethodDescriptor yX0_baring.desc).map (fun d => d.parameters.length) = _ by decide +kernel⟩, (wdA1 _ (List.mem_of_getElem? (i := 59) rfl)), (wdA1 _ (List.mem_of_getElem? (i := 60) rfl))⟩
set_option maxRecDepth 4000 in
theorem mwX9_whoCanBe : MWV mX9_whoCanBe 1 := ⟨⟨(wdA0 _ (List.mem_of_getElem? (i := 22) rfl)), tk5 (i := 82) rfl rfl, show yX9_whoCanBe.cls ≠ _ by decide +kernel, show yX9_whoCanBe.cls ≠ _ by decide +kernel, show (parseMethodDescriptor yX9_whoCanBe.desc).map (fun d => d.parameters.length) = _ by decide +kernel⟩, (wdA1 _ (List.mem_of_getElem? (i := 61) rfl)), (wdA1 _ (List.mem_of_getElem? (i := 62) rfl))⟩
set_option maxRecDepth 4000 in
theorem mwX0_nextToPass : MWV mX0_nextToPass 3 := ⟨⟨(wdA0 _ (List.mem_of_getElem? (i := 25) rfl)), tk5 (i := 95) rfl rfl, show yX0_nextToPass.cls ≠ _ by decide +kernel, show yX0_nextToPass.cls ≠ _ by decide +kernel, show (parseMethodDescriptor yX0_nextToPass.desc).map (fun d => d.parameters.length) = _ by decide +kernel⟩, (wdA1 _ (List.mem_of_getElem? (i := 63) rfl)), (wdA1 _ (List.mem_of_getElem? (i := 64) rfl))⟩
set_option maxRecDepth 4000 in
theorem mwX8_fewestSteps : MWV mX8_fewestSteps 3 := ⟨⟨(wdA0 _ (List.mem_of_getElem? (i := 92) rfl)), tk5 (i := 114) rfl rfl, show yX8_fewestSteps.cls ≠ _ by decide +kernel, show yX8_fewestSteps.cls ≠ _ by decide +kernel, show (parseMethodDescriptor yX8_fewestSteps.desc).map (fun d => d.parameters.length) = _ by decide +kernel⟩, (wdA1 _ (List.mem_of_getElem? (i := 65) rfl)), (wdA1 _ (List.mem_of_getElem? (i := 66) rfl))⟩
set_option maxRecDepth 4000 in
theorem mwX8_fewestToCut : MWV mX8_fewestToCut 3 := ⟨⟨(wdA0 _ (List.mem_of_getElem? (i := 92) rfl)), tk5 (i := 128) rfl rfl, show yX8_fewestToCut.cls ≠ _ by decide +kernel, show yX8_fewestToCut.cls ≠ _ by decide +kernel, show (parseMethodDescriptor yX8_fewestToCut.desc).map (fun d => d.parameters.length) = _ by decide +kernel⟩, (wdA1 _ (List.mem_of_getElem? (i := 67) rfl)), (wdA1 _ (List.mem_of_getElem? (i := 68) rfl))⟩
set_option maxRecDepth 4000 in
theorem mwX5_make : MWV mX5_make 1 := ⟨⟨(wdA0 _ (List.mem_of_getElem? (i := 72) rfl)), tk5 (i := 151) rfl rfl, show yX5_make.cls ≠ _ by decide +kernel, show yX5_make.cls ≠ _ by decide +kernel, show (parseMethodDescriptor yX5_make.desc).map (fun d => d.parameters.length) = _ by decide +kernel⟩, (wdA1 _ (List.mem_of_getElem? (i := 69) rfl)), (wdA1 _ (List.mem_of_getElem? (i := 70) rfl))⟩
set_option maxRecDepth 4000 in
theorem mwX5_dayOf : MWV mX5_dayOf 1 := ⟨⟨(wdA0 _ (List.mem_of_getElem? (i := 72) rfl)), tk5 (i := 165) rfl rfl, show yX5_dayOf.cls ≠ _ by decide +kernel, show yX5_dayOf.cls ≠ _ by decide +kernel, show (parseMethodDescriptor yX5_dayOf.desc).map (fun d => d.parameters.length) = _ by decide +kernel⟩, (wdA1 _ (List.mem_of_getElem? (i := 71) rfl)), (wdA1 _ (List.mem_of_getElem? (i := 72) rfl))⟩
set_option maxRecDepth 4000 in
theorem mwJ9_floorDiv_7cf53 : MWS mJ9_floorDiv_7cf53 2 := ⟨⟨(wdA0 _ (List.mem_of_getElem? (i := 5) rfl)), tk5 (i := 177) rfl rfl, show yJ9_floorDiv_7cf53.cls ≠ _ by decide +kernel, show yJ9_floorDiv_7cf53.cls ≠ _ by decide +kernel, show (parseMethodDescriptor yJ9_floorDiv_7cf53.desc).map (fun d => d.parameters.length) = _ by decide +kernel⟩, (wdA1 _ (List.mem_of_getElem? (i := 73) rfl))⟩
set_option maxRecDepth 4000 in
theorem mwX9_worthBare : MWV mX9_worthBare 0 := ⟨⟨(wdA0 _ (List.mem_of_getElem? (i := 22) rfl)), tk5 (i := 181) rfl rfl, show yX9_worthBare.cls ≠ _ by decide +kernel, show yX9_worthBare.cls ≠ _ by decide +kernel, show (parseMethodDescriptor yX9_worthBare.desc).map (fun d => d.parameters.length) = _ by decide +kernel⟩, (wdA1 _ (List.mem_of_getElem? (i := 74) rfl)), (wdA1 _ (List.mem_of_getElem? (i := 75) rfl))⟩
set_option maxRecDepth 4000 in
theorem mwX1_allKinOf : MWV mX1_allKinOf 1 := ⟨⟨(wdA0 _ (List.mem_of_getElem? (i := 0) rfl)), tk5 (i := 189) rfl rfl, show yX1_allKinOf.cls ≠ _ by decide +kernel, show yX1_allKinOf.cls ≠ _ by decide +kernel, show (parseMethodDescriptor yX1_allKinOf.desc).map (fun d => d.parameters.length) = _ by decide +kernel⟩, (wdA1 _ (List.mem_of_getElem? (i := 76) rfl)), (wdA1 _ (List.mem_of_getElem? (i := 77) rfl))⟩
set_option maxRecDepth 4000 in
theorem mwX3_giveBack : MWV mX3_giveBack 1 := ⟨⟨(wdA1 _ (List.mem_of_getElem? (i := 33) rfl)), tk5 (i := 206) rfl rfl, show yX3_giveBack.cls ≠ _ by decide +kernel, show yX3_giveBack.cls ≠ _ by decide +kernel, show (parseMethodDescriptor yX3_giveBack.desc).map (fun d => d.parameters.length) = _ by decide +kernel⟩, (wdA1 _ (List.mem_of_getElem? (i := 78) rfl)), (wdA1 _ (List.mem_of_getElem? (i := 79) rfl))⟩
set_option maxRecDepth 4000 in
theorem mwX9_bareFields : MWV mX9_bareFields 0 := ⟨⟨(wdA0 _ (List.mem_of_getElem? (i := 22) rfl)), tk5 (i := 218) rfl rfl, show yX9_bareFields.cls ≠ _ by decide +kernel, show yX9_bareFields.cls ≠ _ by decide +kernel, show (parseMethodDescriptor yX9_bareFields.desc).map (fun d => d.parameters.length) = _ by decide +kernel⟩, (wdA1 _ (List.mem_of_getElem? (i := 80) rfl)), (wdA1 _ (List.mem_of_getElem? (i := 81) rfl))⟩
set_option maxRecDepth 4000 in
theorem mwX11_isIn : MWS mX11_isIn 3 := ⟨⟨(wdA1 _ (List.mem_of_getElem? (i := 82) rfl)), tk5 (i := 237) rfl rfl, show yX11_isIn.cls ≠ _ by decide +kernel, show yX11_isIn.cls ≠ _ by decide +kernel, show (parseMethodDescriptor yX11_isIn.desc).map (fun d => d.parameters.length) = _ by decide +kernel⟩, (wdA1 _ (List.mem_of_getElem? (i := 83) rfl))⟩
set_option maxRecDepth 4000 in
theorem mwX11_isOn : MWV mX11_isOn 2 := ⟨⟨(wdA1 _ (List.mem_of_getElem? (i := 82) rfl)), tk6 (i := 1) rfl rfl, show yX11_isOn.cls ≠ _ by decide +kernel, show yX11_isOn.cls ≠ _ by decide +kernel, show (parseMethodDescriptor yX11_isOn.desc).map (fun d => d.parameters.length) = _ by decide +kernel⟩, (wdA1 _ (List.mem_of_getElem? (i := 84) rfl)), wdP _ (List.mem_of_getElem? (i := 43) rfl)⟩
set_option maxRecDepth 4000 in
theorem mwX11_isField : MWV mX11_isField 1 := ⟨⟨(wdA1 _ (List.mem_of_getElem? (i := 82) rfl)), tk5 (i := 234) rfl rfl, show yX11_isField.cls ≠ _ by decide +kernel, show yX11_isField.cls ≠ _ by decide +kernel, show (parseMethodDescriptor yX11_isField.desc).map (fun d => d.parameters.length) = _ by decide +kernel⟩, (wdA1 _ (List.mem_of_getElem? (i := 85) rfl)), wdP _ (List.mem_of_getElem? (i := 44) rfl)⟩
set_option maxRecDepth 4000 in
theorem mwX11_isPerson : MWV mX11_isPerson 1 := ⟨⟨(wdA1 _ (List.mem_of_getElem? (i := 82) rfl)), tk6 (i := 150) rfl rfl, show yX11_isPerson.cls ≠ _ by decide +kernel, show yX11_isPerson.cls ≠ _ by decide +kernel, show (parseMethodDescriptor yX11_isPerson.desc).map (fun d => d.parameters.length) = _ by decide +kernel⟩, (wdA1 _ (List.mem_of_getElem? (i := 86) rfl)), wdP _ (List.mem_of_getElem? (i := 45) rfl)⟩
set_option maxRecDepth 4000 in
theorem mwX11_size : MWS mX11_size 1 := ⟨⟨(wdA1 _ (List.mem_of_getElem? (i := 82) rfl)), tk7 (i := 138) rfl rfl, show yX11_size.cls ≠ _ by decide +kernel, show yX11_size.cls ≠ _ by decide +kernel, show (parseMethodDescriptor yX11_size.desc).map (fun d => d.parameters.length) = _ by decide +kernel⟩, (wdA1 _ (List.mem_of_getElem? (i := 87) rfl))⟩
set_option maxRecDepth 4000 in
theorem mwX11_forgets : MWV mX11_forgets 0 := ⟨⟨(wdA1 _ (List.mem_of_getElem? (i := 82) rfl)), tk6 (i := 130) rfl rfl, show yX11_forgets.cls ≠ _ by decide +kernel, show yX11_forgets.cls ≠ _ by decide +kernel, show (parseMethodDescriptor yX11_forgets.desc).map (fun d => d.parameters.length) = _ by decide +kernel⟩, (wdA1 _ (List.mem_of_getElem? (i := 88) rfl)), wdP _ (List.mem_of_getElem? (i := 46) rfl)⟩
set_option maxRecDepth 4000 in
theorem mwX11_begins : MWV mX11_begins 2 := ⟨⟨(wdA1 _ (List.mem_of_getElem? (i := 82) rfl)), tk5 (i := 230) rfl rfl, show yX11_begins.cls ≠ _ by decide +kernel, show yX11_begins.cls ≠ _ by decide +kernel, show (parseMethodDescriptor yX11_begins.desc).map (fun d => d.parameters.length) = _ by decide +kernel⟩, (wdA1 _ (List.mem_of_getElem? (i := 89) rfl)), wdP _ (List.mem_of_getElem? (i := 47) rfl)⟩
set_option maxRecDepth 4000 in
theorem mwX11_canSet : MWV mX11_canSet 3 := ⟨⟨(wdA1 _ (List.mem_of_getElem? (i := 82) rfl)), tk6 (i := 146) rfl rfl, show yX11_canSet.cls ≠ _ by decide +kernel, show yX11_canSet.cls ≠ _ by decide +kernel, show (parseMethodDescriptor yX11_canSet.desc).map (fun d => d.parameters.length) = _ by decide +kernel⟩, (wdA1 _ (List.mem_of_getElem? (i := 90) rfl)), wdP _ (List.mem_of_getElem? (i := 48) rfl)⟩
set_option maxRecDepth 4000 in
theorem mwX11_placeOf : MWS mX11_placeOf 2 := ⟨⟨(wdA1 _ (List.mem_of_getElem? (i := 82) rfl)), tk6 (i := 153) rfl rfl, show yX11_placeOf.cls ≠ _ by decide +kernel, show yX11_placeOf.cls ≠ _ by decide +kernel, show (parseMethodDescriptor yX11_placeOf.desc).map (fun d => d.parameters.length) = _ by decide +kernel⟩, (wdA1 _ (List.mem_of_getElem? (i := 91) rfl))⟩
set_option maxRecDepth 4000 in
theorem mwX11_is : MWV mX11_is 1 := ⟨⟨(wdA1 _ (List.mem_of_getElem? (i := 82) rfl)), tk6 (i := 193) rfl rfl, show yX11_is.cls ≠ _ by decide +kernel, show yX11_is.cls ≠ _ by decide +kernel, show (parseMethodDescriptor yX11_is.desc).map (fun d => d.parameters.length) = _ by decide +kernel⟩, (wdA1 _ (List.mem_of_getElem? (i := 92) rfl)), wdP _ (List.mem_of_getElem? (i := 49) rfl)⟩
set_option maxRecDepth 4000 in
theorem mwX11_asked : MWV mX11_asked 0 := ⟨⟨(wdA1 _ (List.mem_of_getElem? (i := 82) rfl)), tk6 (i := 205) rfl rfl, show yX11_asked.cls ≠ _ by decide +kernel, show yX11_asked.cls ≠ _ by decide +kernel, show (parseMethodDescriptor yX11_asked.desc).map (fun d => d.parameters.length) = _ by decide +kernel⟩, (wdA1 _ (List.mem_of_getElem? (i := 93) rfl)), wdP _ (List.mem_of_getElem? (i := 50) rfl)⟩
set_option maxRecDepth 4000 in
theorem mwX11_lawWord : MWV mX11_lawWord 0 := ⟨⟨(wdA1 _ (List.mem_of_getElem? (i := 82) rfl)), tk6 (i := 188) rfl rfl, show yX11_lawWord.cls ≠ _ by decide +kernel, show yX11_lawWord.cls ≠ _ by decide +kernel, show (parseMethodDescriptor yX11_lawWord.desc).map (fun d => d.parameters.length) = _ by decide +kernel⟩, (wdA1 _ (List.mem_of_getElem? (i := 94) rfl)), wdP _ (List.mem_of_getElem? (i := 51) rfl)⟩
set_option maxRecDepth 4000 in
theorem mwX11_vowWord : MWV mX11_vowWord 0 := ⟨⟨(wdA1 _ (List.mem_of_getElem? (i := 82) rfl)), tk6 (i := 219) rfl rfl, show yX11_vowWord.cls ≠ _ by decide +kernel, show yX11_vowWord.cls ≠ _ by decide +kernel, show (parseMethodDescriptor yX11_vowWord.desc).map (fun d => d.parameters.length) = _ by decide +kernel⟩, (wdA1 _ (List.mem_of_getElem? (i := 95) rfl)), wdP _ (List.mem_of_getElem? (i := 52) rfl)⟩
set_option maxRecDepth 4000 in
theorem mwX11_weatherWord : MWV mX11_weatherWord 0 := ⟨⟨(wdA1 _ (List.mem_of_getElem? (i := 82) rfl)), tk6 (i := 225) rfl rfl, show yX11_weatherWord.cls ≠ _ by decide +kernel, show yX11_weatherWord.cls ≠ _ by decide +kernel, show (parseMethodDescriptor yX11_weatherWord.desc).map (fun d => d.parameters.length) = _ by decide +kernel⟩, (wdA1 _ (List.mem_of_getElem? (i := 96) rfl)), wdP _ (List.mem_of_getElem? (i := 53) rfl)⟩
set_option maxRecDepth 4000 in
theorem mwX11_wantWord : MWV mX11_wantWord 0 := ⟨⟨(wdA1 _ (List.mem_of_getElem? (i := 82) rfl)), tk6 (i := 230) rfl rfl, show yX11_wantWord.cls ≠ _ by decide +kernel, show yX11_wantWord.cls ≠ _ by decide +kernel, show (parseMethodDescriptor yX11_wantWord.desc).map (fun d => d.parameters.length) = _ by decide +kernel⟩, (wdA1 _ (List.mem_of_getElem? (i := 97) rfl)), wdP _ (List.mem_of_getElem? (i := 54) rfl)⟩
set_option maxRecDepth 4000 in
theorem mwX11_see : MWV mX11_see 1 := ⟨⟨(wdA1 _ (List.mem_of_getElem? (i := 82) rfl)), tk6 (i := 177) rfl rfl, show yX11_see.cls ≠ _ by decide +kernel, show yX11_see.cls ≠ _ by decide +kernel, show (parseMethodDescriptor yX11_see.desc).map (fun d => d.parameters.length) = _ by decide +kernel⟩, (wdA1 _ (List.mem_of_getElem? (i := 98) rfl)), wdP _ (List.mem_of_getElem? (i := 55) rfl)⟩
set_option maxRecDepth 4000 in
theorem mwX11_isLetter : MWS mX11_isLetter 1 := ⟨⟨(wdA1 _ (List.mem_of_getElem? (i := 82) rfl)), tk6 (i := 180) rfl rfl, show yX11_isLetter.cls ≠ _ by decide +kernel, show yX11_isLetter.cls ≠ _ by decide +kernel, show (parseMethodDescriptor yX11_isLetter.desc).map (fun d => d.parameters.length) = _ by decide +kernel⟩, (wdA1 _ (List.mem_of_getElem? (i := 99) rfl))⟩
set_option maxRecDepth 4000 in
theorem mwX11_word : MWV mX11_word 0 := ⟨⟨(wdA1 _ (List.mem_of_getElem? (i := 82) rfl)), tk6 (i := 184) rfl rfl, show yX11_word.cls ≠ _ by decide +kernel, show yX11_word.cls ≠ _ by decide +kernel, show (parseMethodDescriptor yX11_word.desc).map (fun d => d.parameters.length) = _ by decide +kernel⟩, (wdA2 _ (List.mem_of_getElem? (i := 0) rfl)), wdP _ (List.mem_of_getElem? (i := 56) rfl)⟩
set_option maxRecDepth 4000 in
theorem mwX11_isDigit : MWS mX11_isDigit 1 := ⟨⟨(wdA1 _ (List.mem_of_getElem? (i := 82) rfl)), tk6 (i := 235) rfl rfl, show yX11_isDigit.cls ≠ _ by decide +kernel, show yX11_isDigit.cls ≠ _ by decide +kernel, show (parseMethodDescriptor yX11_isDigit.desc).map (fun d => d.parameters.length) = _ by decide +kernel⟩, (wdA2 _ (List.mem_of_getElem? (i := 1) rfl))⟩
set_option maxRecDepth 4000 in
theorem mwX11_bad : MWV mX11_bad 1 := ⟨⟨(wdA1 _ (List.mem_of_getElem? (i := 82) rfl)), tk7 (i := 7) rfl rfl, show yX11_bad.cls ≠ _ by decide +kernel, show yX11_bad.cls ≠ _ by decide +kernel, show (parseMethodDescriptor yX11_bad.desc).map (fun d => d.parameters.length) = _ by decide +kernel⟩, (wdA2 _ (List.mem_of_getElem? (i := 2) rfl)), wdP _ (List.mem_of_getElem? (i := 57) rfl)⟩
set_option maxRecDepth 4000 in
theorem mwX11_next0 : MWV mX11_next0 0 := ⟨⟨(wdA1 _ (List.mem_of_getElem? (i := 82) rfl)), tk6 (i := 173) rfl rfl, show yX11_next0.cls ≠ _ by decide +kernel, show yX11_next0.cls ≠ _ by decide +kernel, show (parseMethodDescriptor yX11_next0.desc).map (fun d => d.parameters.length) = _ by decide +kernel⟩, (wdA2 _ (List.mem_of_getElem? (i := 3) rfl)), wdP _ (List.mem_of_getElem? (i := 58) rfl)⟩
set_option maxRecDepth 4000 in
theorem mwX11_lay : MWV mX11_lay 2 := ⟨⟨(wdA1 _ (List.mem_of_getElem? (i := 82) rfl)), tk7 (i := 23) rfl rfl, show yX11_lay.cls ≠ _ by decide +kernel, show yX11_lay.cls ≠ _ by decide +kernel, show (parseMethodDescriptor yX11_lay.desc).map (fun d => d.parameters.length) = _ by decide +kernel⟩, (wdA2 _ (List.mem_of_getElem? (i := 4) rfl)), wdP _ (List.mem_of_getElem? (i := 59) rfl)⟩
set_option maxRecDepth 4000 in
theorem mwX11_unit : MWV mX11_unit 0 := ⟨⟨(wdA1 _ (List.mem_of_getElem? (i := 82) rfl)), tk7 (i := 19) rfl rfl, show yX11_unit.cls ≠ _ by decide +kernel, show yX11_unit.cls ≠ _ by decide +kernel, show (parseMethodDescriptor yX11_unit.desc).map (fun d => d.parameters.length) = _ by decide +kernel⟩, (wdA2 _ (List.mem_of_getElem? (i := 5) rfl)), wdP _ (List.mem_of_getElem? (i := 60) rfl)⟩
set_option maxRecDepth 4000 in
theorem mwX11_product : MWV mX11_product 0 := ⟨⟨(wdA1 _ (List.mem_of_getElem? (i := 82) rfl)), tk7 (i := 15) rfl rfl, show yX11_product.cls ≠ _ by decide +kernel, show yX11_product.cls ≠ _ by decide +kernel, show (parseMethodDescriptor yX11_product.desc).map (fun d => d.parameters.length) = _ by decide +kernel⟩, (wdA2 _ (List.mem_of_getElem? (i := 6) rfl)), wdP _ (List.mem_of_getElem? (i := 61) rfl)⟩
set_option maxRecDepth 4000 in
theorem mwX11_every : ∀ d, MWV (mX11_every d) 0 := fun _ => ⟨⟨(wdA1 _ (List.mem_of_getElem? (i := 82) rfl)), tk7 (i := 31) rfl rfl, show yX11_every.cls ≠ _ by decide +kernel, show yX11_every.cls ≠ _ by decide +kernel, show (parseMethodDescriptor yX11_every.desc).map (fun d => d.parameters.length) = _ by decide +kernel⟩, (wdA2 _ (List.mem_of_getElem? (i := 7) rfl)), wdP _ (List.mem_of_getElem? (i := 62) rfl)⟩
set_option maxRecDepth 4000 in
theorem mwX11_oneTest : ∀ d, MWV (mX11_oneTest d) 0 := fun _ => ⟨⟨(wdA1 _ (List.mem_of_getElem? (i := 82) rfl)), tk7 (i := 35) rfl rfl, show yX11_oneTest.cls ≠ _ by decide +kernel, show yX11_oneTest.cls ≠ _ by decide +kernel, show (parseMethodDescriptor yX11_oneTest.desc).map (fun d => d.parameters.length) = _ by decide +kernel⟩, (wdA2 _ (List.mem_of_getElem? (i := 8) rfl)), wdP _ (List.mem_of_getElem? (i := 63) rfl)⟩
set_option maxRecDepth 4000 in
theorem mwX11_opens : MWV mX11_opens 0 := ⟨⟨(wdA1 _ (List.mem_of_getElem? (i := 82) rfl)), tk7 (i := 39) rfl rfl, show yX11_opens.cls ≠ _ by decide +kernel, show yX11_opens.cls ≠ _ by decide +kernel, show (parseMethodDescriptor yX11_opens.desc).map (fun d => d.parameters.length) = _ by decide +kernel⟩, (wdA2 _ (List.mem_of_getElem? (i := 9) rfl)), wdP _ (List.mem_of_getElem? (i := 64) rfl)⟩
set_option maxRecDepth 4000 in
theorem mwX11_any : ∀ d, MWV (mX11_any d) 0 := fun _ => ⟨⟨(wdA1 _ (List.mem_of_getElem? (i := 82) rfl)), tk7 (i := 27) rfl rfl, show yX11_any.cls ≠ _ by decide +kernel, show yX11_any.cls ≠ _ by decide +kernel, show (parseMethodDescriptor yX11_any.desc).map (fun d => d.parameters.length) = _ by decide +kernel⟩, (wdA2 _ (List.mem_of_getElem? (i := 10) rfl)), wdP _ (List.mem_of_getElem? (i := 65) rfl)⟩
set_option maxRecDepth 4000 in
theorem mwX11_need : MWV mX11_need 1 := ⟨⟨(wdA1 _ (List.mem_of_getElem? (i := 82) rfl)), tk7 (i := 43) rfl rfl, show yX11_need.cls ≠ _ by decide +kernel, show yX11_need.cls ≠ _ by decide +kernel, show (parseMethodDescriptor yX11_need.desc).map (fun d => d.parameters.length) = _ by decide +kernel⟩, (wdA2 _ (List.mem_of_getElem? (i := 11) rfl)), wdP _ (List.mem_of_getElem? (i := 66) rfl)⟩
set_option maxRecDepth 4000 in
theorem mwX11_sumUp : MWV mX11_sumUp 0 := ⟨⟨(wdA1 _ (List.mem_of_getElem? (i := 82) rfl)), tk7 (i := 11) rfl rfl, show yX11_sumUp.cls ≠ _ by decide +kernel, show yX11_sumUp.cls ≠ _ by decide +kernel, show (parseMethodDescriptor yX11_sumUp.desc).map (fun d => d.parameters.length) = _ by decide +kernel⟩, (wdA2 _ (List.mem_of_getElem? (i := 12) rfl)), wdP _ (List.mem_of_getElem? (i := 67) rfl)⟩
set_option maxRecDepth 4000 in
theorem mwX11_aLine : MWV mX11_aLine 0 := ⟨⟨(wdA1 _ (List.mem_of_getElem? (i := 82) rfl)), tk7 (i := 3) rfl rfl, show yX11_aLine.cls ≠ _ by decide +kernel, show yX11_aLine.cls ≠ _ by decide +kernel, show (parseMethodDescriptor yX11_aLine.desc).map (fun d => d.parameters.length) = _ by decide +kernel⟩, (wdA2 _ (List.mem_of_getElem? (i := 13) rfl)), wdP _ (List.mem_of_getElem? (i := 68) rfl)⟩
set_option maxRecDepth 4000 in
theorem mwX11_number : MWV mX11_number 3 := ⟨⟨(wdA1 _ (List.mem_of_getElem? (i := 82) rfl)), tk7 (i := 63) rfl rfl, show yX11_number.cls ≠ _ by decide +kernel, show yX11_number.cls ≠ _ by decide +kernel, show (parseMethodDescriptor yX11_number.desc).map (fun d => d.parameters.length) = _ by decide +kernel⟩, (wdA2 _ (List.mem_of_getElem? (i := 14) rfl)), wdP _ (List.mem_of_getElem? (i := 69) rfl)⟩
set_option maxRecDepth 4000 in
theorem mwX11_told : MWV mX11_told 4 := ⟨⟨(wdA1 _ (List.mem_of_getElem? (i := 82) rfl)), tk7 (i := 59) rfl rfl, show yX11_told.cls ≠ _ by decide +kernel, show yX11_told.cls ≠ _ by decide +kernel, show (parseMethodDescriptor yX11_told.desc).map (fun d => d.parameters.length) = _ by decide +kernel⟩, (wdA2 _ (List.mem_of_getElem? (i := 15) rfl)), wdP _ (List.mem_of_getElem? (i := 70) rfl)⟩
set_option maxRecDepth 4000 in
theorem mwX11_areUnlike : MWV mX11_areUnlike 2 := ⟨⟨(wdA1 _ (List.mem_of_getElem? (i := 82) rfl)), tk7 (i := 67) rfl rfl, show yX11_areUnlike.cls ≠ _ by decide +kernel, show yX11_areUnlike.cls ≠ _ by decide +kernel, show (parseMethodDescriptor yX11_areUnlike.desc).map (fun d => d.parameters.length) = _ by decide +kernel⟩, (wdA2 _ (List.mem_of_getElem? (i := 16) rfl)), wdP _ (List.mem_of_getElem? (i := 71) rfl)⟩
set_option maxRecDepth 4000 in
theorem mwX11_aField : MWV mX11_aField 2 := ⟨⟨(wdA1 _ (List.mem_of_getElem? (i := 82) rfl)), tk7 (i := 71) rfl rfl, show yX11_aField.cls ≠ _ by decide +kernel, show yX11_aField.cls ≠ _ by decide +kernel, show (parseMethodDescriptor yX11_aField.desc).map (fun d => d.parameters.length) = _ by decide +kernel⟩, (wdA2 _ (List.mem_of_getElem? (i := 17) rfl)), wdP _ (List.mem_of_getElem? (i := 72) rfl)⟩
set_option maxRecDepth 4000 in
theorem mwX11_aVow : MWV mX11_aVow 0 := ⟨⟨(wdA1 _ (List.mem_of_getElem? (i := 82) rfl)), tk7 (i := 55) rfl rfl, show yX11_aVow.cls ≠ _ by decide +kernel, show yX11_aVow.cls ≠ _ by decide +kernel, show (parseMethodDescriptor yX11_aVow.desc).map (fun d => d.parameters.length) = _ by decide +kernel⟩, (wdA2 _ (List.mem_of_getElem? (i := 18) rfl)), wdP _ (List.mem_of_getElem? (i := 73) rfl)⟩
set_option maxRecDepth 4000 in
theorem mwX11_aWeather : MWV mX11_aWeather 0 := ⟨⟨(wdA1 _ (List.mem_of_getElem? (i := 82) rfl)), tk7 (i := 75) rfl rfl, show yX11_aWeather.cls ≠ _ by decide +kernel, show yX11_aWeather.cls ≠ _ by decide +kernel, show (parseMethodDescriptor yX11_aWeather.desc).map (fun d => d.parameters.length) = _ by decide +kernel⟩, (wdA2 _ (List.mem_of_getElem? (i := 19) rfl)), wdP _ (List.mem_of_getElem? (i := 74) rfl)⟩
set_option maxRecDepth 4000 in
theorem mwX11_aWant : MWV mX11_aWant 0 := ⟨⟨(wdA1 _ (List.mem_of_getElem? (i := 82) rfl)), tk7 (i := 79) rfl rfl, show yX11_aWant.cls ≠ _ by decide +kernel, show yX11_aWant.cls ≠ _ by decide +kernel, show (parseMethodDescriptor yX11_aWant.desc).map (fun d => d.parameters.length) = _ by decide +kernel⟩, (wdA2 _ (List.mem_of_getElem? (i := 20) rfl)), wdP _ (List.mem_of_getElem? (i := 75) rfl)⟩
set_option maxRecDepth 4000 in
theorem mwX11_aRow : MWV mX11_aRow 0 := ⟨⟨(wdA1 _ (List.mem_of_getElem? (i := 82) rfl)), tk7 (i := 51) rfl rfl, show yX11_aRow.cls ≠ _ by decide +kernel, show yX11_aRow.cls ≠ _ by decide +kernel, show (parseMethodDescriptor yX11_aRow.desc).map (fun d => d.parameters.length) = _ by decide +kernel⟩, (wdA2 _ (List.mem_of_getElem? (i := 21) rfl)), wdP _ (List.mem_of_getElem? (i := 76) rfl)⟩
set_option maxRecDepth 4000 in
theorem mwX11_putsLaw : MWV mX11_putsLaw 0 := ⟨⟨(wdA1 _ (List.mem_of_getElem? (i := 82) rfl)), tk7 (i := 87) rfl rfl, show yX11_putsLaw.cls ≠ _ by decide +kernel, show yX11_putsLaw.cls ≠ _ by decide +kernel, show (parseMethodDescriptor yX11_putsLaw.desc).map (fun d => d.parameters.length) = _ by decide +kernel⟩, (wdA2 _ (List.mem_of_getElem? (i := 22) rfl)), wdP _ (List.mem_of_getElem? (i := 77) rfl)⟩
set_option maxRecDepth 4000 in
theorem mwX11_puts : MWV mX11_puts 3 := ⟨⟨(wdA1 _ (List.mem_of_getElem? (i := 82) rfl)), tk7 (i := 91) rfl rfl, show yX11_puts.cls ≠ _ by decide +kernel, show yX11_puts.cls ≠ _ by decide +kernel, show (parseMethodDescriptor yX11_puts.desc).map (fun d => d.parameters.length) = _ by decide +kernel⟩, (wdA2 _ (List.mem_of_getElem? (i := 23) rfl)), wdP _ (List.mem_of_getElem? (i := 78) rfl)⟩
set_option maxRecDepth 4000 in
theorem mwX11_readsLaw : MWV mX11_readsLaw 0 := ⟨⟨(wdA1 _ (List.mem_of_getElem? (i := 82) rfl)), tk6 (i := 239) rfl rfl, show yX11_readsLaw.cls ≠ _ by decide +kernel, show yX11_readsLaw.cls ≠ _ by decide +kernel, show (parseMethodDescriptor yX11_readsLaw.desc).map (fun d => d.parameters.length) = _ by decide +kernel⟩, (wdA2 _ (List.mem_of_getElem? (i := 24) rfl)), wdP _ (List.mem_of_getElem? (i := 79) rfl)⟩
set_option maxRecDepth 4000 in
theorem mwX11_readsRows : MWV mX11_readsRows 0 := ⟨⟨(wdA1 _ (List.mem_of_getElem? (i := 82) rfl)), tk7 (i := 47) rfl rfl, show yX11_readsRows.cls ≠ _ by decide +kernel, show yX11_readsRows.cls ≠ _ by decide +kernel, show (parseMethodDescriptor yX11_readsRows.desc).map (fun d => d.parameters.length) = _ by decide +kernel⟩, (wdA2 _ (List.mem_of_getElem? (i := 25) rfl)), wdP _ (List.mem_of_getElem? (i := 80) rfl)⟩
set_option maxRecDepth 4000 in
theorem mwX11_putsText : MWV mX11_putsText 1 := ⟨⟨(wdA1 _ (List.mem_of_getElem? (i := 82) rfl)), tk7 (i := 83) rfl rfl, show yX11_putsText.cls ≠ _ by decide +kernel, show yX11_putsText.cls ≠ _ by decide +kernel, show (parseMethodDescriptor yX11_putsText.desc).map (fun d => d.parameters.length) = _ by decide +kernel⟩, (wdA2 _ (List.mem_of_getElem? (i := 26) rfl)), wdP _ (List.mem_of_getElem? (i := 81) rfl)⟩
set_option maxRecDepth 4000 in
theorem mwX11_both : MWS mX11_both 3 := ⟨⟨(wdA1 _ (List.mem_of_getElem? (i := 82) rfl)), tk7 (i := 153) rfl rfl, show yX11_both.cls ≠ _ by decide +kernel, show yX11_both.cls ≠ _ by decide +kernel, show (parseMethodDescriptor yX11_both.desc).map (fun d => d.parameters.length) = _ by decide +kernel⟩, (wdA2 _ (List.mem_of_getElem? (i := 27) rfl))⟩
set_option maxRecDepth 4000 in
theorem mwX11_comesTo : MWV mX11_comesTo 3 := ⟨⟨(wdA1 _ (List.mem_of_getElem? (i := 82) rfl)), tk7 (i := 150) rfl rfl, show yX11_comesTo.cls ≠ _ by decide +kernel, show yX11_comesTo.cls ≠ _ by decide +kernel, show (parseMethodDescriptor yX11_comesTo.desc).map (fun d => d.parameters.length) = _ by decide +kernel⟩, (wdA2 _ (List.mem_of_getElem? (i := 28) rfl)), wdP _ (List.mem_of_getElem? (i := 82) rfl)⟩
set_option maxRecDepth 4000 in
theorem mwX11_isSo : MWV mX11_isSo 1 := ⟨⟨(wdA1 _ (List.mem_of_getElem? (i := 82) rfl)), tk7 (i := 146) rfl rfl, show yX11_isSo.cls ≠ _ by decide +kernel, show yX11_isSo.cls ≠ _ by decide +kernel, show (parseMethodDescriptor yX11_isSo.desc).map (fun d => d.parameters.length) = _ by decide +kernel⟩, (wdA2 _ (List.mem_of_getElem? (i := 29) rfl)), wdP _ (List.mem_of_getElem? (i := 83) rfl)⟩
set_option maxRecDepth 4000 in
theorem mwX11_lesser : MWS mX11_lesser 2 := ⟨⟨(wdA1 _ (List.mem_of_getElem? (i := 82) rfl)), tk7 (i := 156) rfl rfl, show yX11_lesser.cls ≠ _ by decide +kernel, show yX11_lesser.cls ≠ _ by decide +kernel, show (parseMethodDescriptor yX11_lesser.desc).map (fun d => d.parameters.length) = _ by decide +kernel⟩, (wdA2 _ (List.mem_of_getElem? (i := 30) rfl))⟩
set_option maxRecDepth 4000 in
theorem mwX11_greater : MWS mX11_greater 2 := ⟨⟨(wdA1 _ (List.mem_of_getElem? (i := 82) rfl)), tk7 (i := 159) rfl rfl, show yX11_greater.cls ≠ _ by decide +kernel, show yX11_greater.cls ≠ _ by decide +kernel, show (parseMethodDescriptor yX11_greater.desc).map (fun d => d.parameters.length) = _ by decide +kernel⟩, (wdA2 _ (List.mem_of_getElem? (i := 31) rfl))⟩
set_option maxRecDepth 4000 in
theorem mwX11_clears : MWV mX11_clears 0 := ⟨⟨(wdA1 _ (List.mem_of_getElem? (i := 82) rfl)), tk7 (i := 135) rfl rfl, show yX11_clears.cls ≠ _ by decide +kernel, show yX11_clears.cls ≠ _ by decide +kernel, show (parseMethodDescriptor yX11_clears.desc).map (fun d => d.parameters.length) = _ by decide +kernel⟩, (wdA2 _ (List.mem_of_getElem? (i := 32) rfl)), wdP _ (List.mem_of_getElem? (i := 84) rfl)⟩
set_option maxRecDepth 4000 in
theorem mwX11_laysTwo : MWV mX11_laysTwo 2 := ⟨⟨(wdA1 _ (List.mem_of_getElem? (i := 82) rfl)), tk7 (i := 131) rfl rfl, show yX11_laysTwo.cls ≠ _ by decide +kernel, show yX11_laysTwo.cls ≠ _ by decide +kernel, show (parseMethodDescriptor yX11_laysTwo.desc).map (fun d => d.parameters.length) = _ by decide +kernel⟩, (wdA2 _ (List.mem_of_getElem? (i := 33) rfl)), wdP _ (List.mem_of_getElem? (i := 85) rfl)⟩
set_option maxRecDepth 4000 in
theorem mwX11_says : MWV mX11_says 3 := ⟨⟨(wdA1 _ (List.mem_of_getElem? (i := 82) rfl)), tk7 (i := 142) rfl rfl, show yX11_says.cls ≠ _ by decide +kernel, show yX11_says.cls ≠ _ by decide +kernel, show (parseMethodDescriptor yX11_says.desc).map (fun d => d.parameters.length) = _ by decide +kernel⟩, (wdA2 _ (List.mem_of_getElem? (i := 34) rfl)), wdP _ (List.mem_of_getElem? (i := 86) rfl)⟩
set_option maxRecDepth 4000 in
theorem mwX11_matchOf : MWV mX11_matchOf 2 := ⟨⟨(wdA1 _ (List.mem_of_getElem? (i := 82) rfl)), tk7 (i := 127) rfl rfl, show yX11_matchOf.cls ≠ _ by decide +kernel, show yX11_matchOf.cls ≠ _ by decide +kernel, show (parseMethodDescriptor yX11_matchOf.desc).map (fun d => d.parameters.length) = _ by decide +kernel⟩, (wdA2 _ (List.mem_of_getElem? (i := 35) rfl)), wdP _ (List.mem_of_getElem? (i := 87) rfl)⟩
set_option maxRecDepth 4000 in
theorem mwX11_foundOf : MWV mX11_foundOf 2 := ⟨⟨(wdA1 _ (List.mem_of_getElem? (i := 82) rfl)), tk7 (i := 123) rfl rfl, show yX11_foundOf.cls ≠ _ by decide +kernel, show yX11_foundOf.cls ≠ _ by decide +kernel, show (parseMethodDescriptor yX11_foundOf.desc).map (fun d => d.parameters.length) = _ by decide +kernel⟩, (wdA2 _ (List.mem_of_getElem? (i := 36) rfl)), wdP _ (List.mem_of_getElem? (i := 88) rfl)⟩
set_option maxRecDepth 4000 in
theorem mwX11_apart : MWS mX11_apart 2 := ⟨⟨(wdA1 _ (List.mem_of_getElem? (i := 82) rfl)), tk7 (i := 174) rfl rfl, show yX11_apart.cls ≠ _ by decide +kernel, show yX11_apart.cls ≠ _ by decide +kernel, show (parseMethodDescriptor yX11_apart.desc).map (fun d => d.parameters.length) = _ by decide +kernel⟩, (wdA2 _ (List.mem_of_getElem? (i := 37) rfl))⟩
set_option maxRecDepth 4000 in
theorem mwX11_isFree : MWV mX11_isFree 1 := ⟨⟨(wdA1 _ (List.mem_of_getElem? (i := 82) rfl)), tk7 (i := 111) rfl rfl, show yX11_isFree.cls ≠ _ by decide +kernel, show yX11_isFree.cls ≠ _ by decide +kernel, show (parseMethodDescriptor yX11_isFree.desc).map (fun d => d.parameters.length) = _ by decide +kernel⟩, (wdA2 _ (List.mem_of_getElem? (i := 38) rfl)), wdP _ (List.mem_of_getElem? (i := 89) rfl)⟩
set_option maxRecDepth 4000 in
theorem mwX11_liftOf : MWV mX11_liftOf 4 := ⟨⟨(wdA1 _ (List.mem_of_getElem? (i := 82) rfl)), tk7 (i := 171) rfl rfl, show yX11_liftOf.cls ≠ _ by decide +kernel, show yX11_liftOf.cls ≠ _ by decide +kernel, show (parseMethodDescriptor yX11_liftOf.desc).map (fun d => d.parameters.length) = _ by decide +kernel⟩, (wdA2 _ (List.mem_of_getElem? (i := 39) rfl)), wdP _ (List.mem_of_getElem? (i := 90) rfl)⟩
set_option maxRecDepth 4000 in
theorem mwX11_lifts : MWV mX11_lifts 4 := ⟨⟨(wdA1 _ (List.mem_of_getElem? (i := 82) rfl)), tk7 (i := 167) rfl rfl, show yX11_lifts.cls ≠ _ by decide +kernel, show yX11_lifts.cls ≠ _ by decide +kernel, show (parseMethodDescriptor yX11_lifts.desc).map (fun d => d.parameters.length) = _ by decide +kernel⟩, (wdA2 _ (List.mem_of_getElem? (i := 40) rfl)), wdP _ (List.mem_of_getElem? (i := 91) rfl)⟩
set_option maxRecDepth 4000 in
theorem mwX11_wentTo : MWV mX11_wentTo 2 := ⟨⟨(wdA1 _ (List.mem_of_getElem? (i := 82) rfl)), tk7 (i := 182) rfl rfl, show yX11_wentTo.cls ≠ _ by decide +kernel, show yX11_wentTo.cls ≠ _ by decide +kernel, show (parseMethodDescriptor yX11_wentTo.desc).map (fun d => d.parameters.length) = _ by decide +kernel⟩, (wdA2 _ (List.mem_of_getElem? (i := 41) rfl)), wdP _ (List.mem_of_getElem? (i := 92) rfl)⟩
set_option maxRecDepth 4000 in
theorem mwX11_rises : MWV mX11_rises 3 := ⟨⟨(wdA1 _ (List.mem_of_getElem? (i := 82) rfl)), tk7 (i := 163) rfl rfl, show yX11_rises.cls ≠ _ by decide +kernel, show yX11_rises.cls ≠ _ by decide +kernel, show (parseMethodDescriptor yX11_rises.desc).map (fun d => d.parameters.length) = _ by decide +kernel⟩, (wdA2 _ (List.mem_of_getElem? (i := 42) rfl)), wdP _ (List.mem_of_getElem? (i := 93) rfl)⟩
set_option maxRecDepth 4000 in
theorem mwX11_drifts : MWV mX11_drifts 3 := ⟨⟨(wdA1 _ (List.mem_of_getElem? (i := 82) rfl)), tk7 (i := 178) rfl rfl, show yX11_drifts.cls ≠ _ by decide +kernel, show yX11_drifts.cls ≠ _ by decide +kernel, show (parseMethodDescriptor yX11_drifts.desc).map (fun d => d.parameters.length) = _ by decide +kernel⟩, (wdA2 _ (List.mem_of_getElem? (i := 43) rfl)), wdP _ (List.mem_of_getElem? (i := 94) rfl)⟩
set_option maxRecDepth 4000 in
theorem mwX11_notes : MWV mX11_notes 3 := ⟨⟨(wdA1 _ (List.mem_of_getElem? (i := 82) rfl)), tk7 (i := 186) rfl rfl, show yX11_notes.cls ≠ _ by decide +kernel, show yX11_notes.cls ≠ _ by decide +kernel, show (parseMethodDescriptor yX11_notes.desc).map (fun d => d.parameters.length) = _ by decide +kernel⟩, (wdA2 _ (List.mem_of_getElem? (i := 44) rfl)), wdP _ (List.mem_of_getElem? (i := 95) rfl)⟩
set_option maxRecDepth 4000 in
theorem mwX11_canVow : MWV mX11_canVow 3 := ⟨⟨(wdA1 _ (List.mem_of_getElem? (i := 82) rfl)), tk7 (i := 107) rfl rfl, show yX11_canVow.cls ≠ _ by decide +kernel, show yX11_canVow.cls ≠ _ by decide +kernel, show (parseMethodDescriptor yX11_canVow.desc).map (fun d => d.parameters.length) = _ by decide +kernel⟩, (wdA2 _ (List.mem_of_getElem? (i := 45) rfl)), wdP _ (List.mem_of_getElem? (i := 96) rfl)⟩
set_option maxRecDepth 4000 in
theorem mwX11_keeps : MWV mX11_keeps 0 := ⟨⟨(wdA1 _ (List.mem_of_getElem? (i := 82) rfl)), tk7 (i := 115) rfl rfl, show yX11_keeps.cls ≠ _ by decide +kernel, show yX11_keeps.cls ≠ _ by decide +kernel, show (parseMethodDescriptor yX11_keeps.desc).map (fun d => d.parameters.length) = _ by decide +kernel⟩, (wdA2 _ (List.mem_of_getElem? (i := 46) rfl)), wdP _ (List.mem_of_getElem? (i := 97) rfl)⟩
set_option maxRecDepth 4000 in
theorem mwX11_vows : MWV mX11_vows 3 := ⟨⟨(wdA1 _ (List.mem_of_getElem? (i := 82) rfl)), tk7 (i := 119) rfl rfl, show yX11_vows.cls ≠ _ by decide +kernel, show yX11_vows.cls ≠ _ by decide +kernel, show (parseMethodDescriptor yX11_vows.desc).map (fun d => d.parameters.length) = _ by decide +kernel⟩, (wdA2 _ (List.mem_of_getElem? (i := 47) rfl)), wdP _ (List.mem_of_getElem? (i := 98) rfl)⟩
set_option maxRecDepth 4000 in
theorem mwX11_weatherOf : MWV mX11_weatherOf 1 := ⟨⟨(wdA1 _ (List.mem_of_getElem? (i := 82) rfl)), tk7 (i := 210) rfl rfl, show yX11_weatherOf.cls ≠ _ by decide +kernel, show yX11_weatherOf.cls ≠ _ by decide +kernel, show (parseMethodDescriptor yX11_weatherOf.desc).map (fun d => d.parameters.length) = _ by decide +kernel⟩, (wdA2 _ (List.mem_of_getElem? (i := 48) rfl)), wdP _ (List.mem_of_getElem? (i := 99) rfl)⟩
set_option maxRecDepth 4000 in
theorem mwX11_ofVow : MWV mX11_ofVow 2 := ⟨⟨(wdA1 _ (List.mem_of_getElem? (i := 82) rfl)), tk7 (i := 218) rfl rfl, show yX11_ofVow.cls ≠ _ by decide +kernel, show yX11_ofVow.cls ≠ _ by decide +kernel, show (parseMethodDescriptor yX11_ofVow.desc).map (fun d => d.parameters.length) = _ by decide +kernel⟩, (wdA2 _ (List.mem_of_getElem? (i := 49) rfl)), wdP _ (List.mem_of_getElem? (i := 100) rfl)⟩
set_option maxRecDepth 4000 in
theorem mwX11_draw : MWV mX11_draw 1 := ⟨⟨(wdA1 _ (List.mem_of_getElem? (i := 82) rfl)), tk7 (i := 226) rfl rfl, show yX11_draw.cls ≠ _ by decide +kernel, show yX11_draw.cls ≠ _ by decide +kernel, show (parseMethodDescriptor yX11_draw.desc).map (fun d => d.parameters.length) = _ by decide +kernel⟩, (wdA2 _ (List.mem_of_getElem? (i := 50) rfl)), wdP _ (List.mem_of_getElem? (i := 101) rfl)⟩
set_option maxRecDepth 4000 in
theorem mwX11_snows : MWV mX11_snows 0 := ⟨⟨(wdA1 _ (List.mem_of_getElem? (i := 82) rfl)), tk7 (i := 206) rfl rfl, show yX11_snows.cls ≠ _ by decide +kernel, show yX11_snows.cls ≠ _ by decide +kernel, show (parseMethodDescriptor yX11_snows.desc).map (fun d => d.parameters.length) = _ by decide +kernel⟩, (wdA2 _ (List.mem_of_getElem? (i := 51) rfl)), wdP _ (List.mem_of_getElem? (i := 102) rfl)⟩
set_option maxRecDepth 4000 in
theorem mwX11_vowsOfDay : MWV mX11_vowsOfDay 0 := ⟨⟨(wdA1 _ (List.mem_of_getElem? (i := 82) rfl)), tk7 (i := 214) rfl rfl, show yX11_vowsOfDay.cls ≠ _ by decide +kernel, show yX11_vowsOfDay.cls ≠ _ by decide +kernel, show (parseMethodDescriptor yX11_vowsOfDay.desc).map (fun d => d.parameters.length) = _ by decide +kernel⟩, (wdA2 _ (List.mem_of_getElem? (i := 52) rfl)), wdP _ (List.mem_of_getElem? (i := 103) rfl)⟩
set_option maxRecDepth 4000 in
theorem mwX11_slides : MWV mX11_slides 0 := ⟨⟨(wdA1 _ (List.mem_of_getElem? (i := 82) rfl)), tk7 (i := 222) rfl rfl, show yX11_slides.cls ≠ _ by decide +kernel, show yX11_slides.cls ≠ _ by decide +kernel, show (parseMethodDescriptor yX11_slides.desc).map (fun d => d.parameters.length) = _ by decide +kernel⟩, (wdA2 _ (List.mem_of_getElem? (i := 53) rfl)), wdP _ (List.mem_of_getElem? (i := 104) rfl)⟩
set_option maxRecDepth 4000 in
theorem mwX11_meltOf : MWV mX11_meltOf 1 := ⟨⟨(wdA1 _ (List.mem_of_getElem? (i := 82) rfl)), tk7 (i := 232) rfl rfl, show yX11_meltOf.cls ≠ _ by decide +kernel, show yX11_meltOf.cls ≠ _ by decide +kernel, show (parseMethodDescriptor yX11_meltOf.desc).map (fun d => d.parameters.length) = _ by decide +kernel⟩, (wdA2 _ (List.mem_of_getElem? (i := 54) rfl)), wdP _ (List.mem_of_getElem? (i := 105) rfl)⟩
set_option maxRecDepth 4000 in
theorem mwX11_aDay : MWV mX11_aDay 0 := ⟨⟨(wdA1 _ (List.mem_of_getElem? (i := 82) rfl)), tk7 (i := 202) rfl rfl, show yX11_aDay.cls ≠ _ by decide +kernel, show yX11_aDay.cls ≠ _ by decide +kernel, show (parseMethodDescriptor yX11_aDay.desc).map (fun d => d.parameters.length) = _ by decide +kernel⟩, (wdA2 _ (List.mem_of_getElem? (i := 55) rfl)), wdP _ (List.mem_of_getElem? (i := 106) rfl)⟩
set_option maxRecDepth 4000 in
theorem mwX11_lays : MWV mX11_lays 0 := ⟨⟨(wdA1 _ (List.mem_of_getElem? (i := 82) rfl)), tk8 (i := 24) rfl rfl, show yX11_lays.cls ≠ _ by decide +kernel, show yX11_lays.cls ≠ _ by decide +kernel, show (parseMethodDescriptor yX11_lays.desc).map (fun d => d.parameters.length) = _ by decide +kernel⟩, (wdA2 _ (List.mem_of_getElem? (i := 56) rfl)), wdP _ (List.mem_of_getElem? (i := 107) rfl)⟩
set_option maxRecDepth 4000 in
theorem mwX11_putsBack : MWV mX11_putsBack 0 := ⟨⟨(wdA1 _ (List.mem_of_getElem? (i := 82) rfl)), tk8 (i := 28) rfl rfl, show yX11_putsBack.cls ≠ _ by decide +kernel, show yX11_putsBack.cls ≠ _ by decide +kernel, show (parseMethodDescriptor yX11_putsBack.desc).map (fun d => d.parameters.length) = _ by decide +kernel⟩, (wdA2 _ (List.mem_of_getElem? (i := 57) rfl)), wdP _ (List.mem_of_getElem? (i := 108) rfl)⟩
set_option maxRecDepth 4000 in
theorem mwX11_lastOf : MWV mX11_lastOf 3 := ⟨⟨(wdA1 _ (List.mem_of_getElem? (i := 82) rfl)), tk8 (i := 40) rfl rfl, show yX11_lastOf.cls ≠ _ by decide +kernel, show yX11_lastOf.cls ≠ _ by decide +kernel, show (parseMethodDescriptor yX11_lastOf.desc).map (fun d => d.parameters.length) = _ by decide +kernel⟩, (wdA2 _ (List.mem_of_getElem? (i := 58) rfl)), wdP _ (List.mem_of_getElem? (i := 109) rfl)⟩
set_option maxRecDepth 4000 in
theorem mwX11_meetsWants : MWV mX11_meetsWants 1 := ⟨⟨(wdA1 _ (List.mem_of_getElem? (i := 82) rfl)), tk8 (i := 36) rfl rfl, show yX11_meetsWants.cls ≠ _ by decide +kernel, show yX11_meetsWants.cls ≠ _ by decide +kernel, show (parseMethodDescriptor yX11_meetsWants.desc).map (fun d => d.parameters.length) = _ by decide +kernel⟩, (wdA2 _ (List.mem_of_getElem? (i := 59) rfl)), wdP _ (List.mem_of_getElem? (i := 110) rfl)⟩
set_option maxRecDepth 4000 in
theorem mwX11_nextAsked : MWV mX11_nextAsked 1 := ⟨⟨(wdA1 _ (List.mem_of_getElem? (i := 82) rfl)), tk8 (i := 52) rfl rfl, show yX11_nextAsked.cls ≠ _ by decide +kernel, show yX11_nextAsked.cls ≠ _ by decide +kernel, show (parseMethodDescriptor yX11_nextAsked.desc).map (fun d => d.parameters.length) = _ by decide +kernel⟩, (wdA2 _ (List.mem_of_getElem? (i := 60) rfl)), wdP _ (List.mem_of_getElem? (i := 111) rfl)⟩
set_option maxRecDepth 4000 in
theorem mwX11_keepsFor : MWV mX11_keepsFor 2 := ⟨⟨(wdA1 _ (List.mem_of_getElem? (i := 82) rfl)), tk8 (i := 56) rfl rfl, show yX11_keepsFor.cls ≠ _ by decide +kernel, show yX11_keepsFor.cls ≠ _ by decide +kernel, show (parseMethodDescriptor yX11_keepsFor.desc).map (fun d => d.parameters.length) = _ by decide +kernel⟩, (wdA2 _ (List.mem_of_getElem? (i := 61) rfl)), wdP _ (List.mem_of_getElem? (i := 112) rfl)⟩
set_option maxRecDepth 4000 in
theorem mwX11_asksOn : MWV mX11_asksOn 1 := ⟨⟨(wdA1 _ (List.mem_of_getElem? (i := 82) rfl)), tk8 (i := 48) rfl rfl, show yX11_asksOn.cls ≠ _ by decide +kernel, show yX11_asksOn.cls ≠ _ by decide +kernel, show (parseMethodDescriptor yX11_asksOn.desc).map (fun d => d.parameters.length) = _ by decide +kernel⟩, (wdA2 _ (List.mem_of_getElem? (i := 62) rfl)), wdP _ (List.mem_of_getElem? (i := 113) rfl)⟩
set_option maxRecDepth 4000 in
theorem mwX11_canHave : MWV mX11_canHave 3 := ⟨⟨(wdA1 _ (List.mem_of_getElem? (i := 82) rfl)), tk8 (i := 72) rfl rfl, show yX11_canHave.cls ≠ _ by decide +kernel, show yX11_canHave.cls ≠ _ by decide +kernel, show (parseMethodDescriptor yX11_canHave.desc).map (fun d => d.parameters.length) = _ by decide +kernel⟩, (wdA2 _ (List.mem_of_getElem? (i := 63) rfl)), wdP _ (List.mem_of_getElem? (i := 114) rfl)⟩
set_option maxRecDepth 4000 in
theorem mwX11_laysFound : MWV mX11_laysFound 0 := ⟨⟨(wdA1 _ (List.mem_of_getElem? (i := 82) rfl)), tk8 (i := 64) rfl rfl, show yX11_laysFound.cls ≠ _ by decide +kernel, show yX11_laysFound.cls ≠ _ by decide +kernel, show (parseMethodDescriptor yX11_laysFound.desc).map (fun d => d.parameters.length) = _ by decide +kernel⟩, (wdA2 _ (List.mem_of_getElem? (i := 64) rfl)), wdP _ (List.mem_of_getElem? (i := 115) rfl)⟩
set_option maxRecDepth 4000 in
theorem mwX11_laysBest : MWV mX11_laysBest 0 := ⟨⟨(wdA1 _ (List.mem_of_getElem? (i := 82) rfl)), tk8 (i := 68) rfl rfl, show yX11_laysBest.cls ≠ _ by decide +kernel, show yX11_laysBest.cls ≠ _ by decide +kernel, show (parseMethodDescriptor yX11_laysBest.desc).map (fun d => d.parameters.length) = _ by decide +kernel⟩, (wdA2 _ (List.mem_of_getElem? (i := 65) rfl)), wdP _ (List.mem_of_getElem? (i := 116) rfl)⟩
set_option maxRecDepth 4000 in
theorem mwX11_takenBy : MWV mX11_takenBy 2 := ⟨⟨(wdA1 _ (List.mem_of_getElem? (i := 82) rfl)), tk8 (i := 76) rfl rfl, show yX11_takenBy.cls ≠ _ by decide +kernel, show yX11_takenBy.cls ≠ _ by decide +kernel, show (parseMethodDescriptor yX11_takenBy.desc).map (fun d => d.parameters.length) = _ by decide +kernel⟩, (wdA2 _ (List.mem_of_getElem? (i := 66) rfl)), wdP _ (List.mem_of_getElem? (i := 117) rfl)⟩
set_option maxRecDepth 4000 in
theorem mwX11_canBe : MWV mX11_canBe 2 := ⟨⟨(wdA1 _ (List.mem_of_getElem? (i := 82) rfl)), tk8 (i := 96) rfl rfl, show yX11_canBe.cls ≠ _ by decide +kernel, show yX11_canBe.cls ≠ _ by decide +kernel, show (parseMethodDescriptor yX11_canBe.desc).map (fun d => d.parameters.length) = _ by decide +kernel⟩, (wdA2 _ (List.mem_of_getElem? (i := 67) rfl)), wdP _ (List.mem_of_getElem? (i := 118) rfl)⟩
set_option maxRecDepth 4000 in
theorem mwX11_whoBy : MWV mX11_whoBy 1 := ⟨⟨(wdA1 _ (List.mem_of_getElem? (i := 82) rfl)), tk8 (i := 92) rfl rfl, show yX11_whoBy.cls ≠ _ by decide +kernel, show yX11_whoBy.cls ≠ _ by decide +kernel, show (parseMethodDescriptor yX11_whoBy.desc).map (fun d => d.parameters.length) = _ by decide +kernel⟩, (wdA2 _ (List.mem_of_getElem? (i := 68) rfl)), wdP _ (List.mem_of_getElem? (i := 119) rfl)⟩
set_option maxRecDepth 4000 in
theorem mwX11_count : MWS mX11_count 1 := ⟨⟨(wdA1 _ (List.mem_of_getElem? (i := 82) rfl)), tk8 (i := 103) rfl rfl, show yX11_count.cls ≠ _ by decide +kernel, show yX11_count.cls ≠ _ by decide +kernel, show (parseMethodDescriptor yX11_count.desc).map (fun d => d.parameters.length) = _ by decide +kernel⟩, (wdA2 _ (List.mem_of_getElem? (i := 69) rfl))⟩
set_option maxRecDepth 4000 in
theorem mwX11_mostAlike : MWV mX11_mostAlike 2 := ⟨⟨(wdA1 _ (List.mem_of_getElem? (i := 82) rfl)), tk8 (i := 108) rfl rfl, show yX11_mostAlike.cls ≠ _ by decide +kernel, show yX11_mostAlike.cls ≠ _ by decide +kernel, show (parseMethodDescriptor yX11_mostAlike.desc).map (fun d => d.parameters.length) = _ by decide +kernel⟩, (wdA2 _ (List.mem_of_getElem? (i := 70) rfl)), wdP _ (List.mem_of_getElem? (i := 120) rfl)⟩
set_option maxRecDepth 4000 in
theorem mwX11_isSafe : MWV mX11_isSafe 1 := ⟨⟨(wdA1 _ (List.mem_of_getElem? (i := 82) rfl)), tk8 (i := 121) rfl rfl, show yX11_isSafe.cls ≠ _ by decide +kernel, show yX11_isSafe.cls ≠ _ by decide +kernel, show (parseMethodDescriptor yX11_isSafe.desc).map (fun d => d.parameters.length) = _ by decide +kernel⟩, (wdA2 _ (List.mem_of_getElem? (i := 71) rfl)), wdP _ (List.mem_of_getElem? (i := 121) rfl)⟩
set_option maxRecDepth 4000 in
theorem mwX11_isComeTo : MWV mX11_isComeTo 2 := ⟨⟨(wdA1 _ (List.mem_of_getElem? (i := 82) rfl)), tk8 (i := 133) rfl rfl, show yX11_isComeTo.cls ≠ _ by decide +kernel, show yX11_isComeTo.cls ≠ _ by decide +kernel, show (parseMethodDescriptor yX11_isComeTo.desc).map (fun d => d.parameters.length) = _ by decide +kernel⟩, (wdA2 _ (List.mem_of_getElem? (i := 72) rfl)), wdP _ (List.mem_of_getElem? (i := 122) rfl)⟩
set_option maxRecDepth 4000 in
theorem mwX11_wayTo : MWV mX11_wayTo 2 := ⟨⟨(wdA1 _ (List.mem_of_getElem? (i := 82) rfl)), tk8 (i := 149) rfl rfl, show yX11_wayTo.cls ≠ _ by decide +kernel, show yX11_wayTo.cls ≠ _ by decide +kernel, show (parseMethodDescriptor yX11_wayTo.desc).map (fun d => d.parameters.length) = _ by decide +kernel⟩, (wdA2 _ (List.mem_of_getElem? (i := 73) rfl)), wdP _ (List.mem_of_getElem? (i := 123) rfl)⟩
set_option maxRecDepth 4000 in
theorem mwX11_goesIn : MWV mX11_goesIn 1 := ⟨⟨(wdA1 _ (List.mem_of_getElem? (i := 82) rfl)), tk8 (i := 137) rfl rfl, show yX11_goesIn.cls ≠ _ by decide +kernel, show yX11_goesIn.cls ≠ _ by decide +kernel, show (parseMethodDescriptor yX11_goesIn.desc).map (fun d => d.parameters.length) = _ by decide +kernel⟩, (wdA2 _ (List.mem_of_getElem? (i := 74) rfl)), wdP _ (List.mem_of_getElem? (i := 124) rfl)⟩
set_option maxRecDepth 4000 in
theorem mwX11_goesOut : MWV mX11_goesOut 1 := ⟨⟨(wdA1 _ (List.mem_of_getElem? (i := 82) rfl)), tk8 (i := 141) rfl rfl, show yX11_goesOut.cls ≠ _ by decide +kernel, show yX11_goesOut.cls ≠ _ by decide +kernel, show (parseMethodDescriptor yX11_goesOut.desc).map (fun d => d.parameters.length) = _ by decide +kernel⟩, (wdA2 _ (List.mem_of_getElem? (i := 75) rfl)), wdP _ (List.mem_of_getElem? (i := 125) rfl)⟩
set_option maxRecDepth 4000 in
theorem mwX11_turns : MWV mX11_turns 2 := ⟨⟨(wdA1 _ (List.mem_of_getElem? (i := 82) rfl)), tk8 (i := 145) rfl rfl, show yX11_turns.cls ≠ _ by decide +kernel, show yX11_turns.cls ≠ _ by decide +kernel, show (parseMethodDescriptor yX11_turns.desc).map (fun d => d.parameters.length) = _ by decide +kernel⟩, (wdA2 _ (List.mem_of_getElem? (i := 76) rfl)), wdP _ (List.mem_of_getElem? (i := 126) rfl)⟩
set_option maxRecDepth 4000 in
theorem mwX11_hasWay : MWV mX11_hasWay 2 := ⟨⟨(wdA1 _ (List.mem_of_getElem? (i := 82) rfl)), tk8 (i := 129) rfl rfl, show yX11_hasWay.cls ≠ _ by decide +kernel, show yX11_hasWay.cls ≠ _ by decide +kernel, show (parseMethodDescriptor yX11_hasWay.desc).map (fun d => d.parameters.length) = _ by decide +kernel⟩, (wdA2 _ (List.mem_of_getElem? (i := 77) rfl)), wdP _ (List.mem_of_getElem? (i := 127) rfl)⟩
set_option maxRecDepth 4000 in
theorem mwX11_roundsFrom : ∀ d, MWV (mX11_roundsFrom d) 3 := fun _ => ⟨⟨(wdA1 _ (List.mem_of_getElem? (i := 82) rfl)), tk8 (i := 161) rfl rfl, show yX11_roundsFrom.cls ≠ _ by decide +kernel, show yX11_roundsFrom.cls ≠ _ by decide +kernel, show (parseMethodDescriptor yX11_roundsFrom.desc).map (fun d => d.parameters.length) = _ by decide +kernel⟩, (wdA2 _ (List.mem_of_getElem? (i := 78) rfl)), wdP _ (List.mem_of_getElem? (i := 128) rfl)⟩
set_option maxRecDepth 4000 in
theorem mwX11_isAloneIn : MWV mX11_isAloneIn 2 := ⟨⟨(wdA1 _ (List.mem_of_getElem? (i := 82) rfl)), tk8 (i := 165) rfl rfl, show yX11_isAloneIn.cls ≠ _ by decide +kernel, show yX11_isAloneIn.cls ≠ _ by decide +kernel, show (parseMethodDescriptor yX11_isAloneIn.desc).map (fun d => d.parameters.length) = _ by decide +kernel⟩, (wdA2 _ (List.mem_of_getElem? (i := 79) rfl)), wdP _ (List.mem_of_getElem? (i := 129) rfl)⟩
set_option maxRecDepth 4000 in
theorem mwX11_counting : MWV mX11_counting 0 := ⟨⟨(wdA1 _ (List.mem_of_getElem? (i := 82) rfl)), tk8 (i := 157) rfl rfl, show yX11_counting.cls ≠ _ by decide +kernel, show yX11_counting.cls ≠ _ by decide +kernel, show (parseMethodDescriptor yX11_counting.desc).map (fun d => d.parameters.length) = _ by decide +kernel⟩, (wdA2 _ (List.mem_of_getElem? (i := 80) rfl)), wdP _ (List.mem_of_getElem? (i := 130) rfl)⟩
set_option maxRecDepth 4000 in
theorem mwX11_hopeOf : MWV mX11_hopeOf 1 := ⟨⟨(wdA1 _ (List.mem_of_getElem? (i := 82) rfl)), tk8 (i := 185) rfl rfl, show yX11_hopeOf.cls ≠ _ by decide +kernel, show yX11_hopeOf.cls ≠ _ by decide +kernel, show (parseMethodDescriptor yX11_hopeOf.desc).map (fun d => d.parameters.length) = _ by decide +kernel⟩, (wdA2 _ (List.mem_of_getElem? (i := 81) rfl)), wdP _ (List.mem_of_getElem? (i := 131) rfl)⟩
set_option maxRecDepth 4000 in
theorem mwX11_bareFields : MWV mX11_bareFields 0 := ⟨⟨(wdA1 _ (List.mem_of_getElem? (i := 82) rfl)), tk8 (i := 197) rfl rfl, show yX11_bareFields.cls ≠ _ by decide +kernel, show yX11_bareFields.cls ≠ _ by decide +kernel, show (parseMethodDescriptor yX11_bareFields.desc).map (fun d => d.parameters.length) = _ by decide +kernel⟩, (wdA2 _ (List.mem_of_getElem? (i := 82) rfl)), wdP _ (List.mem_of_getElem? (i := 132) rfl)⟩
set_option maxRecDepth 4000 in
theorem mwX10_state : MWV mX10_state 1 := ⟨⟨(wdA0 _ (List.mem_of_getElem? (i := 20) rfl)), tk2 (i := 195) rfl rfl, show yX10_state.cls ≠ _ by decide +kernel, show yX10_state.cls ≠ _ by decide +kernel, show (parseMethodDescriptor yX10_state.desc).map (fun d => d.parameters.length) = _ by decide +kernel⟩, (wdA2 _ (List.mem_of_getElem? (i := 83) rfl)), (wdA2 _ (List.mem_of_getElem? (i := 84) rfl))⟩
set_option maxRecDepth 4000 in
theorem mwX11_state : MWV mX11_state 1 := ⟨⟨(wdA1 _ (List.mem_of_getElem? (i := 82) rfl)), tk6 (i := 126) rfl rfl, show yX11_state.cls ≠ _ by decide +kernel, show yX11_state.cls ≠ _ by decide +kernel, show (parseMethodDescriptor yX11_state.desc).map (fun d => d.parameters.length) = _ by decide +kernel⟩, (wdA2 _ (List.mem_of_getElem? (i := 85) rfl)), (wdA2 _ (List.mem_of_getElem? (i := 86) rfl))⟩
set_option maxRecDepth 4000 in
theorem mwX10_valley : MWV mX10_valley 2 := ⟨⟨(wdA0 _ (List.mem_of_getElem? (i := 20) rfl)), tk2 (i := 199) rfl rfl, show yX10_valley.cls ≠ _ by decide +kernel, show yX10_valley.cls ≠ _ by decide +kernel, show (parseMethodDescriptor yX10_valley.desc).map (fun d => d.parameters.length) = _ by decide +kernel⟩, (wdA2 _ (List.mem_of_getElem? (i := 87) rfl)), (wdA2 _ (List.mem_of_getElem? (i := 88) rfl))⟩
set_option maxRecDepth 4000 in
theorem mwX11_valley : MWV mX11_valley 2 := ⟨⟨(wdA1 _ (List.mem_of_getElem? (i := 82) rfl)), tk6 (i := 134) rfl rfl, show yX11_valley.cls ≠ _ by decide +kernel, show yX11_valley.cls ≠ _ by decide +kernel, show (parseMethodDescriptor yX11_valley.desc).map (fun d => d.parameters.length) = _ by decide +kernel⟩, (wdA2 _ (List.mem_of_getElem? (i := 89) rfl)), (wdA2 _ (List.mem_of_getElem? (i := 90) rfl))⟩
set_option maxRecDepth 4000 in
theorem mwX10_person : MWV mX10_person 4 := ⟨⟨(wdA0 _ (List.mem_of_getElem? (i := 20) rfl)), tk2 (i := 204) rfl rfl, show yX10_person.cls ≠ _ by decide +kernel, show yX10_person.cls ≠ _ by decide +kernel, show (parseMethodDescriptor yX10_person.desc).map (fun d => d.parameters.length) = _ by decide +kernel⟩, (wdA2 _ (List.mem_of_getElem? (i := 91) rfl)), (wdA2 _ (List.mem_of_getElem? (i := 92) rfl))⟩
set_option maxRecDepth 4000 in
theorem mwX11_person : MWV mX11_person 4 := ⟨⟨(wdA1 _ (List.mem_of_getElem? (i := 82) rfl)), tk6 (i := 138) rfl rfl, show yX11_person.cls ≠ _ by decide +kernel, show yX11_person.cls ≠ _ by decide +kernel, show (parseMethodDescriptor yX11_person.desc).map (fun d => d.parameters.length) = _ by decide +kernel⟩, (wdA2 _ (List.mem_of_getElem? (i := 93) rfl)), (wdA2 _ (List.mem_of_getElem? (i := 94) rfl))⟩
set_option maxRecDepth 4000 in
theorem mwX10_set : MWV mX10_set 3 := ⟨⟨(wdA0 _ (List.mem_of_getElem? (i := 20) rfl)), tk2 (i := 219) rfl rfl, show yX10_set.cls ≠ _ by decide +kernel, show yX10_set.cls ≠ _ by decide +kernel, show (parseMethodDescriptor yX10_set.desc).map (fun d => d.parameters.length) = _ by decide +kernel⟩, (wdA2 _ (List.mem_of_getElem? (i := 95) rfl)), (wdA2 _ (List.mem_of_getElem? (i := 96) rfl))⟩
set_option maxRecDepth 4000 in
theorem mwX11_set : MWV mX11_set 3 := ⟨⟨(wdA1 _ (List.mem_of_getElem? (i := 82) rfl)), tk6 (i := 142) rfl rfl, show yX11_set.cls ≠ _ by decide +kernel, show yX11_set.cls ≠ _ by decide +kernel, show (parseMethodDescriptor yX11_set.desc).map (fun d => d.parameters.length) = _ by decide +kernel⟩, (wdA2 _ (List.mem_of_getElem? (i := 97) rfl)), (wdA2 _ (List.mem_of_getElem? (i := 98) rfl))⟩
set_option maxRecDepth 4000 in
theorem mwX10_kin : MWV mX10_kin 3 := ⟨⟨(wdA0 _ (List.mem_of_getElem? (i := 20) rfl)), tk2 (i := 235) rfl rfl, show yX10_kin.cls ≠ _ by decide +kernel, show yX10_kin.cls ≠ _ by decide +kernel, show (parseMethodDescriptor yX10_kin.desc).map (fun d => d.parameters.length) = _ by decide +kernel⟩, (wdA2 _ (List.mem_of_getElem? (i := 99) rfl)), (wdA3 _ (List.mem_of_getElem? (i := 0) rfl))⟩
set_option maxRecDepth 4000 in
theorem mwX11_kin : MWV mX11_kin 3 := ⟨⟨(wdA1 _ (List.mem_of_getElem? (i := 82) rfl)), tk6 (i := 157) rfl rfl, show yX11_kin.cls ≠ _ by decide +kernel, show yX11_kin.cls ≠ _ by decide +kernel, show (parseMethodDescriptor yX11_kin.desc).map (fun d => d.parameters.length) = _ by decide +kernel⟩, (wdA3 _ (List.mem_of_getElem? (i := 1) rfl)), (wdA3 _ (List.mem_of_getElem? (i := 2) rfl))⟩
set_option maxRecDepth 4000 in
theorem mwX10_vow : MWV mX10_vow 3 := ⟨⟨(wdA0 _ (List.mem_of_getElem? (i := 20) rfl)), tk3 (i := 8) rfl rfl, show yX10_vow.cls ≠ _ by decide +kernel, show yX10_vow.cls ≠ _ by decide +kernel, show (parseMethodDescriptor yX10_vow.desc).map (fun d => d.parameters.length) = _ by decide +kernel⟩, (wdA3 _ (List.mem_of_getElem? (i := 3) rfl)), (wdA3 _ (List.mem_of_getElem? (i := 4) rfl))⟩
set_option maxRecDepth 4000 in
theorem mwX11_vow : MWV mX11_vow 3 := ⟨⟨(wdA1 _ (List.mem_of_getElem? (i := 82) rfl)), tk7 (i := 103) rfl rfl, show yX11_vow.cls ≠ _ by decide +kernel, show yX11_vow.cls ≠ _ by decide +kernel, show (parseMethodDescriptor yX11_vow.desc).map (fun d => d.parameters.length) = _ by decide +kernel⟩, (wdA3 _ (List.mem_of_getElem? (i := 5) rfl)), (wdA3 _ (List.mem_of_getElem? (i := 6) rfl))⟩
set_option maxRecDepth 4000 in
theorem mwX10_part : MWV mX10_part 2 := ⟨⟨(wdA0 _ (List.mem_of_getElem? (i := 20) rfl)), tk3 (i := 104) rfl rfl, show yX10_part.cls ≠ _ by decide +kernel, show yX10_part.cls ≠ _ by decide +kernel, show (parseMethodDescriptor yX10_part.desc).map (fun d => d.parameters.length) = _ by decide +kernel⟩, (wdA3 _ (List.mem_of_getElem? (i := 7) rfl)), (wdA3 _ (List.mem_of_getElem? (i := 8) rfl))⟩
set_option maxRecDepth 4000 in
theorem mwX11_part : MWV mX11_part 2 := ⟨⟨(wdA1 _ (List.mem_of_getElem? (i := 82) rfl)), tk7 (i := 190) rfl rfl, show yX11_part.cls ≠ _ by decide +kernel, show yX11_part.cls ≠ _ by decide +kernel, show (parseMethodDescriptor yX11_part.desc).map (fun d => d.parameters.length) = _ by decide +kernel⟩, (wdA3 _ (List.mem_of_getElem? (i := 9) rfl)), (wdA3 _ (List.mem_of_getElem? (i := 10) rfl))⟩
set_option maxRecDepth 4000 in
theorem mwX10_sweep : MWV mX10_sweep 1 := ⟨⟨(wdA0 _ (List.mem_of_getElem? (i := 20) rfl)), tk3 (i := 109) rfl rfl, show yX10_sweep.cls ≠ _ by decide +kernel, show yX10_sweep.cls ≠ _ by decide +kernel, show (parseMethodDescriptor yX10_sweep.desc).map (fun d => d.parameters.length) = _ by decide +kernel⟩, (wdA3 _ (List.mem_of_getElem? (i := 11) rfl)), (wdA3 _ (List.mem_of_getElem? (i := 12) rfl))⟩
set_option maxRecDepth 4000 in
theorem mwX11_sweep : MWV mX11_sweep 1 := ⟨⟨(wdA1 _ (List.mem_of_getElem? (i := 82) rfl)), tk7 (i := 194) rfl rfl, show yX11_sweep.cls ≠ _ by decide +kernel, show yX11_sweep.cls ≠ _ by decide +kernel, show (parseMethodDescriptor yX11_sweep.desc).map (fun d => d.parameters.length) = _ by decide +kernel⟩, (wdA3 _ (List.mem_of_getElem? (i := 13) rfl)), (wdA3 _ (List.mem_of_getElem? (i := 14) rfl))⟩
set_option maxRecDepth 4000 in
theorem mwX10_days : MWV mX10_days 1 := ⟨⟨(wdA0 _ (List.mem_of_getElem? (i := 20) rfl)), tk3 (i := 113) rfl rfl, show yX10_days.cls ≠ _ by decide +kernel, show yX10_days.cls ≠ _ by decide +kernel, show (parseMethodDescriptor yX10_days.desc).map (fun d => d.parameters.length) = _ by decide +kernel⟩, (wdA3 _ (List.mem_of_getElem? (i := 15) rfl)), (wdA3 _ (List.mem_of_getElem? (i := 16) rfl))⟩
set_option maxRecDepth 4000 in
theorem mwX11_days : MWV mX11_days 1 := ⟨⟨(wdA1 _ (List.mem_of_getElem? (i := 82) rfl)), tk7 (i := 198) rfl rfl, show yX11_days.cls ≠ _ by decide +kernel, show yX11_days.cls ≠ _ by decide +kernel, show (parseMethodDescriptor yX11_days.desc).map (fun d => d.parameters.length) = _ by decide +kernel⟩, (wdA3 _ (List.mem_of_getElem? (i := 17) rfl)), (wdA3 _ (List.mem_of_getElem? (i := 18) rfl))⟩
set_option maxRecDepth 4000 in
theorem mwX10_feed : MWV mX10_feed 5 := ⟨⟨(wdA0 _ (List.mem_of_getElem? (i := 20) rfl)), tk3 (i := 150) rfl rfl, show yX10_feed.cls ≠ _ by decide +kernel, show yX10_feed.cls ≠ _ by decide +kernel, show (parseMethodDescriptor yX10_feed.desc).map (fun d => d.parameters.length) = _ by decide +kernel⟩, (wdA3 _ (List.mem_of_getElem? (i := 19) rfl)), (wdA3 _ (List.mem_of_getElem? (i := 20) rfl))⟩
set_option maxRecDepth 4000 in
theorem mwX11_feed : MWV mX11_feed 5 := ⟨⟨(wdA1 _ (List.mem_of_getElem? (i := 82) rfl)), tk6 (i := 161) rfl rfl, show yX11_feed.cls ≠ _ by decide +kernel, show yX11_feed.cls ≠ _ by decide +kernel, show (parseMethodDescriptor yX11_feed.desc).map (fun d => d.parameters.length) = _ by decide +kernel⟩, (wdA3 _ (List.mem_of_getElem? (i := 21) rfl)), (wdA3 _ (List.mem_of_getElem? (i := 22) rfl))⟩
set_option maxRecDepth 4000 in
theorem mwX10_end : MWV mX10_end 1 := ⟨⟨(wdA0 _ (List.mem_of_getElem? (i := 20) rfl)), tk3 (i := 158) rfl rfl, show yX10_end.cls ≠ _ by decide +kernel, show yX10_end.cls ≠ _ by decide +kernel, show (parseMethodDescriptor yX10_end.desc).map (fun d => d.parameters.length) = _ by decide +kernel⟩, (wdA3 _ (List.mem_of_getElem? (i := 23) rfl)), (wdA3 _ (List.mem_of_getElem? (i := 24) rfl))⟩
set_option maxRecDepth 4000 in
theorem mwX11_end : MWV mX11_end 1 := ⟨⟨(wdA1 _ (List.mem_of_getElem? (i := 82) rfl)), tk6 (i := 165) rfl rfl, show yX11_end.cls ≠ _ by decide +kernel, show yX11_end.cls ≠ _ by decide +kernel, show (parseMethodDescriptor yX11_end.desc).map (fun d => d.parameters.length) = _ by decide +kernel⟩, (wdA3 _ (List.mem_of_getElem? (i := 25) rfl)), (wdA3 _ (List.mem_of_getElem? (i := 26) rfl))⟩
set_option maxRecDepth 4000 in
theorem mwX10_text : MWV mX10_text 1 := ⟨⟨(wdA0 _ (List.mem_of_getElem? (i := 20) rfl)), tk3 (i := 162) rfl rfl, show yX10_text.cls ≠ _ by decide +kernel, show yX10_text.cls ≠ _ by decide +kernel, show (parseMethodDescriptor yX10_text.desc).map (fun d => d.parameters.length) = _ by decide +kernel⟩, (wdA3 _ (List.mem_of_getElem? (i := 27) rfl)), (wdA3 _ (List.mem_of_getElem? (i := 28) rfl))⟩
set_option maxRecDepth 4000 in
theorem mwX11_text : MWV mX11_text 1 := ⟨⟨(wdA1 _ (List.mem_of_getElem? (i := 82) rfl)), tk6 (i := 169) rfl rfl, show yX11_text.cls ≠ _ by decide +kernel, show yX11_text.cls ≠ _ by decide +kernel, show (parseMethodDescriptor yX11_text.desc).map (fun d => d.parameters.length) = _ by decide +kernel⟩, (wdA3 _ (List.mem_of_getElem? (i := 29) rfl)), (wdA3 _ (List.mem_of_getElem? (i := 30) rfl))⟩
set_option maxRecDepth 4000 in
theorem mwX10_fault : MWV mX10_fault 1 := ⟨⟨(wdA0 _ (List.mem_of_getElem? (i := 20) rfl)), tk4 (i := 165) rfl rfl, show yX10_fault.cls ≠ _ by decide +kernel, show yX10_fault.cls ≠ _ by decide +kernel, show (parseMethodDescriptor yX10_fault.desc).map (fun d => d.parameters.length) = _ by decide +kernel⟩, (wdA3 _ (List.mem_of_getElem? (i := 31) rfl)), (wdA3 _ (List.mem_of_getElem? (i := 32) rfl))⟩
set_option maxRecDepth 4000 in
theorem mwX11_fault : MWV mX11_fault 1 := ⟨⟨(wdA1 _ (List.mem_of_getElem? (i := 82) rfl)), tk7 (i := 95) rfl rfl, show yX11_fault.cls ≠ _ by decide +kernel, show yX11_fault.cls ≠ _ by decide +kernel, show (parseMethodDescriptor yX11_fault.desc).map (fun d => d.parameters.length) = _ by decide +kernel⟩, (wdA3 _ (List.mem_of_getElem? (i := 33) rfl)), (wdA3 _ (List.mem_of_getElem? (i := 34) rfl))⟩
set_option maxRecDepth 4000 in
theorem mwX10_of : MWV mX10_of 2 := ⟨⟨(wdA0 _ (List.mem_of_getElem? (i := 20) rfl)), tk4 (i := 169) rfl rfl, show yX10_of.cls ≠ _ by decide +kernel, show yX10_of.cls ≠ _ by decide +kernel, show (parseMethodDescriptor yX10_of.desc).map (fun d => d.parameters.length) = _ by decide +kernel⟩, (wdA3 _ (List.mem_of_getElem? (i := 35) rfl)), (wdA3 _ (List.mem_of_getElem? (i := 36) rfl))⟩
set_option maxRecDepth 4000 in
theorem mwX11_of : MWV mX11_of 2 := ⟨⟨(wdA1 _ (List.mem_of_getElem? (i := 82) rfl)), tk7 (i := 236) rfl rfl, show yX11_of.cls ≠ _ by decide +kernel, show yX11_of.cls ≠ _ by decide +kernel, show (parseMethodDescriptor yX11_of.desc).map (fun d => d.parameters.length) = _ by decide +kernel⟩, (wdA3 _ (List.mem_of_getElem? (i := 37) rfl)), (wdA3 _ (List.mem_of_getElem? (i := 38) rfl))⟩
set_option maxRecDepth 4000 in
theorem mwX10_match : MWV mX10_match 3 := ⟨⟨(wdA0 _ (List.mem_of_getElem? (i := 20) rfl)), tk4 (i := 173) rfl rfl, show yX10_match.cls ≠ _ by decide +kernel, show yX10_match.cls ≠ _ by decide +kernel, show (parseMethodDescriptor yX10_match.desc).map (fun d => d.parameters.length) = _ by decide +kernel⟩, (wdA3 _ (List.mem_of_getElem? (i := 39) rfl)), (wdA3 _ (List.mem_of_getElem? (i := 40) rfl))⟩
set_option maxRecDepth 4000 in
theorem mwX11_match : MWV mX11_match 3 := ⟨⟨(wdA1 _ (List.mem_of_getElem? (i := 82) rfl)), tk8 (i := 0) rfl rfl, show yX11_match.cls ≠ _ by decide +kernel, show yX11_match.cls ≠ _ by decide +kernel, show (parseMethodDescriptor yX11_match.desc).map (fun d => d.parameters.length) = _ by decide +kernel⟩, (wdA3 _ (List.mem_of_getElem? (i := 41) rfl)), (wdA3 _ (List.mem_of_getElem? (i := 42) rfl))⟩
set_option maxRecDepth 4000 in
theorem mwX10_at : MWV mX10_at 2 := ⟨⟨(wdA0 _ (List.mem_of_getElem? (i := 20) rfl)), tk4 (i := 182) rfl rfl, show yX10_at.cls ≠ _ by decide +kernel, show yX10_at.cls ≠ _ by decide +kernel, show (parseMethodDescriptor yX10_at.desc).map (fun d => d.parameters.length) = _ by decide +kernel⟩, (wdA3 _ (List.mem_of_getElem? (i := 43) rfl)), (wdA3 _ (List.mem_of_getElem? (i := 44) rfl))⟩
set_option maxRecDepth 4000 in
theorem mwX11_at : MWV mX11_at 2 := ⟨⟨(wdA1 _ (List.mem_of_getElem? (i := 82) rfl)), tk8 (i := 4) rfl rfl, show yX11_at.cls ≠ _ by decide +kernel, show yX11_at.cls ≠ _ by decide +kernel, show (parseMethodDescriptor yX11_at.desc).map (fun d => d.parameters.length) = _ by decide +kernel⟩, (wdA3 _ (List.mem_of_getElem? (i := 45) rfl)), (wdA3 _ (List.mem_of_getElem? (i := 46) rfl))⟩
set_option maxRecDepth 4000 in
theorem mwX10_lift : MWV mX10_lift 4 := ⟨⟨(wdA0 _ (List.mem_of_getElem? (i := 20) rfl)), tk4 (i := 187) rfl rfl, show yX10_lift.cls ≠ _ by decide +kernel, show yX10_lift.cls ≠ _ by decide +kernel, show (parseMethodDescriptor yX10_lift.desc).map (fun d => d.parameters.length) = _ by decide +kernel⟩, (wdA3 _ (List.mem_of_getElem? (i := 47) rfl)), (wdA3 _ (List.mem_of_getElem? (i := 48) rfl))⟩
set_option maxRecDepth 4000 in
theorem mwX11_lift : MWV mX11_lift 4 := ⟨⟨(wdA1 _ (List.mem_of_getElem? (i := 82) rfl)), tk8 (i := 8) rfl rfl, show yX11_lift.cls ≠ _ by decide +kernel, show yX11_lift.cls ≠ _ by decide +kernel, show (parseMethodDescriptor yX11_lift.desc).map (fun d => d.parameters.length) = _ by decide +kernel⟩, (wdA3 _ (List.mem_of_getElem? (i := 49) rfl)), (wdA3 _ (List.mem_of_getElem? (i := 50) rfl))⟩
set_option maxRecDepth 4000 in
theorem mwX10_weather : MWV mX10_weather 1 := ⟨⟨(wdA0 _ (List.mem_of_getElem? (i := 20) rfl)), tk4 (i := 193) rfl rfl, show yX10_weather.cls ≠ _ by decide +kernel, show yX10_weather.cls ≠ _ by decide +kernel, show (parseMethodDescriptor yX10_weather.desc).map (fun d => d.parameters.length) = _ by decide +kernel⟩, (wdA3 _ (List.mem_of_getElem? (i := 51) rfl)), (wdA3 _ (List.mem_of_getElem? (i := 52) rfl))⟩
set_option maxRecDepth 4000 in
theorem mwX11_weather : MWV mX11_weather 1 := ⟨⟨(wdA1 _ (List.mem_of_getElem? (i := 82) rfl)), tk8 (i := 12) rfl rfl, show yX11_weather.cls ≠ _ by decide +kernel, show yX11_weather.cls ≠ _ by decide +kernel, show (parseMethodDescriptor yX11_weather.desc).map (fun d => d.parameters.length) = _ by decide +kernel⟩, (wdA3 _ (List.mem_of_getElem? (i := 53) rfl)), (wdA3 _ (List.mem_of_getElem? (i := 54) rfl))⟩
set_option maxRecDepth 4000 in
theorem mwX10_book : MWV mX10_book 2 := ⟨⟨(wdA0 _ (List.mem_of_getElem? (i := 20) rfl)), tk4 (i := 198) rfl rfl, show yX10_book.cls ≠ _ by decide +kernel, show yX10_book.cls ≠ _ by decide +kernel, show (parseMethodDescriptor yX10_book.desc).map (fun d => d.parameters.length) = _ by decide +kernel⟩, (wdA3 _ (List.mem_of_getElem? (i := 55) rfl)), (wdA3 _ (List.mem_of_getElem? (i := 56) rfl))⟩
set_option maxRecDepth 4000 in
theorem mwX11_book : MWV mX11_book 2 := ⟨⟨(wdA1 _ (List.mem_of_getElem? (i := 82) rfl)), tk8 (i := 16) rfl rfl, show yX11_book.cls ≠ _ by decide +kernel, show yX11_book.cls ≠ _ by decide +kernel, show (parseMethodDescriptor yX11_book.desc).map (fun d => d.parameters.length) = _ by decide +kernel⟩, (wdA3 _ (List.mem_of_getElem? (i := 57) rfl)), (wdA3 _ (List.mem_of_getElem? (i := 58) rfl))⟩
set_option maxRecDepth 4000 in
theorem mwX10_lies : MWV mX10_lies 2 := ⟨⟨(wdA0 _ (List.mem_of_getElem? (i := 20) rfl)), tk4 (i := 203) rfl rfl, show yX10_lies.cls ≠ _ by decide +kernel, show yX10_lies.cls ≠ _ by decide +kernel, show (parseMethodDescriptor yX10_lies.desc).map (fun d => d.parameters.length) = _ by decide +kernel⟩, (wdA3 _ (List.mem_of_getElem? (i := 59) rfl)), (wdA3 _ (List.mem_of_getElem? (i := 60) rfl))⟩
set_option maxRecDepth 4000 in
theorem mwX11_lies : MWV mX11_lies 2 := ⟨⟨(wdA1 _ (List.mem_of_getElem? (i := 82) rfl)), tk8 (i := 20) rfl rfl, show yX11_lies.cls ≠ _ by decide +kernel, show yX11_lies.cls ≠ _ by decide +kernel, show (parseMethodDescriptor yX11_lies.desc).map (fun d => d.parameters.length) = _ by decide +kernel⟩, (wdA3 _ (List.mem_of_getElem? (i := 61) rfl)), (wdA3 _ (List.mem_of_getElem? (i := 62) rfl))⟩
set_option maxRecDepth 4000 in
theorem mwX10_meets : MWV mX10_meets 1 := ⟨⟨(wdA0 _ (List.mem_of_getElem? (i := 20) rfl)), tk4 (i := 221) rfl rfl, show yX10_meets.cls ≠ _ by decide +kernel, show yX10_meets.cls ≠ _ by decide +kernel, show (parseMethodDescriptor yX10_meets.desc).map (fun d => d.parameters.length) = _ by decide +kernel⟩, (wdA3 _ (List.mem_of_getElem? (i := 63) rfl)), (wdA3 _ (List.mem_of_getElem? (i := 64) rfl))⟩
set_option maxRecDepth 4000 in
theorem mwX11_meets : MWV mX11_meets 1 := ⟨⟨(wdA1 _ (List.mem_of_getElem? (i := 82) rfl)), tk8 (i := 32) rfl rfl, show yX11_meets.cls ≠ _ by decide +kernel, show yX11_meets.cls ≠ _ by decide +kernel, show (parseMethodDescriptor yX11_meets.desc).map (fun d => d.parameters.length) = _ by decide +kernel⟩, (wdA3 _ (List.mem_of_getElem? (i := 65) rfl)), (wdA3 _ (List.mem_of_getElem? (i := 66) rfl))⟩
set_option maxRecDepth 4000 in
theorem mwX10_stable : MWV mX10_stable 1 := ⟨⟨(wdA0 _ (List.mem_of_getElem? (i := 20) rfl)), tk5 (i := 11) rfl rfl, show yX10_stable.cls ≠ _ by decide +kernel, show yX10_stable.cls ≠ _ by decide +kernel, show (parseMethodDescriptor yX10_stable.desc).map (fun d => d.parameters.length) = _ by decide +kernel⟩, (wdA3 _ (List.mem_of_getElem? (i := 67) rfl)), (wdA3 _ (List.mem_of_getElem? (i := 68) rfl))⟩
set_option maxRecDepth 4000 in
theorem mwX11_stable : MWV mX11_stable 1 := ⟨⟨(wdA1 _ (List.mem_of_getElem? (i := 82) rfl)), tk8 (i := 44) rfl rfl, show yX11_stable.cls ≠ _ by decide +kernel, show yX11_stable.cls ≠ _ by decide +kernel, show (parseMethodDescriptor yX11_stable.desc).map (fun d => d.parameters.length) = _ by decide +kernel⟩, (wdA3 _ (List.mem_of_getElem? (i := 69) rfl)), (wdA3 _ (List.mem_of_getElem? (i := 70) rfl))⟩
set_option maxRecDepth 4000 in
theorem mwX10_best : MWV mX10_best 1 := ⟨⟨(wdA0 _ (List.mem_of_getElem? (i := 20) rfl)), tk5 (i := 30) rfl rfl, show yX10_best.cls ≠ _ by decide +kernel, show yX10_best.cls ≠ _ by decide +kernel, show (parseMethodDescriptor yX10_best.desc).map (fun d => d.parameters.length) = _ by decide +kernel⟩, (wdA3 _ (List.mem_of_getElem? (i := 71) rfl)), (wdA3 _ (List.mem_of_getElem? (i := 72) rfl))⟩
set_option maxRecDepth 4000 in
theorem mwX11_best : MWV mX11_best 1 := ⟨⟨(wdA1 _ (List.mem_of_getElem? (i := 82) rfl)), tk8 (i := 60) rfl rfl, show yX11_best.cls ≠ _ by decide +kernel, show yX11_best.cls ≠ _ by decide +kernel, show (parseMethodDescriptor yX11_best.desc).map (fun d => d.parameters.length) = _ by decide +kernel⟩, (wdA3 _ (List.mem_of_getElem? (i := 73) rfl)), (wdA3 _ (List.mem_of_getElem? (i := 74) rfl))⟩
set_option maxRecDepth 4000 in
theorem mwX10_bares : MWV mX10_bares 2 := ⟨⟨(wdA0 _ (List.mem_of_getElem? (i := 20) rfl)), tk5 (i := 58) rfl rfl, show yX10_bares.cls ≠ _ by decide +kernel, show yX10_bares.cls ≠ _ by decide +kernel, show (parseMethodDescriptor yX10_bares.desc).map (fun d => d.parameters.length) = _ by decide +kernel⟩, (wdA3 _ (List.mem_of_getElem? (i := 75) rfl)), (wdA3 _ (List.mem_of_getElem? (i := 76) rfl))⟩
set_option maxRecDepth 4000 in
theorem mwX11_bares : MWV mX11_bares 2 := ⟨⟨(wdA1 _ (List.mem_of_getElem? (i := 82) rfl)), tk8 (i := 80) rfl rfl, show yX11_bares.cls ≠ _ by decide +kernel, show yX11_bares.cls ≠ _ by decide +kernel, show (parseMethodDescriptor yX11_bares.desc).map (fun d => d.parameters.length) = _ by decide +kernel⟩, (wdA3 _ (List.mem_of_getElem? (i := 77) rfl)), (wdA3 _ (List.mem_of_getElem? (i := 78) rfl))⟩
set_option maxRecDepth 4000 in
theorem mwX10_stir : MWV mX10_stir 3 := ⟨⟨(wdA0 _ (List.mem_of_getElem? (i := 20) rfl)), tk5 (i := 73) rfl rfl, show yX10_stir.cls ≠ _ by decide +kernel, show yX10_stir.cls ≠ _ by decide +kernel, show (parseMethodDescriptor yX10_stir.desc).map (fun d => d.parameters.length) = _ by decide +kernel⟩, (wdA3 _ (List.mem_of_getElem? (i := 79) rfl)), (wdA3 _ (List.mem_of_getElem? (i := 80) rfl))⟩
set_option maxRecDepth 4000 in
theorem mwX11_stir : MWV mX11_stir 3 := ⟨⟨(wdA1 _ (List.mem_of_getElem? (i := 82) rfl)), tk8 (i := 84) rfl rfl, show yX11_stir.cls ≠ _ by decide +kernel, show yX11_stir.cls ≠ _ by decide +kernel, show (parseMethodDescriptor yX11_stir.desc).map (fun d => d.parameters.length) = _ by decide +kernel⟩, (wdA3 _ (List.mem_of_getElem? (i := 81) rfl)), (wdA3 _ (List.mem_of_getElem? (i := 82) rfl))⟩
set_option maxRecDepth 4000 in
theorem mwX10_who : MWV mX10_who 1 := ⟨⟨(wdA0 _ (List.mem_of_getElem? (i := 20) rfl)), tk5 (i := 78) rfl rfl, show yX10_who.cls ≠ _ by decide +kernel, show yX10_who.cls ≠ _ by decide +kernel, show (parseMethodDescriptor yX10_who.desc).map (fun d => d.parameters.length) = _ by decide +kernel⟩, (wdA3 _ (List.mem_of_getElem? (i := 83) rfl)), (wdA3 _ (List.mem_of_getElem? (i := 84) rfl))⟩
set_option maxRecDepth 4000 in
theorem mwX11_who : MWV mX11_who 1 := ⟨⟨(wdA1 _ (List.mem_of_getElem? (i := 82) rfl)), tk8 (i := 88) rfl rfl, show yX11_who.cls ≠ _ by decide +kernel, show yX11_who.cls ≠ _ by decide +kernel, show (parseMethodDescriptor yX11_who.desc).map (fun d => d.parameters.length) = _ by decide +kernel⟩, (wdA3 _ (List.mem_of_getElem? (i := 85) rfl)), (wdA3 _ (List.mem_of_getElem? (i := 86) rfl))⟩
set_option maxRecDepth 4000 in
theorem mwX10_ask : MWV mX10_ask 1 := ⟨⟨(wdA0 _ (List.mem_of_getElem? (i := 20) rfl)), tk5 (i := 90) rfl rfl, show yX10_ask.cls ≠ _ by decide +kernel, show yX10_ask.cls ≠ _ by decide +kernel, show (parseMethodDescriptor yX10_ask.desc).map (fun d => d.parameters.length) = _ by decide +kernel⟩, (wdA3 _ (List.mem_of_getElem? (i := 87) rfl)), (wdA3 _ (List.mem_of_getElem? (i := 88) rfl))⟩
set_option maxRecDepth 4000 in
theorem mwX11_ask : MWV mX11_ask 1 := ⟨⟨(wdA1 _ (List.mem_of_getElem? (i := 82) rfl)), tk8 (i := 100) rfl rfl, show yX11_ask.cls ≠ _ by decide +kernel, show yX11_ask.cls ≠ _ by decide +kernel, show (parseMethodDescriptor yX11_ask.desc).map (fun d => d.parameters.length) = _ by decide +kernel⟩, (wdA3 _ (List.mem_of_getElem? (i := 89) rfl)), (wdA3 _ (List.mem_of_getElem? (i := 90) rfl))⟩
set_option maxRecDepth 4000 in
theorem mwX10_safe : MWV mX10_safe 2 := ⟨⟨(wdA0 _ (List.mem_of_getElem? (i := 20) rfl)), tk5 (i := 110) rfl rfl, show yX10_safe.cls ≠ _ by decide +kernel, show yX10_safe.cls ≠ _ by decide +kernel, show (parseMethodDescriptor yX10_safe.desc).map (fun d => d.parameters.length) = _ by decide +kernel⟩, (wdA3 _ (List.mem_of_getElem? (i := 91) rfl)), (wdA3 _ (List.mem_of_getElem? (i := 92) rfl))⟩
set_option maxRecDepth 4000 in
theorem mwX11_safe : MWV mX11_safe 2 := ⟨⟨(wdA1 _ (List.mem_of_getElem? (i := 82) rfl)), tk8 (i := 117) rfl rfl, show yX11_safe.cls ≠ _ by decide +kernel, show yX11_safe.cls ≠ _ by decide +kernel, show (parseMethodDescriptor yX11_safe.desc).map (fun d => d.parameters.length) = _ by decide +kernel⟩, (wdA3 _ (List.mem_of_getElem? (i := 93) rfl)), (wdA3 _ (List.mem_of_getElem? (i := 94) rfl))⟩
set_option maxRecDepth 4000 in
theorem mwX10_cut : MWV mX10_cut 2 := ⟨⟨(wdA0 _ (List.mem_of_getElem? (i := 20) rfl)), tk5 (i := 123) rfl rfl, show yX10_cut.cls ≠ _ by decide +kernel, show yX10_cut.cls ≠ _ by decide +kernel, show (parseMethodDescriptor yX10_cut.desc).map (fun d => d.parameters.length) = _ by decide +kernel⟩, (wdA3 _ (List.mem_of_getElem? (i := 95) rfl)), (wdA3 _ (List.mem_of_getElem? (i := 96) rfl))⟩
set_option maxRecDepth 4000 in
theorem mwX11_cut : MWV mX11_cut 2 := ⟨⟨(wdA1 _ (List.mem_of_getElem? (i := 82) rfl)), tk8 (i := 125) rfl rfl, show yX11_cut.cls ≠ _ by decide +kernel, show yX11_cut.cls ≠ _ by decide +kernel, show (parseMethodDescriptor yX11_cut.desc).map (fun d => d.parameters.length) = _ by decide +kernel⟩, (wdA3 _ (List.mem_of_getElem? (i := 97) rfl)), (wdA3 _ (List.mem_of_getElem? (i := 98) rfl))⟩
set_option maxRecDepth 4000 in
theorem mwX10_rounds : MWV mX10_rounds 1 := ⟨⟨(wdA0 _ (List.mem_of_getElem? (i := 20) rfl)), tk5 (i := 147) rfl rfl, show yX10_rounds.cls ≠ _ by decide +kernel, show yX10_rounds.cls ≠ _ by decide +kernel, show (parseMethodDescriptor yX10_rounds.desc).map (fun d => d.parameters.length) = _ by decide +kernel⟩, (wdA3 _ (List.mem_of_getElem? (i := 99) rfl)), (wdA4 _ (List.mem_of_getElem? (i := 0) rfl))⟩
set_option maxRecDepth 4000 in
theorem mwX11_rounds : MWV mX11_rounds 1 := ⟨⟨(wdA1 _ (List.mem_of_getElem? (i := 82) rfl)), tk8 (i := 153) rfl rfl, show yX11_rounds.cls ≠ _ by decide +kernel, show yX11_rounds.cls ≠ _ by decide +kernel, show (parseMethodDescriptor yX11_rounds.desc).map (fun d => d.parameters.length) = _ by decide +kernel⟩, (wdA4 _ (List.mem_of_getElem? (i := 1) rfl)), (wdA4 _ (List.mem_of_getElem? (i := 2) rfl))⟩
set_option maxRecDepth 4000 in
theorem mwX10_comes : MWV mX10_comes 2 := ⟨⟨(wdA0 _ (List.mem_of_getElem? (i := 20) rfl)), tk5 (i := 169) rfl rfl, show yX10_comes.cls ≠ _ by decide +kernel, show yX10_comes.cls ≠ _ by decide +kernel, show (parseMethodDescriptor yX10_comes.desc).map (fun d => d.parameters.length) = _ by decide +kernel⟩, (wdA4 _ (List.mem_of_getElem? (i := 3) rfl)), (wdA4 _ (List.mem_of_getElem? (i := 4) rfl))⟩
set_option maxRecDepth 4000 in
theorem mwX11_comes : MWV mX11_comes 2 := ⟨⟨(wdA1 _ (List.mem_of_getElem? (i := 82) rfl)), tk8 (i := 169) rfl rfl, show yX11_comes.cls ≠ _ by decide +kernel, show yX11_comes.cls ≠ _ by decide +kernel, show (parseMethodDescriptor yX11_comes.desc).map (fun d => d.parameters.length) = _ by decide +kernel⟩, (wdA4 _ (List.mem_of_getElem? (i := 5) rfl)), (wdA4 _ (List.mem_of_getElem? (i := 6) rfl))⟩
set_option maxRecDepth 4000 in
theorem mwX10_asks : MWV mX10_asks 0 := ⟨⟨(wdA0 _ (List.mem_of_getElem? (i := 20) rfl)), tk5 (i := 174) rfl rfl, show yX10_asks.cls ≠ _ by decide +kernel, show yX10_asks.cls ≠ _ by decide +kernel, show (parseMethodDescriptor yX10_asks.desc).map (fun d => d.parameters.length) = _ by decide +kernel⟩, (wdA4 _ (List.mem_of_getElem? (i := 7) rfl)), (wdA4 _ (List.mem_of_getElem? (i := 8) rfl))⟩
set_option maxRecDepth 4000 in
theorem mwX11_asks : MWV mX11_asks 0 := ⟨⟨(wdA1 _ (List.mem_of_getElem? (i := 82) rfl)), tk8 (i := 173) rfl rfl, show yX11_asks.cls ≠ _ by decide +kernel, show yX11_asks.cls ≠ _ by decide +kernel, show (parseMethodDescriptor yX11_asks.desc).map (fun d => d.parameters.length) = _ by decide +kernel⟩, (wdA4 _ (List.mem_of_getElem? (i := 9) rfl)), (wdA4 _ (List.mem_of_getElem? (i := 10) rfl))⟩
set_option maxRecDepth 4000 in
theorem mwX10_tribe : MWV mX10_tribe 1 := ⟨⟨(wdA0 _ (List.mem_of_getElem? (i := 20) rfl)), tk5 (i := 185) rfl rfl, show yX10_tribe.cls ≠ _ by decide +kernel, show yX10_tribe.cls ≠ _ by decide +kernel, show (parseMethodDescriptor yX10_tribe.desc).map (fun d => d.parameters.length) = _ by decide +kernel⟩, (wdA4 _ (List.mem_of_getElem? (i := 11) rfl)), (wdA4 _ (List.mem_of_getElem? (i := 12) rfl))⟩
set_option maxRecDepth 4000 in
theorem mwX11_tribe : MWV mX11_tribe 1 := ⟨⟨(wdA1 _ (List.mem_of_getElem? (i := 82) rfl)), tk8 (i := 177) rfl rfl, show yX11_tribe.cls ≠ _ by decide +kernel, show yX11_tribe.cls ≠ _ by decide +kernel, show (parseMethodDescriptor yX11_tribe.desc).map (fun d => d.parameters.length) = _ by decide +kernel⟩, (wdA4 _ (List.mem_of_getElem? (i := 13) rfl)), (wdA4 _ (List.mem_of_getElem? (i := 14) rfl))⟩
set_option maxRecDepth 4000 in
theorem mwX10_hopes : MWV mX10_hopes 1 := ⟨⟨(wdA0 _ (List.mem_of_getElem? (i := 20) rfl)), tk5 (i := 193) rfl rfl, show yX10_hopes.cls ≠ _ by decide +kernel, show yX10_hopes.cls ≠ _ by decide +kernel, show (parseMethodDescriptor yX10_hopes.desc).map (fun d => d.parameters.length) = _ by decide +kernel⟩, (wdA4 _ (List.mem_of_getElem? (i := 15) rfl)), (wdA4 _ (List.mem_of_getElem? (i := 16) rfl))⟩
set_option maxRecDepth 4000 in
theorem mwX11_hopes : MWV mX11_hopes 1 := ⟨⟨(wdA1 _ (List.mem_of_getElem? (i := 82) rfl)), tk8 (i := 181) rfl rfl, show yX11_hopes.cls ≠ _ by decide +kernel, show yX11_hopes.cls ≠ _ by decide +kernel, show (parseMethodDescriptor yX11_hopes.desc).map (fun d => d.parameters.length) = _ by decide +kernel⟩, (wdA4 _ (List.mem_of_getElem? (i := 17) rfl)), (wdA4 _ (List.mem_of_getElem? (i := 18) rfl))⟩
set_option maxRecDepth 4000 in
theorem mwX10_undo : MWV mX10_undo 0 := ⟨⟨(wdA0 _ (List.mem_of_getElem? (i := 20) rfl)), tk5 (i := 202) rfl rfl, show yX10_undo.cls ≠ _ by decide +kernel, show yX10_undo.cls ≠ _ by decide +kernel, show (parseMethodDescriptor yX10_undo.desc).map (fun d => d.parameters.length) = _ by decide +kernel⟩, (wdA4 _ (List.mem_of_getElem? (i := 19) rfl)), (wdA4 _ (List.mem_of_getElem? (i := 20) rfl))⟩
set_option maxRecDepth 4000 in
theorem mwX11_undo : MWV mX11_undo 0 := ⟨⟨(wdA1 _ (List.mem_of_getElem? (i := 82) rfl)), tk7 (i := 99) rfl rfl, show yX11_undo.cls ≠ _ by decide +kernel, show yX11_undo.cls ≠ _ by decide +kernel, show (parseMethodDescriptor yX11_undo.desc).map (fun d => d.parameters.length) = _ by decide +kernel⟩, (wdA4 _ (List.mem_of_getElem? (i := 21) rfl)), (wdA4 _ (List.mem_of_getElem? (i := 22) rfl))⟩
set_option maxRecDepth 4000 in
theorem mwX11_image : MWV mX11_image 1 := ⟨⟨(wdA1 _ (List.mem_of_getElem? (i := 82) rfl)), tk8 (i := 189) rfl rfl, show yX11_image.cls ≠ _ by decide +kernel, show yX11_image.cls ≠ _ by decide +kernel, show (parseMethodDescriptor yX11_image.desc).map (fun d => d.parameters.length) = _ by decide +kernel⟩, (wdA4 _ (List.mem_of_getElem? (i := 23) rfl)), (wdA4 _ (List.mem_of_getElem? (i := 24) rfl))⟩
set_option maxRecDepth 4000 in
theorem mwX10_look : MWV mX10_look 1 := ⟨⟨(wdA0 _ (List.mem_of_getElem? (i := 20) rfl)), tk5 (i := 214) rfl rfl, show yX10_look.cls ≠ _ by decide +kernel, show yX10_look.cls ≠ _ by decide +kernel, show (parseMethodDescriptor yX10_look.desc).map (fun d => d.parameters.length) = _ by decide +kernel⟩, (wdA4 _ (List.mem_of_getElem? (i := 25) rfl)), (wdA4 _ (List.mem_of_getElem? (i := 26) rfl))⟩
set_option maxRecDepth 4000 in
theorem mwX11_look : MWV mX11_look 1 := ⟨⟨(wdA1 _ (List.mem_of_getElem? (i := 82) rfl)), tk8 (i := 193) rfl rfl, show yX11_look.cls ≠ _ by decide +kernel, show yX11_look.cls ≠ _ by decide +kernel, show (parseMethodDescriptor yX11_look.desc).map (fun d => d.parameters.length) = _ by decide +kernel⟩, (wdA4 _ (List.mem_of_getElem? (i := 27) rfl)), (wdA4 _ (List.mem_of_getElem? (i := 28) rfl))⟩
