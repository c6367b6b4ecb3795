/-! what the tables say of each method that is called -/
def wsA : List Cond := [(Jvm.Cond.initialized "SnowRises$Folk"),
  (Jvm.Cond.code ({ cls := "SnowRises$Folk", name := "has", desc := "(I)Z" } : Jvm.MethodName) prog_3_method_3_code (2 : Nat) (Option.some Jvm.ClassFile.FieldType.boolean)),
  (Jvm.Cond.instanceMethod ({ cls := "SnowRises$Folk", name := "has", desc := "(I)Z" } : Jvm.MethodName)),
  (Jvm.Cond.selects "SnowRises$Folk" ({ cls := "SnowRises$Folk", name := "has", desc := "(I)Z" } : Jvm.MethodName) ({ cls := "SnowRises$Folk", name := "has", desc := "(I)Z" } : Jvm.MethodName)),
  (Jvm.Cond.code ({ cls := "SnowRises$Folk", name := "isFree", desc := "(I)Z" } : Jvm.MethodName) prog_3_method_5_code (2 : Nat) (Option.some Jvm.ClassFile.FieldType.boolean)),
  (Jvm.Cond.instanceMethod ({ cls := "SnowRises$Folk", name := "isFree", desc := "(I)Z" } : Jvm.MethodName)),
  (Jvm.Cond.selects "SnowRises$Folk" ({ cls := "SnowRises$Folk", name := "isFree", desc := "(I)Z" } : Jvm.MethodName) ({ cls := "SnowRises$Folk", name := "isFree", desc := "(I)Z" } : Jvm.MethodName)),
  (Jvm.Cond.initialized "java/lang/Math"),
  (Jvm.Cond.code ({ cls := "java/lang/Math", name := "max", desc := "(II)I" } : Jvm.MethodName) prog_16_method_65_code (2 : Nat) (Option.some Jvm.ClassFile.FieldType.int)),
  (Jvm.Cond.static ({ cls := "java/lang/Math", name := "max", desc := "(II)I" } : Jvm.MethodName)),
  (Jvm.Cond.initialized "SnowRises$Law"),
  (Jvm.Cond.code ({ cls := "SnowRises$Law", name := "joined", desc := "(III)I" } : Jvm.MethodName) prog_4_method_10_code (3 : Nat) (Option.some Jvm.ClassFile.FieldType.int)),
  (Jvm.Cond.static ({ cls := "SnowRises$Law", name := "joined", desc := "(III)I" } : Jvm.MethodName)),
  (Jvm.Cond.code ({ cls := "SnowRises$Law", name := "run", desc := "(II)I" } : Jvm.MethodName) prog_4_method_9_code (6 : Nat) (Option.some Jvm.ClassFile.FieldType.int)),
  (Jvm.Cond.instanceMethod ({ cls := "SnowRises$Law", name := "run", desc := "(II)I" } : Jvm.MethodName)),
  (Jvm.Cond.code ({ cls := "java/lang/Math", name := "min", desc := "(II)I" } : Jvm.MethodName) prog_16_method_69_code (2 : Nat) (Option.some Jvm.ClassFile.FieldType.int)),
  (Jvm.Cond.static ({ cls := "java/lang/Math", name := "min", desc := "(II)I" } : Jvm.MethodName)),
  (Jvm.Cond.code ({ cls := "java/lang/Math", name := "abs", desc := "(I)I" } : Jvm.MethodName) prog_16_method_59_code (1 : Nat) (Option.some Jvm.ClassFile.FieldType.int)),
  (Jvm.Cond.static ({ cls := "java/lang/Math", name := "abs", desc := "(I)I" } : Jvm.MethodName)),
  (Jvm.Cond.code ({ cls := "SnowRises$Law", name := "forgetNames", desc := "()V" } : Jvm.MethodName) prog_4_method_6_code (2 : Nat) (Option.none : Option Jvm.ClassFile.FieldType)),
  (Jvm.Cond.instanceMethod ({ cls := "SnowRises$Law", name := "forgetNames", desc := "()V" } : Jvm.MethodName)),
  (Jvm.Cond.selects "SnowRises$Law" ({ cls := "SnowRises$Law", name := "forgetNames", desc := "()V" } : Jvm.MethodName) ({ cls := "SnowRises$Law", name := "forgetNames", desc := "()V" } : Jvm.MethodName)),
  (Jvm.Cond.code ({ cls := "SnowRises$Law", name := "name", desc := "(II)V" } : Jvm.MethodName) prog_4_method_7_code (4 : Nat) (Option.none : Option Jvm.ClassFile.FieldType)),
  (Jvm.Cond.instanceMethod ({ cls := "SnowRises$Law", name := "name", desc := "(II)V" } : Jvm.MethodName)),
  (Jvm.Cond.selects "SnowRises$Law" ({ cls := "SnowRises$Law", name := "name", desc := "(II)V" } : Jvm.MethodName) ({ cls := "SnowRises$Law", name := "name", desc := "(II)V" } : Jvm.MethodName)),
  (Jvm.Cond.code ({ cls := "SnowRises$Folk", name := "areKin", desc := "(II)Z" } : Jvm.MethodName) prog_3_method_7_code (3 : Nat) (Option.some Jvm.ClassFile.FieldType.boolean)),
  (Jvm.Cond.instanceMethod ({ cls := "SnowRises$Folk", name := "areKin", desc := "(II)Z" } : Jvm.MethodName)),
  (Jvm.Cond.selects "SnowRises$Folk" ({ cls := "SnowRises$Folk", name := "areKin", desc := "(II)Z" } : Jvm.MethodName) ({ cls := "SnowRises$Folk", name := "areKin", desc := "(II)Z" } : Jvm.MethodName)),
  (Jvm.Cond.code ({ cls := "SnowRises$Law", name := "tell", desc := "(II)I" } : Jvm.MethodName) prog_4_method_8_code (4 : Nat) (Option.some Jvm.ClassFile.FieldType.int)),
  (Jvm.Cond.instanceMethod ({ cls := "SnowRises$Law", name := "tell", desc := "(II)I" } : Jvm.MethodName)),
  (Jvm.Cond.selects "SnowRises$Law" ({ cls := "SnowRises$Law", name := "tell", desc := "(II)I" } : Jvm.MethodName) ({ cls := "SnowRises$Law", name := "tell", desc := "(II)I" } : Jvm.MethodName)),
  (Jvm.Cond.initialized "SnowRises"),
  (Jvm.Cond.code ({ cls := "SnowRises", name := "held", desc := "(II)I" } : Jvm.MethodName) prog_1_method_44_code (2 : Nat) (Option.some Jvm.ClassFile.FieldType.int)),
  (Jvm.Cond.static ({ cls := "SnowRises", name := "held", desc := "(II)I" } : Jvm.MethodName)),
  (Jvm.Cond.initialized "SnowRises$World"),
  (Jvm.Cond.code ({ cls := "SnowRises$World", name := "matchBy", desc := "(IIII)I" } : Jvm.MethodName) prog_11_method_10_code (6 : Nat) (Option.some Jvm.ClassFile.FieldType.int)),
  (Jvm.Cond.instanceMethod ({ cls := "SnowRises$World", name := "matchBy", desc := "(IIII)I" } : Jvm.MethodName)),
  (Jvm.Cond.selects "SnowRises$World" ({ cls := "SnowRises$World", name := "matchBy", desc := "(IIII)I" } : Jvm.MethodName) ({ cls := "SnowRises$World", name := "matchBy", desc := "(IIII)I" } : Jvm.MethodName)),
  (Jvm.Cond.initialized "SnowRises$Couples"),
  (Jvm.Cond.code ({ cls := "SnowRises$Couples", name := "gather", desc := "(LSnowRises$Folk;)V" } : Jvm.MethodName) prog_2_method_2_code (3 : Nat) (Option.none : Option Jvm.ClassFile.FieldType)),
  (Jvm.Cond.instanceMethod ({ cls := "SnowRises$Couples", name := "gather", desc := "(LSnowRises$Folk;)V" } : Jvm.MethodName)),
  (Jvm.Cond.code ({ cls := "SnowRises$World", name := "matchOf", desc := "(II)I" } : Jvm.MethodName) prog_11_method_11_code (3 : Nat) (Option.some Jvm.ClassFile.FieldType.int)),
  (Jvm.Cond.instanceMethod ({ cls := "SnowRises$World", name := "matchOf", desc := "(II)I" } : Jvm.MethodName)),
  (Jvm.Cond.selects "SnowRises$World" ({ cls := "SnowRises$World", name := "matchOf", desc := "(II)I" } : Jvm.MethodName) ({ cls := "SnowRises$World", name := "matchOf", desc := "(II)I" } : Jvm.MethodName)),
  (Jvm.Cond.code ({ cls := "SnowRises$Couples", name := "asksNext", desc := "(I)Z" } : Jvm.MethodName) prog_2_method_4_code (7 : Nat) (Option.some Jvm.ClassFile.FieldType.boolean)),
  (Jvm.Cond.instanceMethod ({ cls := "SnowRises$Couples", name := "asksNext", desc := "(I)Z" } : Jvm.MethodName)),
  (Jvm.Cond.code ({ cls := "SnowRises$Couples", name := "sumWith", desc := "(III)I" } : Jvm.MethodName) prog_2_method_7_code (4 : Nat) (Option.some Jvm.ClassFile.FieldType.int)),
  (Jvm.Cond.instanceMethod ({ cls := "SnowRises$Couples", name := "sumWith", desc := "(III)I" } : Jvm.MethodName)),
  (Jvm.Cond.code ({ cls := "SnowRises$World", name := "foundOf", desc := "(II)I" } : Jvm.MethodName) prog_11_method_12_code (5 : Nat) (Option.some Jvm.ClassFile.FieldType.int)),
  (Jvm.Cond.instanceMethod ({ cls := "SnowRises$World", name := "foundOf", desc := "(II)I" } : Jvm.MethodName)),
  (Jvm.Cond.selects "SnowRises$World" ({ cls := "SnowRises$World", name := "foundOf", desc := "(II)I" } : Jvm.MethodName) ({ cls := "SnowRises$World", name := "foundOf", desc := "(II)I" } : Jvm.MethodName)),
  (Jvm.Cond.initialized "java/lang/Integer"),
  (Jvm.Cond.code ({ cls := "java/lang/Integer", name := "bitCount", desc := "(I)I" } : Jvm.MethodName) prog_15_method_49_code (1 : Nat) (Option.some Jvm.ClassFile.FieldType.int)),
  (Jvm.Cond.static ({ cls := "java/lang/Integer", name := "bitCount", desc := "(I)I" } : Jvm.MethodName)),
  (Jvm.Cond.code ({ cls := "SnowRises$Couples", name := "greatestSum", desc := "(II)I" } : Jvm.MethodName) prog_2_method_6_code (5 : Nat) (Option.some Jvm.ClassFile.FieldType.int)),
  (Jvm.Cond.instanceMethod ({ cls := "SnowRises$Couples", name := "greatestSum", desc := "(II)I" } : Jvm.MethodName)),
  (Jvm.Cond.code ({ cls := "SnowRises$Couples", name := "takeFirstWay", desc := "()V" } : Jvm.MethodName) prog_2_method_8_code (5 : Nat) (Option.none : Option Jvm.ClassFile.FieldType)),
  (Jvm.Cond.instanceMethod ({ cls := "SnowRises$Couples", name := "takeFirstWay", desc := "()V" } : Jvm.MethodName)),
  (Jvm.Cond.code ({ cls := "SnowRises", name := "steps", desc := "(II)I" } : Jvm.MethodName) prog_1_method_45_code (2 : Nat) (Option.some Jvm.ClassFile.FieldType.int)),
  (Jvm.Cond.static ({ cls := "SnowRises", name := "steps", desc := "(II)I" } : Jvm.MethodName)),
  (Jvm.Cond.code ({ cls := "SnowRises$World", name := "hasField", desc := "(I)Z" } : Jvm.MethodName) prog_11_method_6_code (2 : Nat) (Option.some Jvm.ClassFile.FieldType.boolean)),
  (Jvm.Cond.instanceMethod ({ cls := "SnowRises$World", name := "hasField", desc := "(I)Z" } : Jvm.MethodName)),
  (Jvm.Cond.selects "SnowRises$World" ({ cls := "SnowRises$World", name := "hasField", desc := "(I)Z" } : Jvm.MethodName) ({ cls := "SnowRises$World", name := "hasField", desc := "(I)Z" } : Jvm.MethodName)),
  (Jvm.Cond.code ({ cls := "SnowRises$World", name := "liftOf", desc := "(IIIII)I" } : Jvm.MethodName) prog_11_method_13_code (6 : Nat) (Option.some Jvm.ClassFile.FieldType.int)),
  (Jvm.Cond.instanceMethod ({ cls := "SnowRises$World", name := "liftOf", desc := "(IIIII)I" } : Jvm.MethodName)),
  (Jvm.Cond.selects "SnowRises$World" ({ cls := "SnowRises$World", name := "liftOf", desc := "(IIIII)I" } : Jvm.MethodName) ({ cls := "SnowRises$World", name := "liftOf", desc := "(IIIII)I" } : Jvm.MethodName)),
  (Jvm.Cond.code ({ cls := "SnowRises$Couples", name := "firstBaring", desc := "(LSnowRises$World;IIII)I" } : Jvm.MethodName) prog_2_method_10_code (8 : Nat) (Option.some Jvm.ClassFile.FieldType.int)),
  (Jvm.Cond.instanceMethod ({ cls := "SnowRises$Couples", name := "firstBaring", desc := "(LSnowRises$World;IIII)I" } : Jvm.MethodName)),
  (Jvm.Cond.code ({ cls := "SnowRises$Couples", name := "mostAlike", desc := "(LSnowRises$World;II)I" } : Jvm.MethodName) prog_2_method_12_code (7 : Nat) (Option.some Jvm.ClassFile.FieldType.int)),
  (Jvm.Cond.instanceMethod ({ cls := "SnowRises$Couples", name := "mostAlike", desc := "(LSnowRises$World;II)I" } : Jvm.MethodName)),
  (Jvm.Cond.code ({ cls := "SnowRises$Folk", name := "hopeAmong", desc := "(LSnowRises$Folk;II)I" } : Jvm.MethodName) prog_3_method_11_code (5 : Nat) (Option.some Jvm.ClassFile.FieldType.int)),
  (Jvm.Cond.static ({ cls := "SnowRises$Folk", name := "hopeAmong", desc := "(LSnowRises$Folk;II)I" } : Jvm.MethodName)),
  (Jvm.Cond.code ({ cls := "SnowRises$Law", name := "put", desc := "(I)V" } : Jvm.MethodName) prog_4_method_5_code (2 : Nat) (Option.none : Option Jvm.ClassFile.FieldType)),
  (Jvm.Cond.instanceMethod ({ cls := "SnowRises$Law", name := "put", desc := "(I)V" } : Jvm.MethodName)),
  (Jvm.Cond.selects "SnowRises$Law" ({ cls := "SnowRises$Law", name := "put", desc := "(I)V" } : Jvm.MethodName) ({ cls := "SnowRises$Law", name := "put", desc := "(I)V" } : Jvm.MethodName)),
  (Jvm.Cond.code ({ cls := "SnowRises$Law", name := "codeOfName", desc := "(I)I" } : Jvm.MethodName) prog_4_method_3_code (1 : Nat) (Option.some Jvm.ClassFile.FieldType.int)),
  (Jvm.Cond.static ({ cls := "SnowRises$Law", name := "codeOfName", desc := "(I)I" } : Jvm.MethodName)),
  (Jvm.Cond.initialized "SnowRises$Reader"),
  (Jvm.Cond.code ({ cls := "SnowRises$Reader", name := "pass", desc := "()V" } : Jvm.MethodName) prog_6_method_3_code (1 : Nat) (Option.none : Option Jvm.ClassFile.FieldType)),
  (Jvm.Cond.instanceMethod ({ cls := "SnowRises$Reader", name := "pass", desc := "()V" } : Jvm.MethodName)),
  (Jvm.Cond.code ({ cls := "SnowRises$Reader", name := "refuse", desc := "(I)Z" } : Jvm.MethodName) prog_6_method_4_code (2 : Nat) (Option.some Jvm.ClassFile.FieldType.boolean)),
  (Jvm.Cond.instanceMethod ({ cls := "SnowRises$Reader", name := "refuse", desc := "(I)Z" } : Jvm.MethodName)),
  (Jvm.Cond.code ({ cls := "SnowRises$Reader", name := "readsUnit", desc := "()Z" } : Jvm.MethodName) prog_6_method_17_code (1 : Nat) (Option.some Jvm.ClassFile.FieldType.boolean)),
  (Jvm.Cond.instanceMethod ({ cls := "SnowRises$Reader", name := "readsUnit", desc := "()Z" } : Jvm.MethodName)),
  (Jvm.Cond.code ({ cls := "SnowRises$Law", name := "codeOfJoint", desc := "(I)I" } : Jvm.MethodName) prog_4_method_4_code (1 : Nat) (Option.some Jvm.ClassFile.FieldType.int)),
  (Jvm.Cond.static ({ cls := "SnowRises$Law", name := "codeOfJoint", desc := "(I)I" } : Jvm.MethodName)),
  (Jvm.Cond.code ({ cls := "SnowRises$Reader", name := "readsSingle", desc := "(I)Z" } : Jvm.MethodName) prog_6_method_15_code (4 : Nat) (Option.some Jvm.ClassFile.FieldType.boolean)),
  (Jvm.Cond.instanceMethod ({ cls := "SnowRises$Reader", name := "readsSingle", desc := "(I)Z" } : Jvm.MethodName)),
  (Jvm.Cond.code ({ cls := "SnowRises$Reader", name := "readsEither", desc := "(I)Z" } : Jvm.MethodName) prog_6_method_14_code (5 : Nat) (Option.some Jvm.ClassFile.FieldType.boolean)),
  (Jvm.Cond.instanceMethod ({ cls := "SnowRises$Reader", name := "readsEither", desc := "(I)Z" } : Jvm.MethodName)),
  (Jvm.Cond.code ({ cls := "SnowRises$Reader", name := "passes", desc := "(I)Z" } : Jvm.MethodName) prog_6_method_5_code (2 : Nat) (Option.some Jvm.ClassFile.FieldType.boolean)),
  (Jvm.Cond.instanceMethod ({ cls := "SnowRises$Reader", name := "passes", desc := "(I)Z" } : Jvm.MethodName)),
  (Jvm.Cond.code ({ cls := "SnowRises$Reader", name := "readsSum", desc := "()Z" } : Jvm.MethodName) prog_6_method_16_code (4 : Nat) (Option.some Jvm.ClassFile.FieldType.boolean)),
  (Jvm.Cond.instanceMethod ({ cls := "SnowRises$Reader", name := "readsSum", desc := "()Z" } : Jvm.MethodName)),
  (Jvm.Cond.code ({ cls := "SnowRises$Reader", name := "passesNumber", desc := "(II)Z" } : Jvm.MethodName) prog_6_method_7_code (3 : Nat) (Option.some Jvm.ClassFile.FieldType.boolean)),
  (Jvm.Cond.instanceMethod ({ cls := "SnowRises$Reader", name := "passesNumber", desc := "(II)Z" } : Jvm.MethodName)),
  (Jvm.Cond.code ({ cls := "SnowRises$Reader", name := "begins", desc := "(ILSnowRises$Rows;)Z" } : Jvm.MethodName) prog_6_method_6_code (3 : Nat) (Option.some Jvm.ClassFile.FieldType.boolean)),
  (Jvm.Cond.instanceMethod ({ cls := "SnowRises$Reader", name := "begins", desc := "(ILSnowRises$Rows;)Z" } : Jvm.MethodName)),
  (Jvm.Cond.code ({ cls := "SnowRises$Reader", name := "passesPerson", desc := "(I)Z" } : Jvm.MethodName) prog_6_method_9_code (3 : Nat) (Option.some Jvm.ClassFile.FieldType.boolean)),
  (Jvm.Cond.instanceMethod ({ cls := "SnowRises$Reader", name := "passesPerson", desc := "(I)Z" } : Jvm.MethodName)),
  (Jvm.Cond.code ({ cls := "SnowRises$Reader", name := "passesField", desc := "()Z" } : Jvm.MethodName) prog_6_method_8_code (1 : Nat) (Option.some Jvm.ClassFile.FieldType.boolean)),
  (Jvm.Cond.instanceMethod ({ cls := "SnowRises$Reader", name := "passesField", desc := "()Z" } : Jvm.MethodName)),
  (Jvm.Cond.initialized "SnowRises$Rows"),
  (Jvm.Cond.code ({ cls := "SnowRises$Rows", name := "add", desc := "(IIII)Z" } : Jvm.MethodName) prog_8_method_2_code (6 : Nat) (Option.some Jvm.ClassFile.FieldType.boolean)),
  (Jvm.Cond.instanceMethod ({ cls := "SnowRises$Rows", name := "add", desc := "(IIII)Z" } : Jvm.MethodName)),
  (Jvm.Cond.selects "SnowRises$Rows" ({ cls := "SnowRises$Rows", name := "add", desc := "(IIII)Z" } : Jvm.MethodName) ({ cls := "SnowRises$Rows", name := "add", desc := "(IIII)Z" } : Jvm.MethodName)),
  (Jvm.Cond.code ({ cls := "SnowRises$Law", name := "clear", desc := "()V" } : Jvm.MethodName) prog_4_method_2_code (1 : Nat) (Option.none : Option Jvm.ClassFile.FieldType)),
  (Jvm.Cond.instanceMethod ({ cls := "SnowRises$Law", name := "clear", desc := "()V" } : Jvm.MethodName)),
  (Jvm.Cond.selects "SnowRises$Law" ({ cls := "SnowRises$Law", name := "clear", desc := "()V" } : Jvm.MethodName) ({ cls := "SnowRises$Law", name := "clear", desc := "()V" } : Jvm.MethodName)),
  (Jvm.Cond.code ({ cls := "SnowRises$World", name := "rowsOf", desc := "(I)LSnowRises$Rows;" } : Jvm.MethodName) prog_11_method_5_code (2 : Nat) (Option.some (Jvm.ClassFile.FieldType.object "SnowRises$Rows"))),
  (Jvm.Cond.instanceMethod ({ cls := "SnowRises$World", name := "rowsOf", desc := "(I)LSnowRises$Rows;" } : Jvm.MethodName)),
  (Jvm.Cond.selects "SnowRises$World" ({ cls := "SnowRises$World", name := "rowsOf", desc := "(I)LSnowRises$Rows;" } : Jvm.MethodName) ({ cls := "SnowRises$World", name := "rowsOf", desc := "(I)LSnowRises$Rows;" } : Jvm.MethodName)),
  (Jvm.Cond.code ({ cls := "SnowRises$Reader", name := "lawLine", desc := "()Z" } : Jvm.MethodName) prog_6_method_13_code (3 : Nat) (Option.some Jvm.ClassFile.FieldType.boolean)),
  (Jvm.Cond.instanceMethod ({ cls := "SnowRises$Reader", name := "lawLine", desc := "()Z" } : Jvm.MethodName)),
  (Jvm.Cond.code ({ cls := "SnowRises$Reader", name := "vowLine", desc := "()Z" } : Jvm.MethodName) prog_6_method_10_code (5 : Nat) (Option.some Jvm.ClassFile.FieldType.boolean)),
  (Jvm.Cond.instanceMethod ({ cls := "SnowRises$Reader", name := "vowLine", desc := "()Z" } : Jvm.MethodName)),
  (Jvm.Cond.code ({ cls := "SnowRises$Reader", name := "weatherLine", desc := "()Z" } : Jvm.MethodName) prog_6_method_11_code (3 : Nat) (Option.some Jvm.ClassFile.FieldType.boolean)),
  (Jvm.Cond.instanceMethod ({ cls := "SnowRises$Reader", name := "weatherLine", desc := "()Z" } : Jvm.MethodName)),
  (Jvm.Cond.code ({ cls := "SnowRises$Reader", name := "wantLine", desc := "()Z" } : Jvm.MethodName) prog_6_method_12_code (4 : Nat) (Option.some Jvm.ClassFile.FieldType.boolean)),
  (Jvm.Cond.instanceMethod ({ cls := "SnowRises$Reader", name := "wantLine", desc := "()Z" } : Jvm.MethodName)),
  (Jvm.Cond.initialized "SnowRises$Rounds"),
  (Jvm.Cond.code ({ cls := "SnowRises$Rounds", name := "isOpen", desc := "(II)Z" } : Jvm.MethodName) prog_7_method_4_code (4 : Nat) (Option.some Jvm.ClassFile.FieldType.boolean)),
  (Jvm.Cond.instanceMethod ({ cls := "SnowRises$Rounds", name := "isOpen", desc := "(II)Z" } : Jvm.MethodName)),
  (Jvm.Cond.code ({ cls := "SnowRises$Rounds", name := "fits", desc := "(LSnowRises$Rounds;I)Z" } : Jvm.MethodName) prog_7_method_3_code (3 : Nat) (Option.some Jvm.ClassFile.FieldType.boolean)),
  (Jvm.Cond.static ({ cls := "SnowRises$Rounds", name := "fits", desc := "(LSnowRises$Rounds;I)Z" } : Jvm.MethodName)),
  (Jvm.Cond.code ({ cls := "SnowRises$Folk", name := "wedSet", desc := "()I" } : Jvm.MethodName) prog_3_method_9_code (3 : Nat) (Option.some Jvm.ClassFile.FieldType.int)),
  (Jvm.Cond.instanceMethod ({ cls := "SnowRises$Folk", name := "wedSet", desc := "()I" } : Jvm.MethodName)),
  (Jvm.Cond.selects "SnowRises$Folk" ({ cls := "SnowRises$Folk", name := "wedSet", desc := "()I" } : Jvm.MethodName) ({ cls := "SnowRises$Folk", name := "wedSet", desc := "()I" } : Jvm.MethodName)),
  (Jvm.Cond.code ({ cls := "SnowRises$Rows", name := "cell", desc := "(II)I" } : Jvm.MethodName) prog_8_method_3_code (3 : Nat) (Option.some Jvm.ClassFile.FieldType.int)),
  (Jvm.Cond.instanceMethod ({ cls := "SnowRises$Rows", name := "cell", desc := "(II)I" } : Jvm.MethodName)),
  (Jvm.Cond.selects "SnowRises$Rows" ({ cls := "SnowRises$Rows", name := "cell", desc := "(II)I" } : Jvm.MethodName) ({ cls := "SnowRises$Rows", name := "cell", desc := "(II)I" } : Jvm.MethodName)),
  (Jvm.Cond.initialized "SnowRises$Tape"),
  (Jvm.Cond.code ({ cls := "SnowRises$Tape", name := "sign", desc := "(I)I" } : Jvm.MethodName) prog_9_method_3_code (2 : Nat) (Option.some Jvm.ClassFile.FieldType.int)),
  (Jvm.Cond.instanceMethod ({ cls := "SnowRises$Tape", name := "sign", desc := "(I)I" } : Jvm.MethodName)),
  (Jvm.Cond.code ({ cls := "SnowRises$Tape", name := "isLetter", desc := "(I)Z" } : Jvm.MethodName) prog_9_method_4_code (1 : Nat) (Option.some Jvm.ClassFile.FieldType.boolean)),
  (Jvm.Cond.static ({ cls := "SnowRises$Tape", name := "isLetter", desc := "(I)Z" } : Jvm.MethodName)),
  (Jvm.Cond.code ({ cls := "SnowRises$Tape", name := "isSame", desc := "(III)Z" } : Jvm.MethodName) prog_9_method_11_code (5 : Nat) (Option.some Jvm.ClassFile.FieldType.boolean)),
  (Jvm.Cond.instanceMethod ({ cls := "SnowRises$Tape", name := "isSame", desc := "(III)Z" } : Jvm.MethodName)),
  (Jvm.Cond.code ({ cls := "SnowRises$Tape", name := "isDigit", desc := "(I)Z" } : Jvm.MethodName) prog_9_method_5_code (1 : Nat) (Option.some Jvm.ClassFile.FieldType.boolean)),
  (Jvm.Cond.static ({ cls := "SnowRises$Tape", name := "isDigit", desc := "(I)Z" } : Jvm.MethodName)),
  (Jvm.Cond.code ({ cls := "SnowRises$Tape", name := "lettersEnd", desc := "(I)I" } : Jvm.MethodName) prog_9_method_7_code (3 : Nat) (Option.some Jvm.ClassFile.FieldType.int)),
  (Jvm.Cond.instanceMethod ({ cls := "SnowRises$Tape", name := "lettersEnd", desc := "(I)I" } : Jvm.MethodName)),
  (Jvm.Cond.code ({ cls := "SnowRises$Tape", name := "wordOf", desc := "(II)I" } : Jvm.MethodName) prog_9_method_10_code (6 : Nat) (Option.some Jvm.ClassFile.FieldType.int)),
  (Jvm.Cond.instanceMethod ({ cls := "SnowRises$Tape", name := "wordOf", desc := "(II)I" } : Jvm.MethodName)),
  (Jvm.Cond.code ({ cls := "SnowRises$Tape", name := "digitsEnd", desc := "(I)I" } : Jvm.MethodName) prog_9_method_8_code (3 : Nat) (Option.some Jvm.ClassFile.FieldType.int)),
  (Jvm.Cond.instanceMethod ({ cls := "SnowRises$Tape", name := "digitsEnd", desc := "(I)I" } : Jvm.MethodName)),
  (Jvm.Cond.code ({ cls := "SnowRises$Tape", name := "valueOf", desc := "(II)I" } : Jvm.MethodName) prog_9_method_9_code (5 : Nat) (Option.some Jvm.ClassFile.FieldType.int)),
  (Jvm.Cond.instanceMethod ({ cls := "SnowRises$Tape", name := "valueOf", desc := "(II)I" } : Jvm.MethodName)),
  (Jvm.Cond.code ({ cls := "SnowRises$World", name := "isSteep", desc := "(I)Z" } : Jvm.MethodName) prog_11_method_8_code (2 : Nat) (Option.some Jvm.ClassFile.FieldType.boolean)),
  (Jvm.Cond.instanceMethod ({ cls := "SnowRises$World", name := "isSteep", desc := "(I)Z" } : Jvm.MethodName)),
  (Jvm.Cond.selects "SnowRises$World" ({ cls := "SnowRises$World", name := "isSteep", desc := "(I)Z" } : Jvm.MethodName) ({ cls := "SnowRises$World", name := "isSteep", desc := "(I)Z" } : Jvm.MethodName)),
  (Jvm.Cond.code ({ cls := "SnowRises$World", name := "beside", desc := "(II)I" } : Jvm.MethodName) prog_11_method_7_code (5 : Nat) (Option.some Jvm.ClassFile.FieldType.int)),
  (Jvm.Cond.instanceMethod ({ cls := "SnowRises$World", name := "beside", desc := "(II)I" } : Jvm.MethodName)),
  (Jvm.Cond.selects "SnowRises$World" ({ cls := "SnowRises$World", name := "beside", desc := "(II)I" } : Jvm.MethodName) ({ cls := "SnowRises$World", name := "beside", desc := "(II)I" } : Jvm.MethodName)),
  (Jvm.Cond.initialized "SnowRises$Ways"),
  (Jvm.Cond.code ({ cls := "SnowRises$Ways", name := "reach", desc := "(II)V" } : Jvm.MethodName) prog_10_method_5_code (3 : Nat) (Option.none : Option Jvm.ClassFile.FieldType)),
  (Jvm.Cond.instanceMethod ({ cls := "SnowRises$Ways", name := "reach", desc := "(II)V" } : Jvm.MethodName)),
  (Jvm.Cond.code ({ cls := "SnowRises$Ways", name := "direction", desc := "(II)I" } : Jvm.MethodName) prog_10_method_7_code (2 : Nat) (Option.some Jvm.ClassFile.FieldType.int)),
  (Jvm.Cond.static ({ cls := "SnowRises$Ways", name := "direction", desc := "(II)I" } : Jvm.MethodName)),
  (Jvm.Cond.code ({ cls := "SnowRises$Ways", name := "search", desc := "(LSnowRises$World;II)Z" } : Jvm.MethodName) prog_10_method_4_code (11 : Nat) (Option.some Jvm.ClassFile.FieldType.boolean)),
  (Jvm.Cond.instanceMethod ({ cls := "SnowRises$Ways", name := "search", desc := "(LSnowRises$World;II)Z" } : Jvm.MethodName)),
  (Jvm.Cond.code ({ cls := "SnowRises$Ways", name := "addWay", desc := "(II)V" } : Jvm.MethodName) prog_10_method_6_code (9 : Nat) (Option.none : Option Jvm.ClassFile.FieldType)),
  (Jvm.Cond.instanceMethod ({ cls := "SnowRises$Ways", name := "addWay", desc := "(II)V" } : Jvm.MethodName)),
  (Jvm.Cond.code ({ cls := "SnowRises$Folk", name := "copy", desc := "(LSnowRises$Folk;)V" } : Jvm.MethodName) prog_3_method_12_code (2 : Nat) (Option.none : Option Jvm.ClassFile.FieldType)),
  (Jvm.Cond.instanceMethod ({ cls := "SnowRises$Folk", name := "copy", desc := "(LSnowRises$Folk;)V" } : Jvm.MethodName)),
  (Jvm.Cond.selects "SnowRises$Folk" ({ cls := "SnowRises$Folk", name := "copy", desc := "(LSnowRises$Folk;)V" } : Jvm.MethodName) ({ cls := "SnowRises$Folk", name := "copy", desc := "(LSnowRises$Folk;)V" } : Jvm.MethodName)),
  (Jvm.Cond.code ({ cls := "SnowRises$Law", name := "copy", desc := "(LSnowRises$Law;)V" } : Jvm.MethodName) prog_4_method_11_code (2 : Nat) (Option.none : Option Jvm.ClassFile.FieldType)),
  (Jvm.Cond.instanceMethod ({ cls := "SnowRises$Law", name := "copy", desc := "(LSnowRises$Law;)V" } : Jvm.MethodName)),
  (Jvm.Cond.selects "SnowRises$Law" ({ cls := "SnowRises$Law", name := "copy", desc := "(LSnowRises$Law;)V" } : Jvm.MethodName) ({ cls := "SnowRises$Law", name := "copy", desc := "(LSnowRises$Law;)V" } : Jvm.MethodName)),
  (Jvm.Cond.code ({ cls := "SnowRises$Rows", name := "copy", desc := "(LSnowRises$Rows;)V" } : Jvm.MethodName) prog_8_method_5_code (2 : Nat) (Option.none : Option Jvm.ClassFile.FieldType)),
  (Jvm.Cond.instanceMethod ({ cls := "SnowRises$Rows", name := "copy", desc := "(LSnowRises$Rows;)V" } : Jvm.MethodName)),
  (Jvm.Cond.selects "SnowRises$Rows" ({ cls := "SnowRises$Rows", name := "copy", desc := "(LSnowRises$Rows;)V" } : Jvm.MethodName) ({ cls := "SnowRises$Rows", name := "copy", desc := "(LSnowRises$Rows;)V" } : Jvm.MethodName)),
  (Jvm.Cond.code ({ cls := "SnowRises$World", name := "rise", desc := "()I" } : Jvm.MethodName) prog_11_method_18_code (4 : Nat) (Option.some Jvm.ClassFile.FieldType.int)),
  (Jvm.Cond.instanceMethod ({ cls := "SnowRises$World", name := "rise", desc := "()I" } : Jvm.MethodName)),
  (Jvm.Cond.code ({ cls := "SnowRises$World", name := "drift", desc := "()I" } : Jvm.MethodName) prog_11_method_19_code (4 : Nat) (Option.some Jvm.ClassFile.FieldType.int)),
  (Jvm.Cond.instanceMethod ({ cls := "SnowRises$World", name := "drift", desc := "()I" } : Jvm.MethodName)),
  (Jvm.Cond.code ({ cls := "SnowRises$World", name := "note", desc := "(III)V" } : Jvm.MethodName) prog_11_method_16_code (4 : Nat) (Option.none : Option Jvm.ClassFile.FieldType)),
  (Jvm.Cond.instanceMethod ({ cls := "SnowRises$World", name := "note", desc := "(III)V" } : Jvm.MethodName)),
  (Jvm.Cond.selects "SnowRises$World" ({ cls := "SnowRises$World", name := "note", desc := "(III)V" } : Jvm.MethodName) ({ cls := "SnowRises$World", name := "note", desc := "(III)V" } : Jvm.MethodName)),
  (Jvm.Cond.code ({ cls := "SnowRises$World", name := "draw", desc := "(I)I" } : Jvm.MethodName) prog_11_method_21_code (2 : Nat) (Option.some Jvm.ClassFile.FieldType.int)),
  (Jvm.Cond.instanceMethod ({ cls := "SnowRises$World", name := "draw", desc := "(I)I" } : Jvm.MethodName)),
  (Jvm.Cond.code ({ cls := "SnowRises$World", name := "meltOf", desc := "(I)I" } : Jvm.MethodName) prog_11_method_14_code (2 : Nat) (Option.some Jvm.ClassFile.FieldType.int)),
  (Jvm.Cond.instanceMethod ({ cls := "SnowRises$World", name := "meltOf", desc := "(I)I" } : Jvm.MethodName)),
  (Jvm.Cond.selects "SnowRises$World" ({ cls := "SnowRises$World", name := "meltOf", desc := "(I)I" } : Jvm.MethodName) ({ cls := "SnowRises$World", name := "meltOf", desc := "(I)I" } : Jvm.MethodName)),
  (Jvm.Cond.code ({ cls := "SnowRises$World", name := "weatherOf", desc := "(I)I" } : Jvm.MethodName) prog_11_method_15_code (5 : Nat) (Option.some Jvm.ClassFile.FieldType.int)),
  (Jvm.Cond.instanceMethod ({ cls := "SnowRises$World", name := "weatherOf", desc := "(I)I" } : Jvm.MethodName)),
  (Jvm.Cond.selects "SnowRises$World" ({ cls := "SnowRises$World", name := "weatherOf", desc := "(I)I" } : Jvm.MethodName) ({ cls := "SnowRises$World", name := "weatherOf", desc := "(I)I" } : Jvm.MethodName)),
  (Jvm.Cond.code ({ cls := "SnowRises$Folk", name := "canWed", desc := "(II)Z" } : Jvm.MethodName) prog_3_method_6_code (3 : Nat) (Option.some Jvm.ClassFile.FieldType.boolean)),
  (Jvm.Cond.instanceMethod ({ cls := "SnowRises$Folk", name := "canWed", desc := "(II)Z" } : Jvm.MethodName)),
  (Jvm.Cond.selects "SnowRises$Folk" ({ cls := "SnowRises$Folk", name := "canWed", desc := "(II)Z" } : Jvm.MethodName) ({ cls := "SnowRises$Folk", name := "canWed", desc := "(II)Z" } : Jvm.MethodName)),
  (Jvm.Cond.code ({ cls := "SnowRises$World", name := "makeVow", desc := "(III)I" } : Jvm.MethodName) prog_11_method_17_code (8 : Nat) (Option.some Jvm.ClassFile.FieldType.int)),
  (Jvm.Cond.instanceMethod ({ cls := "SnowRises$World", name := "makeVow", desc := "(III)I" } : Jvm.MethodName)),
  (Jvm.Cond.selects "SnowRises$World" ({ cls := "SnowRises$World", name := "makeVow", desc := "(III)I" } : Jvm.MethodName) ({ cls := "SnowRises$World", name := "makeVow", desc := "(III)I" } : Jvm.MethodName)),
  (Jvm.Cond.code ({ cls := "SnowRises$World", name := "slide", desc := "()V" } : Jvm.MethodName) prog_11_method_22_code (4 : Nat) (Option.none : Option Jvm.ClassFile.FieldType)),
  (Jvm.Cond.instanceMethod ({ cls := "SnowRises$World", name := "slide", desc := "()V" } : Jvm.MethodName)),
  (Jvm.Cond.code ({ cls := "SnowRises$World", name := "meltAll", desc := "()V" } : Jvm.MethodName) prog_11_method_23_code (4 : Nat) (Option.none : Option Jvm.ClassFile.FieldType)),
  (Jvm.Cond.instanceMethod ({ cls := "SnowRises$World", name := "meltAll", desc := "()V" } : Jvm.MethodName)),
  (Jvm.Cond.code ({ cls := "SnowRises$Rows", name := "greatest", desc := "(I)I" } : Jvm.MethodName) prog_8_method_4_code (4 : Nat) (Option.some Jvm.ClassFile.FieldType.int)),
  (Jvm.Cond.instanceMethod ({ cls := "SnowRises$Rows", name := "greatest", desc := "(I)I" } : Jvm.MethodName)),
  (Jvm.Cond.selects "SnowRises$Rows" ({ cls := "SnowRises$Rows", name := "greatest", desc := "(I)I" } : Jvm.MethodName) ({ cls := "SnowRises$Rows", name := "greatest", desc := "(I)I" } : Jvm.MethodName)),
  (Jvm.Cond.code ({ cls := "SnowRises$World", name := "isBare", desc := "(I)Z" } : Jvm.MethodName) prog_11_method_25_code (2 : Nat) (Option.some Jvm.ClassFile.FieldType.boolean)),
  (Jvm.Cond.instanceMethod ({ cls := "SnowRises$World", name := "isBare", desc := "(I)Z" } : Jvm.MethodName)),
  (Jvm.Cond.selects "SnowRises$World" ({ cls := "SnowRises$World", name := "isBare", desc := "(I)Z" } : Jvm.MethodName) ({ cls := "SnowRises$World", name := "isBare", desc := "(I)Z" } : Jvm.MethodName)),
  (Jvm.Cond.code ({ cls := "SnowRises$World", name := "allStirsFit", desc := "(II)Z" } : Jvm.MethodName) prog_11_method_30_code (5 : Nat) (Option.some Jvm.ClassFile.FieldType.boolean)),
  (Jvm.Cond.instanceMethod ({ cls := "SnowRises$World", name := "allStirsFit", desc := "(II)Z" } : Jvm.MethodName)),
  (Jvm.Cond.code ({ cls := "SnowRises$World", name := "begin", desc := "(II)V" } : Jvm.MethodName) prog_11_method_2_code (4 : Nat) (Option.none : Option Jvm.ClassFile.FieldType)),
  (Jvm.Cond.instanceMethod ({ cls := "SnowRises$World", name := "begin", desc := "(II)V" } : Jvm.MethodName)),
  (Jvm.Cond.code ({ cls := "SnowRises", name := "within", desc := "(II)Z" } : Jvm.MethodName) prog_1_method_43_code (2 : Nat) (Option.some Jvm.ClassFile.FieldType.boolean)),
  (Jvm.Cond.static ({ cls := "SnowRises", name := "within", desc := "(II)Z" } : Jvm.MethodName)),
  (Jvm.Cond.code ({ cls := "SnowRises$Folk", name := "add", desc := "(IIII)I" } : Jvm.MethodName) prog_3_method_2_code (5 : Nat) (Option.some Jvm.ClassFile.FieldType.int)),
  (Jvm.Cond.instanceMethod ({ cls := "SnowRises$Folk", name := "add", desc := "(IIII)I" } : Jvm.MethodName)),
  (Jvm.Cond.selects "SnowRises$Folk" ({ cls := "SnowRises$Folk", name := "add", desc := "(IIII)I" } : Jvm.MethodName) ({ cls := "SnowRises$Folk", name := "add", desc := "(IIII)I" } : Jvm.MethodName)),
  (Jvm.Cond.code ({ cls := "SnowRises", name := "setValley", desc := "(II)Z" } : Jvm.MethodName) prog_1_method_6_code (3 : Nat) (Option.some Jvm.ClassFile.FieldType.boolean)),
  (Jvm.Cond.instanceMethod ({ cls := "SnowRises", name := "setValley", desc := "(II)Z" } : Jvm.MethodName)),
  (Jvm.Cond.code ({ cls := "SnowRises", name := "setOne", desc := "(III)Z" } : Jvm.MethodName) prog_1_method_7_code (4 : Nat) (Option.some Jvm.ClassFile.FieldType.boolean)),
  (Jvm.Cond.instanceMethod ({ cls := "SnowRises", name := "setOne", desc := "(III)Z" } : Jvm.MethodName)),
  (Jvm.Cond.code ({ cls := "SnowRises$Folk", name := "areTwo", desc := "(II)Z" } : Jvm.MethodName) prog_3_method_4_code (3 : Nat) (Option.some Jvm.ClassFile.FieldType.boolean))] : List Jvm.Con,
  (Jvm.Cond.instanceMethod ({ cls := "SnowRises$Folk", name := "areTwo", desc := "(II)Z" } : Jvm.MethodName)),
  (Jvm.Cond.selects "SnowRises$Folk" ({ cls := "SnowRises$Folk", name := "areTwo", desc := "(II)Z" } : Jvm.MethodName) ({ cls := "SnowRises$Folk", name := "areTwo", desc := "(II)Z" } : Jvm.MethodName)),
  (Jvm.Cond.code ({ cls := "SnowRises$Folk", name := "makeKin", desc := "(IIZ)V" } : Jvm.MethodName) prog_3_method_8_code (4 : Nat) (Option.none : Option Jvm.ClassFile.FieldType)),
  (Jvm.Cond.instanceMethod ({ cls := "SnowRises$Folk", name := "makeKin", desc := "(IIZ)V" } : Jvm.MethodName)),
  (Jvm.Cond.selects "SnowRises$Folk" ({ cls := "SnowRises$Folk", name := "makeKin", desc := "(IIZ)V" } : Jvm.MethodName) ({ cls := "SnowRises$Folk", name := "makeKin", desc := "(IIZ)V" } : Jvm.MethodName)),
  (Jvm.Cond.initialized "SnowRises$Past"),
  (Jvm.Cond.code ({ cls := "SnowRises$Past", name := "keep", desc := "(LSnowRises$World;)V" } : Jvm.MethodName) prog_5_method_2_code (3 : Nat) (Option.none : Option Jvm.ClassFile.FieldType)),
  (Jvm.Cond.instanceMethod ({ cls := "SnowRises$Past", name := "keep", desc := "(LSnowRises$World;)V" } : Jvm.MethodName)),
  (Jvm.Cond.selects "SnowRises$Past" ({ cls := "SnowRises$Past", name := "keep", desc := "(LSnowRises$World;)V" } : Jvm.MethodName) ({ cls := "SnowRises$Past", name := "keep", desc := "(LSnowRises$World;)V" } : Jvm.MethodName)),
  (Jvm.Cond.code ({ cls := "SnowRises$World", name := "passDay", desc := "()I" } : Jvm.MethodName) prog_11_method_20_code (4 : Nat) (Option.some Jvm.ClassFile.FieldType.int)),
  (Jvm.Cond.instanceMethod ({ cls := "SnowRises$World", name := "passDay", desc := "()I" } : Jvm.MethodName)),
  (Jvm.Cond.selects "SnowRises$World" ({ cls := "SnowRises$World", name := "passDay", desc := "()I" } : Jvm.MethodName) ({ cls := "SnowRises$World", name := "passDay", desc := "()I" } : Jvm.MethodName)),
  (Jvm.Cond.code ({ cls := "SnowRises$Tape", name := "put", desc := "(I)V" } : Jvm.MethodName) prog_9_method_2_code (3 : Nat) (Option.none : Option Jvm.ClassFile.FieldType)),
  (Jvm.Cond.instanceMethod ({ cls := "SnowRises$Tape", name := "put", desc := "(I)V" } : Jvm.MethodName)),
  (Jvm.Cond.selects "SnowRises$Tape" ({ cls := "SnowRises$Tape", name := "put", desc := "(I)V" } : Jvm.MethodName) ({ cls := "SnowRises$Tape", name := "put", desc := "(I)V" } : Jvm.MethodName)),
  (Jvm.Cond.code ({ cls := "SnowRises$Tape", name := "split", desc := "()V" } : Jvm.MethodName) prog_9_method_6_code (5 : Nat) (Option.none : Option Jvm.ClassFile.FieldType)),
  (Jvm.Cond.instanceMethod ({ cls := "SnowRises$Tape", name := "split", desc := "()V" } : Jvm.MethodName)),
  (Jvm.Cond.selects "SnowRises$Tape" ({ cls := "SnowRises$Tape", name := "split", desc := "()V" } : Jvm.MethodName) ({ cls := "SnowRises$Tape", name := "split", desc := "()V" } : Jvm.MethodName)),
  (Jvm.Cond.code ({ cls := "SnowRises$Reader", name := "reads", desc := "(I)Z" } : Jvm.MethodName) prog_6_method_2_code (4 : Nat) (Option.some Jvm.ClassFile.FieldType.boolean)),
  (Jvm.Cond.instanceMethod ({ cls := "SnowRises$Reader", name := "reads", desc := "(I)Z" } : Jvm.MethodName)),
  (Jvm.Cond.selects "SnowRises$Reader" ({ cls := "SnowRises$Reader", name := "reads", desc := "(I)Z" } : Jvm.MethodName) ({ cls := "SnowRises$Reader", name := "reads", desc := "(I)Z" } : Jvm.MethodName)),
  (Jvm.Cond.code ({ cls := "SnowRises$World", name := "take", desc := "(ILSnowRises$World;)I" } : Jvm.MethodName) prog_11_method_4_code (4 : Nat) (Option.some Jvm.ClassFile.FieldType.int)),
  (Jvm.Cond.instanceMethod ({ cls := "SnowRises$World", name := "take", desc := "(ILSnowRises$World;)I" } : Jvm.MethodName)),
  (Jvm.Cond.selects "SnowRises$World" ({ cls := "SnowRises$World", name := "take", desc := "(ILSnowRises$World;)I" } : Jvm.MethodName) ({ cls := "SnowRises$World", name := "take", desc := "(ILSnowRises$World;)I" } : Jvm.MethodName)),
  (Jvm.Cond.code ({ cls := "SnowRises$World", name := "copy", desc := "(LSnowRises$World;)V" } : Jvm.MethodName) prog_11_method_3_code (2 : Nat) (Option.none : Option Jvm.ClassFile.FieldType)),
  (Jvm.Cond.instanceMethod ({ cls := "SnowRises$World", name := "copy", desc := "(LSnowRises$World;)V" } : Jvm.MethodName)),
  (Jvm.Cond.selects "SnowRises$World" ({ cls := "SnowRises$World", name := "copy", desc := "(LSnowRises$World;)V" } : Jvm.MethodName) ({ cls := "SnowRises$World", name := "copy", desc := "(LSnowRises$World;)V" } : Jvm.MethodName)),
  (Jvm.Cond.code ({ cls := "SnowRises", name := "beginThought", desc := "()V" } : Jvm.MethodName) prog_1_method_42_code (1 : Nat) (Option.none : Option Jvm.ClassFile.FieldType)),
  (Jvm.Cond.instanceMethod ({ cls := "SnowRises", name := "beginThought", desc := "()V" } : Jvm.MethodName)),
  (Jvm.Cond.code ({ cls := "SnowRises$World", name := "firstVoid", desc := "()I" } : Jvm.MethodName) prog_11_method_24_code (6 : Nat) (Option.some Jvm.ClassFile.FieldType.int)),
  (Jvm.Cond.instanceMethod ({ cls := "SnowRises$World", name := "firstVoid", desc := "()I" } : Jvm.MethodName)),
  (Jvm.Cond.selects "SnowRises$World" ({ cls := "SnowRises$World", name := "firstVoid", desc := "()I" } : Jvm.MethodName) ({ cls := "SnowRises$World", name := "firstVoid", desc := "()I" } : Jvm.MethodName)),
  (Jvm.Cond.code ({ cls := "SnowRises$World", name := "unmetWant", desc := "(I)I" } : Jvm.MethodName) prog_11_method_26_code (3 : Nat) (Option.some Jvm.ClassFile.FieldType.int))] : List Jvm.Con,
  (Jvm.Cond.instanceMethod ({ cls := "SnowRises$World", name := "unmetWant", desc := "(I)I" } : Jvm.MethodName)),
  (Jvm.Cond.selects "SnowRises$World" ({ cls := "SnowRises$World", name := "unmetWant", desc := "(I)I" } : Jvm.MethodName) ({ cls := "SnowRises$World", name := "unmetWant", desc := "(I)I" } : Jvm.MethodName)),
  (Jvm.Cond.code ({ cls := "SnowRises$World", name := "worthMet", desc := "(I)I" } : Jvm.MethodName) prog_11_method_27_code (4 : Nat) (Option.some Jvm.ClassFile.FieldType.int)),
  (Jvm.Cond.instanceMethod ({ cls := "SnowRises$World", name := "worthMet", desc := "(I)I" } : Jvm.MethodName)),
  (Jvm.Cond.selects "SnowRises$World" ({ cls := "SnowRises$World", name := "worthMet", desc := "(I)I" } : Jvm.MethodName) ({ cls := "SnowRises$World", name := "worthMet", desc := "(I)I" } : Jvm.MethodName)),
  (Jvm.Cond.code ({ cls := "SnowRises$Couples", name := "settle", desc := "(LSnowRises$World;)V" } : Jvm.MethodName) prog_2_method_3_code (5 : Nat) (Option.none : Option Jvm.ClassFile.FieldType)),
  (Jvm.Cond.instanceMethod ({ cls := "SnowRises$Couples", name := "settle", desc := "(LSnowRises$World;)V" } : Jvm.MethodName)),
  (Jvm.Cond.selects "SnowRises$Couples" ({ cls := "SnowRises$Couples", name := "settle", desc := "(LSnowRises$World;)V" } : Jvm.MethodName) ({ cls := "SnowRises$Couples", name := "settle", desc := "(LSnowRises$World;)V" } : Jvm.MethodName)),
  (Jvm.Cond.code ({ cls := "SnowRises$Couples", name := "pair", desc := "(LSnowRises$World;)I" } : Jvm.MethodName) prog_2_method_5_code (5 : Nat) (Option.some Jvm.ClassFile.FieldType.int)),
  (Jvm.Cond.instanceMethod ({ cls := "SnowRises$Couples", name := "pair", desc := "(LSnowRises$World;)I" } : Jvm.MethodName)),
  (Jvm.Cond.selects "SnowRises$Couples" ({ cls := "SnowRises$Couples", name := "pair", desc := "(LSnowRises$World;)I" } : Jvm.MethodName) ({ cls := "SnowRises$Couples", name := "pair", desc := "(LSnowRises$World;)I" } : Jvm.MethodName)),
  (Jvm.Cond.code ({ cls := "SnowRises$Couples", name := "baring", desc := "(LSnowRises$World;I)I" } : Jvm.MethodName) prog_2_method_9_code (7 : Nat) (Option.some Jvm.ClassFile.FieldType.int)),
  (Jvm.Cond.instanceMethod ({ cls := "SnowRises$Couples", name := "baring", desc := "(LSnowRises$World;I)I" } : Jvm.MethodName)),
  (Jvm.Cond.selects "SnowRises$Couples" ({ cls := "SnowRises$Couples", name := "baring", desc := "(LSnowRises$World;I)I" } : Jvm.MethodName) ({ cls := "SnowRises$Couples", name := "baring", desc := "(LSnowRises$World;I)I" } : Jvm.MethodName)),
  (Jvm.Cond.code ({ cls := "SnowRises$World", name := "whoCanBe", desc := "(I)I" } : Jvm.MethodName) prog_11_method_29_code (4 : Nat) (Option.some Jvm.ClassFile.FieldType.int)),
  (Jvm.Cond.instanceMethod ({ cls := "SnowRises$World", name := "whoCanBe", desc := "(I)I" } : Jvm.MethodName)),
  (Jvm.Cond.selects "SnowRises$World" ({ cls := "SnowRises$World", name := "whoCanBe", desc := "(I)I" } : Jvm.MethodName) ({ cls := "SnowRises$World", name := "whoCanBe", desc := "(I)I" } : Jvm.MethodName)),
  (Jvm.Cond.code ({ cls := "SnowRises$Couples", name := "nextToPass", desc := "(LSnowRises$World;II)I" } : Jvm.MethodName) prog_2_method_11_code (8 : Nat) (Option.some Jvm.ClassFile.FieldType.int)),
  (Jvm.Cond.instanceMethod ({ cls := "SnowRises$Couples", name := "nextToPass", desc := "(LSnowRises$World;II)I" } : Jvm.MethodName)),
  (Jvm.Cond.selects "SnowRises$Couples" ({ cls := "SnowRises$Couples", name := "nextToPass", desc := "(LSnowRises$World;II)I" } : Jvm.MethodName) ({ cls := "SnowRises$Couples", name := "nextToPass", desc := "(LSnowRises$World;II)I" } : Jvm.MethodName)),
  (Jvm.Cond.code ({ cls := "SnowRises$Ways", name := "fewestSteps", desc := "(LSnowRises$World;II)I" } : Jvm.MethodName) prog_10_method_2_code (8 : Nat) (Option.some Jvm.ClassFile.FieldType.int)),
  (Jvm.Cond.instanceMethod ({ cls := "SnowRises$Ways", name := "fewestSteps", desc := "(LSnowRises$World;II)I" } : Jvm.MethodName)),
  (Jvm.Cond.selects "SnowRises$Ways" ({ cls := "SnowRises$Ways", name := "fewestSteps", desc := "(LSnowRises$World;II)I" } : Jvm.MethodName) ({ cls := "SnowRises$Ways", name := "fewestSteps", desc := "(LSnowRises$World;II)I" } : Jvm.MethodName)),
  (Jvm.Cond.code ({ cls := "SnowRises$Ways", name := "fewestToCut", desc := "(LSnowRises$World;II)I" } : Jvm.MethodName) prog_10_method_3_code (6 : Nat) (Option.some Jvm.ClassFile.FieldType.int)),
  (Jvm.Cond.instanceMethod ({ cls := "SnowRises$Ways", name := "fewestToCut", desc := "(LSnowRises$World;II)I" } : Jvm.MethodName)),
  (Jvm.Cond.selects "SnowRises$Ways" ({ cls := "SnowRises$Ways", name := "fewestToCut", desc := "(LSnowRises$World;II)I" } : Jvm.MethodName) ({ cls := "SnowRises$Ways", name := "fewestToCut", desc := "(LSnowRises$World;II)I" } : Jvm.MethodName)),
  (Jvm.Cond.code ({ cls := "SnowRises$Rounds", name := "make", desc := "(LSnowRises$World;)V" } : Jvm.MethodName) prog_7_method_2_code (5 : Nat) (Option.none : Option Jvm.ClassFile.FieldType)),
  (Jvm.Cond.instanceMethod ({ cls := "SnowRises$Rounds", name := "make", desc := "(LSnowRises$World;)V" } : Jvm.MethodName)),
  (Jvm.Cond.selects "SnowRises$Rounds" ({ cls := "SnowRises$Rounds", name := "make", desc := "(LSnowRises$World;)V" } : Jvm.MethodName) ({ cls := "SnowRises$Rounds", name := "make", desc := "(LSnowRises$World;)V" } : Jvm.MethodName)),
  (Jvm.Cond.code ({ cls := "SnowRises$Rounds", name := "dayOf", desc := "(I)I" } : Jvm.MethodName) prog_7_method_5_code (3 : Nat) (Option.some Jvm.ClassFile.FieldType.int)),
  (Jvm.Cond.instanceMethod ({ cls := "SnowRises$Rounds", name := "dayOf", desc := "(I)I" } : Jvm.MethodName)),
  (Jvm.Cond.selects "SnowRises$Rounds" ({ cls := "SnowRises$Rounds", name := "dayOf", desc := "(I)I" } : Jvm.MethodName) ({ cls := "SnowRises$Rounds", name := "dayOf", desc := "(I)I" } : Jvm.MethodName)),
  (Jvm.Cond.code ({ cls := "java/lang/Math", name := "floorDiv", desc := "(II)I" } : Jvm.MethodName) prog_16_method_47_code (3 : Nat) (Option.some Jvm.ClassFile.FieldType.int)),
  (Jvm.Cond.static ({ cls := "java/lang/Math", name := "floorDiv", desc := "(II)I" } : Jvm.MethodName)),
  (Jvm.Cond.code ({ cls := "SnowRises$World", name := "worthBare", desc := "()I" } : Jvm.MethodName) prog_11_method_28_code (3 : Nat) (Option.some Jvm.ClassFile.FieldType.int)),
  (Jvm.Cond.instanceMethod ({ cls := "SnowRises$World", name := "worthBare", desc := "()I" } : Jvm.MethodName)),
  (Jvm.Cond.selects "SnowRises$World" ({ cls := "SnowRises$World", name := "worthBare", desc := "()I" } : Jvm.MethodName) ({ cls := "SnowRises$World", name := "worthBare", desc := "()I" } : Jvm.MethodName)),
  (Jvm.Cond.code ({ cls := "SnowRises$Folk", name := "allKinOf", desc := "(I)I" } : Jvm.MethodName) prog_3_method_10_code (5 : Nat) (Option.some Jvm.ClassFile.FieldType.int)),
  (Jvm.Cond.instanceMethod ({ cls := "SnowRises$Folk", name := "allKinOf", desc := "(I)I" } : Jvm.MethodName)),
  (Jvm.Cond.selects "SnowRises$Folk" ({ cls := "SnowRises$Folk", name := "allKinOf", desc := "(I)I" } : Jvm.MethodName) ({ cls := "SnowRises$Folk", name := "allKinOf", desc := "(I)I" } : Jvm.MethodName)),
  (Jvm.Cond.code ({ cls := "SnowRises$Past", name := "giveBack", desc := "(LSnowRises$World;)Z" } : Jvm.MethodName) prog_5_method_3_code (3 : Nat) (Option.some Jvm.ClassFile.FieldType.boolean)),
  (Jvm.Cond.instanceMethod ({ cls := "SnowRises$Past", name := "giveBack", desc := "(LSnowRises$World;)Z" } : Jvm.MethodName)),
  (Jvm.Cond.selects "SnowRises$Past" ({ cls := "SnowRises$Past", name := "giveBack", desc := "(LSnowRises$World;)Z" } : Jvm.MethodName) ({ cls := "SnowRises$Past", name := "giveBack", desc := "(LSnowRises$World;)Z" } : Jvm.MethodName)),
  (Jvm.Cond.code ({ cls := "SnowRises$World", name := "bareFields", desc := "()I" } : Jvm.MethodName) prog_11_method_9_code (3 : Nat) (Option.some Jvm.ClassFile.FieldType.int)),
  (Jvm.Cond.instanceMethod ({ cls := "SnowRises$World", name := "bareFields", desc := "()I" } : Jvm.MethodName)),
  (Jvm.Cond.selects "SnowRises$World" ({ cls := "SnowRises$World", name := "bareFields", desc := "()I" } : Jvm.MethodName) ({ cls := "SnowRises$World", name := "bareFields", desc := "()I" } : Jvm.MethodName)),
  (Jvm.Cond.initialized "SnowRisesModel"),
  (Jvm.Cond.code ({ cls := "SnowRisesModel", name := "isIn", desc := "(III)Z" } : Jvm.MethodName) prog_13_method_3_code (3 : Nat) (Option.some Jvm.ClassFile.FieldType.boolean)),
  (Jvm.Cond.static ({ cls := "SnowRisesModel", name := "isIn", desc := "(III)Z" } : Jvm.MethodName)),
  (Jvm.Cond.code ({ cls := "SnowRisesModel", name := "isOn", desc := "(II)Z" } : Jvm.MethodName) prog_13_method_7_code (3 : Nat) (Option.some Jvm.ClassFile.FieldType.boolean)),
  (Jvm.Cond.instanceMethod ({ cls := "SnowRisesModel", name := "isOn", desc := "(II)Z" } : Jvm.MethodName)),
  (Jvm.Cond.code ({ cls := "SnowRisesModel", name := "isField", desc := "(I)Z" } : Jvm.MethodName) prog_13_method_8_code (2 : Nat) (Option.some Jvm.ClassFile.FieldType.boolean)),
  (Jvm.Cond.instanceMethod ({ cls := "SnowRisesModel", name := "isField", desc := "(I)Z" } : Jvm.MethodName)),
  (Jvm.Cond.code ({ cls := "SnowRisesModel", name := "isPerson", desc := "(I)Z" } : Jvm.MethodName) prog_13_method_9_code (2 : Nat) (Option.some Jvm.ClassFile.FieldType.boolean)),
  (Jvm.Cond.instanceMethod ({ cls := "SnowRisesModel", name := "isPerson", desc := "(I)Z" } : Jvm.MethodName)),
  (Jvm.Cond.code ({ cls := "SnowRisesModel", name := "size", desc := "(I)I" } : Jvm.MethodName) prog_13_method_6_code (1 : Nat) (Option.some Jvm.ClassFile.FieldType.int)),
  (Jvm.Cond.static ({ cls := "SnowRisesModel", name := "size", desc := "(I)I" } : Jvm.MethodName)),
  (Jvm.Cond.code ({ cls := "SnowRisesModel", name := "forgets", desc := "()V" } : Jvm.MethodName) prog_13_method_15_code (1 : Nat) (Option.none : Option Jvm.ClassFile.FieldType)),
  (Jvm.Cond.instanceMethod ({ cls := "SnowRisesModel", name := "forgets", desc := "()V" } : Jvm.MethodName)),
  (Jvm.Cond.code ({ cls := "SnowRisesModel", name := "begins", desc := "(II)V" } : Jvm.MethodName) prog_13_method_2_code (5 : Nat) (Option.none : Option Jvm.ClassFile.FieldType)),
  (Jvm.Cond.instanceMethod ({ cls := "SnowRisesModel", name := "begins", desc := "(II)V" } : Jvm.MethodName)),
  (Jvm.Cond.code ({ cls := "SnowRisesModel", name := "canSet", desc := "(III)Z" } : Jvm.MethodName) prog_13_method_20_code (4 : Nat) (Option.some Jvm.ClassFile.FieldType.boolean)),
  (Jvm.Cond.instanceMethod ({ cls := "SnowRisesModel", name := "canSet", desc := "(III)Z" } : Jvm.MethodName)),
  (Jvm.Cond.code ({ cls := "SnowRisesModel", name := "placeOf", desc := "(II)I" } : Jvm.MethodName) prog_13_method_21_code (2 : Nat) (Option.some Jvm.ClassFile.FieldType.int)),
  (Jvm.Cond.static ({ cls := "SnowRisesModel", name := "placeOf", desc := "(II)I" } : Jvm.MethodName)),
  (Jvm.Cond.code ({ cls := "SnowRisesModel", name := "is", desc := "(Ljava/lang/String;)Z" } : Jvm.MethodName) prog_13_method_29_code (4 : Nat) (Option.some Jvm.ClassFile.FieldType.boolean)),
  (Jvm.Cond.instanceMethod ({ cls := "SnowRisesModel", name := "is", desc := "(Ljava/lang/String;)Z" } : Jvm.MethodName)),
  (Jvm.Cond.code ({ cls := "SnowRisesModel", name := "asked", desc := "()I" } : Jvm.MethodName) prog_13_method_30_code (1 : Nat) (Option.some Jvm.ClassFile.FieldType.int)),
  (Jvm.Cond.instanceMethod ({ cls := "SnowRisesModel", name := "asked", desc := "()I" } : Jvm.MethodName)),
  (Jvm.Cond.code ({ cls := "SnowRisesModel", name := "lawWord", desc := "()I" } : Jvm.MethodName) prog_13_method_31_code (1 : Nat) (Option.some Jvm.ClassFile.FieldType.int)),
  (Jvm.Cond.instanceMethod ({ cls := "SnowRisesModel", name := "lawWord", desc := "()I" } : Jvm.MethodName)),
  (Jvm.Cond.code ({ cls := "SnowRisesModel", name := "vowWord", desc := "()I" } : Jvm.MethodName) prog_13_method_32_code (1 : Nat) (Option.some Jvm.ClassFile.FieldType.int)),
  (Jvm.Cond.instanceMethod ({ cls := "SnowRisesModel", name := "vowWord", desc := "()I" } : Jvm.MethodName)),
  (Jvm.Cond.code ({ cls := "SnowRisesModel", name := "weatherWord", desc := "()I" } : Jvm.MethodName) prog_13_method_33_code (1 : Nat) (Option.some Jvm.ClassFile.FieldType.int)),
  (Jvm.Cond.instanceMethod ({ cls := "SnowRisesModel", name := "weatherWord", desc := "()I" } : Jvm.MethodName)),
  (Jvm.Cond.code ({ cls := "SnowRisesModel", name := "wantWord", desc := "()I" } : Jvm.MethodName) prog_13_method_34_code (1 : Nat) (Option.some Jvm.ClassFile.FieldType.int)),
  (Jvm.Cond.instanceMethod ({ cls := "SnowRisesModel", name := "wantWord", desc := "()I" } : Jvm.MethodName)),
  (Jvm.Cond.code ({ cls := "SnowRisesModel", name := "see", desc := "(I)I" } : Jvm.MethodName) prog_13_method_26_code (2 : Nat) (Option.some Jvm.ClassFile.FieldType.int)),
  (Jvm.Cond.instanceMethod ({ cls := "SnowRisesModel", name := "see", desc := "(I)I" } : Jvm.MethodName)),
  (Jvm.Cond.code ({ cls := "SnowRisesModel", name := "isLetter", desc := "(I)Z" } : Jvm.MethodName) prog_13_method_27_code (1 : Nat) (Option.some Jvm.ClassFile.FieldType.boolean)),
  (Jvm.Cond.static ({ cls := "SnowRisesModel", name := "isLetter", desc := "(I)Z" } : Jvm.MethodName)),
  (Jvm.Cond.code ({ cls := "SnowRisesModel", name := "word", desc := "()I" } : Jvm.MethodName) prog_13_method_35_code (1 : Nat) (Option.some Jvm.ClassFile.FieldType.int)),
  (Jvm.Cond.instanceMethod ({ cls := "SnowRisesModel", name := "word", desc := "()I" } : Jvm.MethodName)),
  (Jvm.Cond.code ({ cls := "SnowRisesModel", name := "isDigit", desc := "(I)Z" } : Jvm.MethodName) prog_13_method_28_code (1 : Nat) (Option.some Jvm.ClassFile.FieldType.boolean)),
  (Jvm.Cond.static ({ cls := "SnowRisesModel", name := "isDigit", desc := "(I)Z" } : Jvm.MethodName)),
  (Jvm.Cond.code ({ cls := "SnowRisesModel", name := "bad", desc := "(I)Z" } : Jvm.MethodName) prog_13_method_37_code (2 : Nat) (Option.some Jvm.ClassFile.FieldType.boolean)),
  (Jvm.Cond.instanceMethod ({ cls := "SnowRisesModel", name := "bad", desc := "(I)Z" } : Jvm.MethodName)),
  (Jvm.Cond.code ({ cls := "SnowRisesModel", name := "next0", desc := "()V" } : Jvm.MethodName) prog_13_method_36_code (3 : Nat) (Option.none : Option Jvm.ClassFile.FieldType)),
  (Jvm.Cond.instanceMethod ({ cls := "SnowRisesModel", name := "next0", desc := "()V" } : Jvm.MethodName)),
  (Jvm.Cond.code ({ cls := "SnowRisesModel", name := "lay", desc := "(II)V" } : Jvm.MethodName) prog_13_method_39_code (3 : Nat) (Option.none : Option Jvm.ClassFile.FieldType)),
  (Jvm.Cond.instanceMethod ({ cls := "SnowRisesModel", name := "lay", desc := "(II)V" } : Jvm.MethodName)),
  (Jvm.Cond.code ({ cls := "SnowRisesModel", name := "unit", desc := "()Z" } : Jvm.MethodName) prog_13_method_43_code (2 : Nat) (Option.some Jvm.ClassFile.FieldType.boolean)),
  (Jvm.Cond.instanceMethod ({ cls := "SnowRisesModel", name := "unit", desc := "()Z" } : Jvm.MethodName)),
  (Jvm.Cond.code ({ cls := "SnowRisesModel", name := "product", desc := "()Z" } : Jvm.MethodName) prog_13_method_42_code (3 : Nat) (Option.some Jvm.ClassFile.FieldType.boolean)),
  (Jvm.Cond.instanceMethod ({ cls := "SnowRisesModel", name := "product", desc := "()Z" } : Jvm.MethodName)),
  (Jvm.Cond.code ({ cls := "SnowRisesModel", name := "every", desc := "()Z" } : Jvm.MethodName) prog_13_method_45_code (1 : Nat) (Option.some Jvm.ClassFile.FieldType.boolean)),
  (Jvm.Cond.instanceMethod ({ cls := "SnowRisesModel", name := "every", desc := "()Z" } : Jvm.MethodName)),
  (Jvm.Cond.code ({ cls := "SnowRisesModel", name := "oneTest", desc := "()Z" } : Jvm.MethodName) prog_13_method_46_code (2 : Nat) (Option.some Jvm.ClassFile.FieldType.boolean)),
  (Jvm.Cond.instanceMethod ({ cls := "SnowRisesModel", name := "oneTest", desc := "()Z" } : Jvm.MethodName)),
  (Jvm.Cond.code ({ cls := "SnowRisesModel", name := "opens", desc := "()Z" } : Jvm.MethodName) prog_13_method_40_code (1 : Nat) (Option.some Jvm.ClassFile.FieldType.boolean)),
  (Jvm.Cond.instanceMethod ({ cls := "SnowRisesModel", name := "opens", desc := "()Z" } : Jvm.MethodName)),
  (Jvm.Cond.code ({ cls := "SnowRisesModel", name := "any", desc := "()Z" } : Jvm.MethodName) prog_13_method_44_code (1 : Nat) (Option.some Jvm.ClassFile.FieldType.boolean)),
  (Jvm.Cond.instanceMethod ({ cls := "SnowRisesModel", name := "any", desc := "()Z" } : Jvm.MethodName)),
  (Jvm.Cond.code ({ cls := "SnowRisesModel", name := "need", desc := "(I)Z" } : Jvm.MethodName) prog_13_method_38_code (2 : Nat) (Option.some Jvm.ClassFile.FieldType.boolean)),
  (Jvm.Cond.instanceMethod ({ cls := "SnowRisesModel", name := "need", desc := "(I)Z" } : Jvm.MethodName)),
  (Jvm.Cond.code ({ cls := "SnowRisesModel", name := "sumUp", desc := "()Z" } : Jvm.MethodName) prog_13_method_41_code (2 : Nat) (Option.some Jvm.ClassFile.FieldType.boolean)),
  (Jvm.Cond.instanceMethod ({ cls := "SnowRisesModel", name := "sumUp", desc := "()Z" } : Jvm.MethodName)),
  (Jvm.Cond.code ({ cls := "SnowRisesModel", name := "aLine", desc := "()Z" } : Jvm.MethodName) prog_13_method_47_code (1 : Nat) (Option.some Jvm.ClassFile.FieldType.boolean)),
  (Jvm.Cond.instanceMethod ({ cls := "SnowRisesModel", name := "aLine", desc := "()Z" } : Jvm.MethodName)),
  (Jvm.Cond.code ({ cls := "SnowRisesModel", name := "number", desc := "(III)Z" } : Jvm.MethodName) prog_13_method_49_code (4 : Nat) (Option.some Jvm.ClassFile.FieldType.boolean)),
  (Jvm.Cond.instanceMethod ({ cls := "SnowRisesModel", name := "number", desc := "(III)Z" } : Jvm.MethodName)),
  (Jvm.Cond.code ({ cls := "SnowRisesModel", name := "told", desc := "(IIII)Z" } : Jvm.MethodName) prog_13_method_50_code (5 : Nat) (Option.some Jvm.ClassFile.FieldType.boolean)),
  (Jvm.Cond.instanceMethod ({ cls := "SnowRisesModel", name := "told", desc := "(IIII)Z" } : Jvm.MethodName)),
  (Jvm.Cond.code ({ cls := "SnowRisesModel", name := "areUnlike", desc := "(II)Z" } : Jvm.MethodName) prog_13_method_11_code (3 : Nat) (Option.some Jvm.ClassFile.FieldType.boolean)),
  (Jvm.Cond.instanceMethod ({ cls := "SnowRisesModel", name := "areUnlike", desc := "(II)Z" } : Jvm.MethodName)),
  (Jvm.Cond.code ({ cls := "SnowRisesModel", name := "aField", desc := "(II)Z" } : Jvm.MethodName) prog_13_method_51_code (3 : Nat) (Option.some Jvm.ClassFile.FieldType.boolean)),
  (Jvm.Cond.instanceMethod ({ cls := "SnowRisesModel", name := "aField", desc := "(II)Z" } : Jvm.MethodName)),
  (Jvm.Cond.code ({ cls := "SnowRisesModel", name := "aVow", desc := "()Z" } : Jvm.MethodName) prog_13_method_52_code (2 : Nat) (Option.some Jvm.ClassFile.FieldType.boolean)),
  (Jvm.Cond.instanceMethod ({ cls := "SnowRisesModel", name := "aVow", desc := "()Z" } : Jvm.MethodName)),
  (Jvm.Cond.code ({ cls := "SnowRisesModel", name := "aWeather", desc := "()Z" } : Jvm.MethodName) prog_13_method_53_code (1 : Nat) (Option.some Jvm.ClassFile.FieldType.boolean)),
  (Jvm.Cond.instanceMethod ({ cls := "SnowRisesModel", name := "aWeather", desc := "()Z" } : Jvm.MethodName)),
  (Jvm.Cond.code ({ cls := "SnowRisesModel", name := "aWant", desc := "()Z" } : Jvm.MethodName) prog_13_method_54_code (1 : Nat) (Option.some Jvm.ClassFile.FieldType.boolean)),
  (Jvm.Cond.instanceMethod ({ cls := "SnowRisesModel", name := "aWant", desc := "()Z" } : Jvm.MethodName)),
  (Jvm.Cond.code ({ cls := "SnowRisesModel", name := "aRow", desc := "()Z" } : Jvm.MethodName) prog_13_method_55_code (1 : Nat) (Option.some Jvm.ClassFile.FieldType.boolean)),
  (Jvm.Cond.instanceMethod ({ cls := "SnowRisesModel", name := "aRow", desc := "()Z" } : Jvm.MethodName)),
  (Jvm.Cond.code ({ cls := "SnowRisesModel", name := "putsLaw", desc := "()I" } : Jvm.MethodName) prog_13_method_57_code (2 : Nat) (Option.some Jvm.ClassFile.FieldType.int)),
  (Jvm.Cond.instanceMethod ({ cls := "SnowRisesModel", name := "putsLaw", desc := "()I" } : Jvm.MethodName)),
  (Jvm.Cond.code ({ cls := "SnowRisesModel", name := "puts", desc := "(III)I" } : Jvm.MethodName) prog_13_method_58_code (5 : Nat) (Option.some Jvm.ClassFile.FieldType.int)),
  (Jvm.Cond.instanceMethod ({ cls := "SnowRisesModel", name := "puts", desc := "(III)I" } : Jvm.MethodName)),
  (Jvm.Cond.code ({ cls := "SnowRisesModel", name := "readsLaw", desc := "()Z" } : Jvm.MethodName) prog_13_method_48_code (2 : Nat) (Option.some Jvm.ClassFile.FieldType.boolean))] : List Jvm.Con,
  (Jvm.Cond.instanceMethod ({ cls := "SnowRisesModel", name := "readsLaw", desc := "()Z" } : Jvm.MethodName)),
  (Jvm.Cond.code ({ cls := "SnowRisesModel", name := "readsRows", desc := "()Z" } : Jvm.MethodName) prog_13_method_56_code (3 : Nat) (Option.some Jvm.ClassFile.FieldType.boolean)),
  (Jvm.Cond.instanceMethod ({ cls := "SnowRisesModel", name := "readsRows", desc := "()Z" } : Jvm.MethodName)),
  (Jvm.Cond.code ({ cls := "SnowRisesModel", name := "putsText", desc := "(I)I" } : Jvm.MethodName) prog_13_method_59_code (2 : Nat) (Option.some Jvm.ClassFile.FieldType.int)),
  (Jvm.Cond.instanceMethod ({ cls := "SnowRisesModel", name := "putsText", desc := "(I)I" } : Jvm.MethodName)),
  (Jvm.Cond.code ({ cls := "SnowRisesModel", name := "both", desc := "(III)I" } : Jvm.MethodName) prog_13_method_62_code (3 : Nat) (Option.some Jvm.ClassFile.FieldType.int)),
  (Jvm.Cond.static ({ cls := "SnowRisesModel", name := "both", desc := "(III)I" } : Jvm.MethodName)),
  (Jvm.Cond.code ({ cls := "SnowRisesModel", name := "comesTo", desc := "(III)I" } : Jvm.MethodName) prog_13_method_63_code (8 : Nat) (Option.some Jvm.ClassFile.FieldType.int)),
  (Jvm.Cond.instanceMethod ({ cls := "SnowRisesModel", name := "comesTo", desc := "(III)I" } : Jvm.MethodName)),
  (Jvm.Cond.code ({ cls := "SnowRisesModel", name := "isSo", desc := "(I)Z" } : Jvm.MethodName) prog_13_method_64_code (2 : Nat) (Option.some Jvm.ClassFile.FieldType.boolean)),
  (Jvm.Cond.instanceMethod ({ cls := "SnowRisesModel", name := "isSo", desc := "(I)Z" } : Jvm.MethodName)),
  (Jvm.Cond.code ({ cls := "SnowRisesModel", name := "lesser", desc := "(II)I" } : Jvm.MethodName) prog_13_method_4_code (2 : Nat) (Option.some Jvm.ClassFile.FieldType.int)),
  (Jvm.Cond.static ({ cls := "SnowRisesModel", name := "lesser", desc := "(II)I" } : Jvm.MethodName)),
  (Jvm.Cond.code ({ cls := "SnowRisesModel", name := "greater", desc := "(II)I" } : Jvm.MethodName) prog_13_method_5_code (2 : Nat) (Option.some Jvm.ClassFile.FieldType.int)),
  (Jvm.Cond.static ({ cls := "SnowRisesModel", name := "greater", desc := "(II)I" } : Jvm.MethodName)),
  (Jvm.Cond.code ({ cls := "SnowRisesModel", name := "clears", desc := "()V" } : Jvm.MethodName) prog_13_method_65_code (2 : Nat) (Option.none : Option Jvm.ClassFile.FieldType)),
  (Jvm.Cond.instanceMethod ({ cls := "SnowRisesModel", name := "clears", desc := "()V" } : Jvm.MethodName)),
  (Jvm.Cond.code ({ cls := "SnowRisesModel", name := "laysTwo", desc := "(II)V" } : Jvm.MethodName) prog_13_method_67_code (3 : Nat) (Option.none : Option Jvm.ClassFile.FieldType)),
  (Jvm.Cond.instanceMethod ({ cls := "SnowRisesModel", name := "laysTwo", desc := "(II)V" } : Jvm.MethodName)),
  (Jvm.Cond.code ({ cls := "SnowRisesModel", name := "says", desc := "(III)I" } : Jvm.MethodName) prog_13_method_66_code (5 : Nat) (Option.some Jvm.ClassFile.FieldType.int)),
  (Jvm.Cond.instanceMethod ({ cls := "SnowRisesModel", name := "says", desc := "(III)I" } : Jvm.MethodName)),
  (Jvm.Cond.code ({ cls := "SnowRisesModel", name := "matchOf", desc := "(II)I" } : Jvm.MethodName) prog_13_method_68_code (3 : Nat) (Option.some Jvm.ClassFile.FieldType.int)),
  (Jvm.Cond.instanceMethod ({ cls := "SnowRisesModel", name := "matchOf", desc := "(II)I" } : Jvm.MethodName)),
  (Jvm.Cond.code ({ cls := "SnowRisesModel", name := "foundOf", desc := "(II)I" } : Jvm.MethodName) prog_13_method_69_code (3 : Nat) (Option.some Jvm.ClassFile.FieldType.int)),
  (Jvm.Cond.instanceMethod ({ cls := "SnowRisesModel", name := "foundOf", desc := "(II)I" } : Jvm.MethodName)),
  (Jvm.Cond.code ({ cls := "SnowRisesModel", name := "apart", desc := "(II)I" } : Jvm.MethodName) prog_13_method_13_code (2 : Nat) (Option.some Jvm.ClassFile.FieldType.int)),
  (Jvm.Cond.static ({ cls := "SnowRisesModel", name := "apart", desc := "(II)I" } : Jvm.MethodName)),
  (Jvm.Cond.code ({ cls := "SnowRisesModel", name := "isFree", desc := "(I)Z" } : Jvm.MethodName) prog_13_method_10_code (2 : Nat) (Option.some Jvm.ClassFile.FieldType.boolean)),
  (Jvm.Cond.instanceMethod ({ cls := "SnowRisesModel", name := "isFree", desc := "(I)Z" } : Jvm.MethodName)),
  (Jvm.Cond.code ({ cls := "SnowRisesModel", name := "liftOf", desc := "(IIII)I" } : Jvm.MethodName) prog_13_method_70_code (6 : Nat) (Option.some Jvm.ClassFile.FieldType.int)),
  (Jvm.Cond.instanceMethod ({ cls := "SnowRisesModel", name := "liftOf", desc := "(IIII)I" } : Jvm.MethodName)),
  (Jvm.Cond.code ({ cls := "SnowRisesModel", name := "lifts", desc := "(IIII)I" } : Jvm.MethodName) prog_13_method_76_code (7 : Nat) (Option.some Jvm.ClassFile.FieldType.int)),
  (Jvm.Cond.instanceMethod ({ cls := "SnowRisesModel", name := "lifts", desc := "(IIII)I" } : Jvm.MethodName)),
  (Jvm.Cond.code ({ cls := "SnowRisesModel", name := "wentTo", desc := "(II)I" } : Jvm.MethodName) prog_13_method_12_code (5 : Nat) (Option.some Jvm.ClassFile.FieldType.int)),
  (Jvm.Cond.instanceMethod ({ cls := "SnowRisesModel", name := "wentTo", desc := "(II)I" } : Jvm.MethodName)),
  (Jvm.Cond.code ({ cls := "SnowRisesModel", name := "rises", desc := "(III)I" } : Jvm.MethodName) prog_13_method_77_code (6 : Nat) (Option.some Jvm.ClassFile.FieldType.int)),
  (Jvm.Cond.instanceMethod ({ cls := "SnowRisesModel", name := "rises", desc := "(III)I" } : Jvm.MethodName)),
  (Jvm.Cond.code ({ cls := "SnowRisesModel", name := "drifts", desc := "(III)I" } : Jvm.MethodName) prog_13_method_78_code (7 : Nat) (Option.some Jvm.ClassFile.FieldType.int)),
  (Jvm.Cond.instanceMethod ({ cls := "SnowRisesModel", name := "drifts", desc := "(III)I" } : Jvm.MethodName)),
  (Jvm.Cond.code ({ cls := "SnowRisesModel", name := "notes", desc := "(III)V" } : Jvm.MethodName) prog_13_method_74_code (5 : Nat) (Option.none : Option Jvm.ClassFile.FieldType)),
  (Jvm.Cond.instanceMethod ({ cls := "SnowRisesModel", name := "notes", desc := "(III)V" } : Jvm.MethodName)),
  (Jvm.Cond.code ({ cls := "SnowRisesModel", name := "canVow", desc := "(III)Z" } : Jvm.MethodName) prog_13_method_75_code (4 : Nat) (Option.some Jvm.ClassFile.FieldType.boolean)),
  (Jvm.Cond.instanceMethod ({ cls := "SnowRisesModel", name := "canVow", desc := "(III)Z" } : Jvm.MethodName)),
  (Jvm.Cond.code ({ cls := "SnowRisesModel", name := "keeps", desc := "()V" } : Jvm.MethodName) prog_13_method_72_code (2 : Nat) (Option.none : Option Jvm.ClassFile.FieldType)),
  (Jvm.Cond.instanceMethod ({ cls := "SnowRisesModel", name := "keeps", desc := "()V" } : Jvm.MethodName)),
  (Jvm.Cond.code ({ cls := "SnowRisesModel", name := "vows", desc := "(III)I" } : Jvm.MethodName) prog_13_method_79_code (6 : Nat) (Option.some Jvm.ClassFile.FieldType.int)),
  (Jvm.Cond.instanceMethod ({ cls := "SnowRisesModel", name := "vows", desc := "(III)I" } : Jvm.MethodName)),
  (Jvm.Cond.code ({ cls := "SnowRisesModel", name := "weatherOf", desc := "(I)I" } : Jvm.MethodName) prog_13_method_83_code (5 : Nat) (Option.some Jvm.ClassFile.FieldType.int)),
  (Jvm.Cond.instanceMethod ({ cls := "SnowRisesModel", name := "weatherOf", desc := "(I)I" } : Jvm.MethodName)),
  (Jvm.Cond.code ({ cls := "SnowRisesModel", name := "ofVow", desc := "(II)I" } : Jvm.MethodName) prog_13_method_84_code (3 : Nat) (Option.some Jvm.ClassFile.FieldType.int)),
  (Jvm.Cond.instanceMethod ({ cls := "SnowRisesModel", name := "ofVow", desc := "(II)I" } : Jvm.MethodName)),
  (Jvm.Cond.code ({ cls := "SnowRisesModel", name := "draw", desc := "(I)I" } : Jvm.MethodName) prog_13_method_17_code (2 : Nat) (Option.some Jvm.ClassFile.FieldType.int)),
  (Jvm.Cond.instanceMethod ({ cls := "SnowRisesModel", name := "draw", desc := "(I)I" } : Jvm.MethodName)),
  (Jvm.Cond.code ({ cls := "SnowRisesModel", name := "snows", desc := "()V" } : Jvm.MethodName) prog_13_method_85_code (3 : Nat) (Option.none : Option Jvm.ClassFile.FieldType)),
  (Jvm.Cond.instanceMethod ({ cls := "SnowRisesModel", name := "snows", desc := "()V" } : Jvm.MethodName)),
  (Jvm.Cond.code ({ cls := "SnowRisesModel", name := "vowsOfDay", desc := "()I" } : Jvm.MethodName) prog_13_method_86_code (3 : Nat) (Option.some Jvm.ClassFile.FieldType.int)),
  (Jvm.Cond.instanceMethod ({ cls := "SnowRisesModel", name := "vowsOfDay", desc := "()I" } : Jvm.MethodName)),
  (Jvm.Cond.code ({ cls := "SnowRisesModel", name := "slides", desc := "()V" } : Jvm.MethodName) prog_13_method_87_code (4 : Nat) (Option.none : Option Jvm.ClassFile.FieldType)),
  (Jvm.Cond.instanceMethod ({ cls := "SnowRisesModel", name := "slides", desc := "()V" } : Jvm.MethodName)),
  (Jvm.Cond.code ({ cls := "SnowRisesModel", name := "meltOf", desc := "(I)I" } : Jvm.MethodName) prog_13_method_71_code (2 : Nat) (Option.some Jvm.ClassFile.FieldType.int)),
  (Jvm.Cond.instanceMethod ({ cls := "SnowRisesModel", name := "meltOf", desc := "(I)I" } : Jvm.MethodName)),
  (Jvm.Cond.code ({ cls := "SnowRisesModel", name := "aDay", desc := "()I" } : Jvm.MethodName) prog_13_method_88_code (3 : Nat) (Option.some Jvm.ClassFile.FieldType.int)),
  (Jvm.Cond.instanceMethod ({ cls := "SnowRisesModel", name := "aDay", desc := "()I" } : Jvm.MethodName)),
  (Jvm.Cond.code ({ cls := "SnowRisesModel", name := "lays", desc := "()V" } : Jvm.MethodName) prog_13_method_96_code (2 : Nat) (Option.none : Option Jvm.ClassFile.FieldType)),
  (Jvm.Cond.instanceMethod ({ cls := "SnowRisesModel", name := "lays", desc := "()V" } : Jvm.MethodName)),
  (Jvm.Cond.code ({ cls := "SnowRisesModel", name := "putsBack", desc := "()V" } : Jvm.MethodName) prog_13_method_97_code (2 : Nat) (Option.none : Option Jvm.ClassFile.FieldType)),
  (Jvm.Cond.instanceMethod ({ cls := "SnowRisesModel", name := "putsBack", desc := "()V" } : Jvm.MethodName)),
  (Jvm.Cond.code ({ cls := "SnowRisesModel", name := "lastOf", desc := "(III)I" } : Jvm.MethodName) prog_13_method_99_code (6 : Nat) (Option.some Jvm.ClassFile.FieldType.int)),
  (Jvm.Cond.instanceMethod ({ cls := "SnowRisesModel", name := "lastOf", desc := "(III)I" } : Jvm.MethodName)),
  (Jvm.Cond.code ({ cls := "SnowRisesModel", name := "meetsWants", desc := "(I)I" } : Jvm.MethodName) prog_13_method_100_code (9 : Nat) (Option.some Jvm.ClassFile.FieldType.int)),
  (Jvm.Cond.instanceMethod ({ cls := "SnowRisesModel", name := "meetsWants", desc := "(I)I" } : Jvm.MethodName)),
  (Jvm.Cond.code ({ cls := "SnowRisesModel", name := "nextAsked", desc := "(I)I" } : Jvm.MethodName) prog_13_method_102_code (4 : Nat) (Option.some Jvm.ClassFile.FieldType.int)),
  (Jvm.Cond.instanceMethod ({ cls := "SnowRisesModel", name := "nextAsked", desc := "(I)I" } : Jvm.MethodName)),
  (Jvm.Cond.code ({ cls := "SnowRisesModel", name := "keepsFor", desc := "(II)Z" } : Jvm.MethodName) prog_13_method_103_code (4 : Nat) (Option.some Jvm.ClassFile.FieldType.boolean)),
  (Jvm.Cond.instanceMethod ({ cls := "SnowRisesModel", name := "keepsFor", desc := "(II)Z" } : Jvm.MethodName)),
  (Jvm.Cond.code ({ cls := "SnowRisesModel", name := "asksOn", desc := "(I)V" } : Jvm.MethodName) prog_13_method_104_code (5 : Nat) (Option.none : Option Jvm.ClassFile.FieldType)),
  (Jvm.Cond.instanceMethod ({ cls := "SnowRisesModel", name := "asksOn", desc := "(I)V" } : Jvm.MethodName)),
  (Jvm.Cond.code ({ cls := "SnowRisesModel", name := "canHave", desc := "(III)Z" } : Jvm.MethodName) prog_13_method_106_code (4 : Nat) (Option.some Jvm.ClassFile.FieldType.boolean)),
  (Jvm.Cond.instanceMethod ({ cls := "SnowRisesModel", name := "canHave", desc := "(III)Z" } : Jvm.MethodName)),
  (Jvm.Cond.code ({ cls := "SnowRisesModel", name := "laysFound", desc := "()V" } : Jvm.MethodName) prog_13_method_108_code (3 : Nat) (Option.none : Option Jvm.ClassFile.FieldType)),
  (Jvm.Cond.instanceMethod ({ cls := "SnowRisesModel", name := "laysFound", desc := "()V" } : Jvm.MethodName)),
  (Jvm.Cond.code ({ cls := "SnowRisesModel", name := "laysBest", desc := "()V" } : Jvm.MethodName) prog_13_method_107_code (6 : Nat) (Option.none : Option Jvm.ClassFile.FieldType)),
  (Jvm.Cond.instanceMethod ({ cls := "SnowRisesModel", name := "laysBest", desc := "()V" } : Jvm.MethodName)),
  (Jvm.Cond.code ({ cls := "SnowRisesModel", name := "takenBy", desc := "(II)I" } : Jvm.MethodName) prog_13_method_109_code (4 : Nat) (Option.some Jvm.ClassFile.FieldType.int)),
  (Jvm.Cond.instanceMethod ({ cls := "SnowRisesModel", name := "takenBy", desc := "(II)I" } : Jvm.MethodName)),
  (Jvm.Cond.code ({ cls := "SnowRisesModel", name := "canBe", desc := "(II)Z" } : Jvm.MethodName) prog_13_method_113_code (6 : Nat) (Option.some Jvm.ClassFile.FieldType.boolean)),
  (Jvm.Cond.instanceMethod ({ cls := "SnowRisesModel", name := "canBe", desc := "(II)Z" } : Jvm.MethodName)),
  (Jvm.Cond.code ({ cls := "SnowRisesModel", name := "whoBy", desc := "(I)I" } : Jvm.MethodName) prog_13_method_114_code (4 : Nat) (Option.some Jvm.ClassFile.FieldType.int)),
  (Jvm.Cond.instanceMethod ({ cls := "SnowRisesModel", name := "whoBy", desc := "(I)I" } : Jvm.MethodName)),
  (Jvm.Cond.code ({ cls := "SnowRisesModel", name := "count", desc := "(I)I" } : Jvm.MethodName) prog_13_method_14_code (3 : Nat) (Option.some Jvm.ClassFile.FieldType.int)),
  (Jvm.Cond.static ({ cls := "SnowRisesModel", name := "count", desc := "(I)I" } : Jvm.MethodName)),
  (Jvm.Cond.code ({ cls := "SnowRisesModel", name := "mostAlike", desc := "(II)I" } : Jvm.MethodName) prog_13_method_116_code (6 : Nat) (Option.some Jvm.ClassFile.FieldType.int)),
  (Jvm.Cond.instanceMethod ({ cls := "SnowRisesModel", name := "mostAlike", desc := "(II)I" } : Jvm.MethodName)),
  (Jvm.Cond.code ({ cls := "SnowRisesModel", name := "isSafe", desc := "(I)Z" } : Jvm.MethodName) prog_13_method_119_code (2 : Nat) (Option.some Jvm.ClassFile.FieldType.boolean)),
  (Jvm.Cond.instanceMethod ({ cls := "SnowRisesModel", name := "isSafe", desc := "(I)Z" } : Jvm.MethodName)),
  (Jvm.Cond.code ({ cls := "SnowRisesModel", name := "isComeTo", desc := "(II)V" } : Jvm.MethodName) prog_13_method_121_code (3 : Nat) (Option.none : Option Jvm.ClassFile.FieldType)),
  (Jvm.Cond.instanceMethod ({ cls := "SnowRisesModel", name := "isComeTo", desc := "(II)V" } : Jvm.MethodName)),
  (Jvm.Cond.code ({ cls := "SnowRisesModel", name := "wayTo", desc := "(II)I" } : Jvm.MethodName) prog_13_method_124_code (4 : Nat) (Option.some Jvm.ClassFile.FieldType.int)),
  (Jvm.Cond.instanceMethod ({ cls := "SnowRisesModel", name := "wayTo", desc := "(II)I" } : Jvm.MethodName)),
  (Jvm.Cond.code ({ cls := "SnowRisesModel", name := "goesIn", desc := "(I)V" } : Jvm.MethodName) prog_13_method_122_code (4 : Nat) (Option.none : Option Jvm.ClassFile.FieldType)),
  (Jvm.Cond.instanceMethod ({ cls := "SnowRisesModel", name := "goesIn", desc := "(I)V" } : Jvm.MethodName)),
  (Jvm.Cond.code ({ cls := "SnowRisesModel", name := "goesOut", desc := "(I)V" } : Jvm.MethodName) prog_13_method_123_code (4 : Nat) (Option.none : Option Jvm.ClassFile.FieldType)),
  (Jvm.Cond.instanceMethod ({ cls := "SnowRisesModel", name := "goesOut", desc := "(I)V" } : Jvm.MethodName)),
  (Jvm.Cond.code ({ cls := "SnowRisesModel", name := "turns", desc := "(II)V" } : Jvm.MethodName) prog_13_method_125_code (5 : Nat) (Option.none : Option Jvm.ClassFile.FieldType)),
  (Jvm.Cond.instanceMethod ({ cls := "SnowRisesModel", name := "turns", desc := "(II)V" } : Jvm.MethodName)),
  (Jvm.Cond.code ({ cls := "SnowRisesModel", name := "hasWay", desc := "(II)Z" } : Jvm.MethodName) prog_13_method_126_code (4 : Nat) (Option.some Jvm.ClassFile.FieldType.boolean)),
  (Jvm.Cond.instanceMethod ({ cls := "SnowRisesModel", name := "hasWay", desc := "(II)Z" } : Jvm.MethodName)),
  (Jvm.Cond.code ({ cls := "SnowRisesModel", name := "roundsFrom", desc := "(III)Z" } : Jvm.MethodName) prog_13_method_130_code (5 : Nat) (Option.some Jvm.ClassFile.FieldType.boolean)),
  (Jvm.Cond.instanceMethod ({ cls := "SnowRisesModel", name := "roundsFrom", desc := "(III)Z" } : Jvm.MethodName)),
  (Jvm.Cond.code ({ cls := "SnowRisesModel", name := "isAloneIn", desc := "(II)Z" } : Jvm.MethodName) prog_13_method_129_code (4 : Nat) (Option.some Jvm.ClassFile.FieldType.boolean)),
  (Jvm.Cond.instanceMethod ({ cls := "SnowRisesModel", name := "isAloneIn", desc := "(II)Z" } : Jvm.MethodName)),
  (Jvm.Cond.code ({ cls := "SnowRisesModel", name := "counting", desc := "()I" } : Jvm.MethodName) prog_13_method_128_code (5 : Nat) (Option.some Jvm.ClassFile.FieldType.int)),
  (Jvm.Cond.instanceMethod ({ cls := "SnowRisesModel", name := "counting", desc := "()I" } : Jvm.MethodName)),
  (Jvm.Cond.code ({ cls := "SnowRisesModel", name := "hopeOf", desc := "(I)I" } : Jvm.MethodName) prog_13_method_135_code (4 : Nat) (Option.some Jvm.ClassFile.FieldType.int)),
  (Jvm.Cond.instanceMethod ({ cls := "SnowRisesModel", name := "hopeOf", desc := "(I)I" } : Jvm.MethodName)),
  (Jvm.Cond.code ({ cls := "SnowRisesModel", name := "bareFields", desc := "()I" } : Jvm.MethodName) prog_13_method_138_code (3 : Nat) (Option.some Jvm.ClassFile.FieldType.int)),
  (Jvm.Cond.instanceMethod ({ cls := "SnowRisesModel", name := "bareFields", desc := "()I" } : Jvm.MethodName)),
  (Jvm.Cond.code ({ cls := "SnowRises", name := "state", desc := "(I)I" } : Jvm.MethodName) prog_1_method_2_code (3 : Nat) (Option.some Jvm.ClassFile.FieldType.int)),
  (Jvm.Cond.instanceMethod ({ cls := "SnowRises", name := "state", desc := "(I)I" } : Jvm.MethodName)),
  (Jvm.Cond.selects "SnowRises" ({ cls := "SnowRises", name := "state", desc := "(I)I" } : Jvm.MethodName) ({ cls := "SnowRises", name := "state", desc := "(I)I" } : Jvm.MethodName)),
  (Jvm.Cond.code ({ cls := "SnowRisesModel", name := "state", desc := "(I)I" } : Jvm.MethodName) prog_13_method_16_code (3 : Nat) (Option.some Jvm.ClassFile.FieldType.int)),
  (Jvm.Cond.instanceMethod ({ cls := "SnowRisesModel", name := "state", desc := "(I)I" } : Jvm.MethodName)),
  (Jvm.Cond.selects "SnowRisesModel" ({ cls := "SnowRisesModel", name := "state", desc := "(I)I" } : Jvm.MethodName) ({ cls := "SnowRisesModel", name := "state", desc := "(I)I" } : Jvm.MethodName)),
  (Jvm.Cond.code ({ cls := "SnowRises", name := "valley", desc := "(II)Z" } : Jvm.MethodName) prog_1_method_3_code (3 : Nat) (Option.some Jvm.ClassFile.FieldType.boolean)),
  (Jvm.Cond.instanceMethod ({ cls := "SnowRises", name := "valley", desc := "(II)Z" } : Jvm.MethodName)),
  (Jvm.Cond.selects "SnowRises" ({ cls := "SnowRises", name := "valley", desc := "(II)Z" } : Jvm.MethodName) ({ cls := "SnowRises", name := "valley", desc := "(II)Z" } : Jvm.MethodName)),
  (Jvm.Cond.code ({ cls := "SnowRisesModel", name := "valley", desc := "(II)Z" } : Jvm.MethodName) prog_13_method_18_code (3 : Nat) (Option.some Jvm.ClassFile.FieldType.boolean)),
  (Jvm.Cond.instanceMethod ({ cls := "SnowRisesModel", name := "valley", desc := "(II)Z" } : Jvm.MethodName)),
  (Jvm.Cond.selects "SnowRisesModel" ({ cls := "SnowRisesModel", name := "valley", desc := "(II)Z" } : Jvm.MethodName) ({ cls := "SnowRisesModel", name := "valley", desc := "(II)Z" } : Jvm.MethodName)),
  (Jvm.Cond.code ({ cls := "SnowRises", name := "person", desc := "(IIII)I" } : Jvm.MethodName) prog_1_method_4_code (6 : Nat) (Option.some Jvm.ClassFile.FieldType.int)),
  (Jvm.Cond.instanceMethod ({ cls := "SnowRises", name := "person", desc := "(IIII)I" } : Jvm.MethodName)),
  (Jvm.Cond.selects "SnowRises" ({ cls := "SnowRises", name := "person", desc := "(IIII)I" } : Jvm.MethodName) ({ cls := "SnowRises", name := "person", desc := "(IIII)I" } : Jvm.MethodName)),
  (Jvm.Cond.code ({ cls := "SnowRisesModel", name := "person", desc := "(IIII)I" } : Jvm.MethodName) prog_13_method_19_code (6 : Nat) (Option.some Jvm.ClassFile.FieldType.int)),
  (Jvm.Cond.instanceMethod ({ cls := "SnowRisesModel", name := "person", desc := "(IIII)I" } : Jvm.MethodName)),
  (Jvm.Cond.selects "SnowRisesModel" ({ cls := "SnowRisesModel", name := "person", desc := "(IIII)I" } : Jvm.MethodName) ({ cls := "SnowRisesModel", name := "person", desc := "(IIII)I" } : Jvm.MethodName)),
  (Jvm.Cond.code ({ cls := "SnowRises", name := "set", desc := "(III)Z" } : Jvm.MethodName) prog_1_method_5_code (5 : Nat) (Option.some Jvm.ClassFile.FieldType.boolean)),
  (Jvm.Cond.instanceMethod ({ cls := "SnowRises", name := "set", desc := "(III)Z" } : Jvm.MethodName)),
  (Jvm.Cond.selects "SnowRises" ({ cls := "SnowRises", name := "set", desc := "(III)Z" } : Jvm.MethodName) ({ cls := "SnowRises", name := "set", desc := "(III)Z" } : Jvm.MethodName)),
  (Jvm.Cond.code ({ cls := "SnowRisesModel", name := "set", desc := "(III)Z" } : Jvm.MethodName) prog_13_method_22_code (4 : Nat) (Option.some Jvm.ClassFile.FieldType.boolean)),
  (Jvm.Cond.instanceMethod ({ cls := "SnowRisesModel", name := "set", desc := "(III)Z" } : Jvm.MethodName)),
  (Jvm.Cond.selects "SnowRisesModel" ({ cls := "SnowRisesModel", name := "set", desc := "(III)Z" } : Jvm.MethodName) ({ cls := "SnowRisesModel", name := "set", desc := "(III)Z" } : Jvm.MethodName)),
  (Jvm.Cond.code ({ cls := "SnowRises", name := "kin", desc := "(IIZ)Z" } : Jvm.MethodName) prog_1_method_8_code (4 : Nat) (Option.some Jvm.ClassFile.FieldType.boolean)),
  (Jvm.Cond.instanceMethod ({ cls := "SnowRises", name := "kin", desc := "(IIZ)Z" } : Jvm.MethodName)),
  (Jvm.Cond.selects "SnowRises" ({ cls := "SnowRises", name := "kin", desc := "(IIZ)Z" } : Jvm.MethodName) ({ cls := "SnowRises", name := "kin", desc := "(IIZ)Z" } : Jvm.MethodName)),
  (Jvm.Cond.code ({ cls := "SnowRisesModel", name := "kin", desc := "(IIZ)Z" } : Jvm.MethodName) prog_13_method_23_code (4 : Nat) (Option.some Jvm.ClassFile.FieldType.boolean)),
  (Jvm.Cond.instanceMethod ({ cls := "SnowRisesModel", name := "kin", desc := "(IIZ)Z" } : Jvm.MethodName)),
  (Jvm.Cond.selects "SnowRisesModel" ({ cls := "SnowRisesModel", name := "kin", desc := "(IIZ)Z" } : Jvm.MethodName) ({ cls := "SnowRisesModel", name := "kin", desc := "(IIZ)Z" } : Jvm.MethodName)),
  (Jvm.Cond.code ({ cls := "SnowRises", name := "vow", desc := "(III)I" } : Jvm.MethodName) prog_1_method_9_code (4 : Nat) (Option.some Jvm.ClassFile.FieldType.int)),
  (Jvm.Cond.instanceMethod ({ cls := "SnowRises", name := "vow", desc := "(III)I" } : Jvm.MethodName)),
  (Jvm.Cond.selects "SnowRises" ({ cls := "SnowRises", name := "vow", desc := "(III)I" } : Jvm.MethodName) ({ cls := "SnowRises", name := "vow", desc := "(III)I" } : Jvm.MethodName)),
  (Jvm.Cond.code ({ cls := "SnowRisesModel", name := "vow", desc := "(III)I" } : Jvm.MethodName) prog_13_method_80_code (4 : Nat) (Option.some Jvm.ClassFile.FieldType.int)),
  (Jvm.Cond.instanceMethod ({ cls := "SnowRisesModel", name := "vow", desc := "(III)I" } : Jvm.MethodName)),
  (Jvm.Cond.selects "SnowRisesModel" ({ cls := "SnowRisesModel", name := "vow", desc := "(III)I" } : Jvm.MethodName) ({ cls := "SnowRisesModel", name := "vow", desc := "(III)I" } : Jvm.MethodName)),
  (Jvm.Cond.code ({ cls := "SnowRises", name := "part", desc := "(II)Z" } : Jvm.MethodName) prog_1_method_10_code (3 : Nat) (Option.some Jvm.ClassFile.FieldType.boolean)),
  (Jvm.Cond.instanceMethod ({ cls := "SnowRises", name := "part", desc := "(II)Z" } : Jvm.MethodName)),
  (Jvm.Cond.selects "SnowRises" ({ cls := "SnowRises", name := "part", desc := "(II)Z" } : Jvm.MethodName) ({ cls := "SnowRises", name := "part", desc := "(II)Z" } : Jvm.MethodName)),
  (Jvm.Cond.code ({ cls := "SnowRisesModel", name := "part", desc := "(II)Z" } : Jvm.MethodName) prog_13_method_81_code (3 : Nat) (Option.some Jvm.ClassFile.FieldType.boolean)),
  (Jvm.Cond.instanceMethod ({ cls := "SnowRisesModel", name := "part", desc := "(II)Z" } : Jvm.MethodName)),
  (Jvm.Cond.selects "SnowRisesModel" ({ cls := "SnowRisesModel", name := "part", desc := "(II)Z" } : Jvm.MethodName) ({ cls := "SnowRisesModel", name := "part", desc := "(II)Z" } : Jvm.MethodName)),
  (Jvm.Cond.code ({ cls := "SnowRises", name := "sweep", desc := "(I)I" } : Jvm.MethodName) prog_1_method_11_code (3 : Nat) (Option.some Jvm.ClassFile.FieldType.int)),
  (Jvm.Cond.instanceMethod ({ cls := "SnowRises", name := "sweep", desc := "(I)I" } : Jvm.MethodName)),
  (Jvm.Cond.selects "SnowRises" ({ cls := "SnowRises", name := "sweep", desc := "(I)I" } : Jvm.MethodName) ({ cls := "SnowRises", name := "sweep", desc := "(I)I" } : Jvm.MethodName)),
  (Jvm.Cond.code ({ cls := "SnowRisesModel", name := "sweep", desc := "(I)I" } : Jvm.MethodName) prog_13_method_82_code (3 : Nat) (Option.some Jvm.ClassFile.FieldType.int)),
  (Jvm.Cond.instanceMethod ({ cls := "SnowRisesModel", name := "sweep", desc := "(I)I" } : Jvm.MethodName)),
  (Jvm.Cond.selects "SnowRisesModel" ({ cls := "SnowRisesModel", name := "sweep", desc := "(I)I" } : Jvm.MethodName) ({ cls := "SnowRisesModel", name := "sweep", desc := "(I)I" } : Jvm.MethodName)),
  (Jvm.Cond.code ({ cls := "SnowRises", name := "days", desc := "(I)I" } : Jvm.MethodName) prog_1_method_12_code (4 : Nat) (Option.some Jvm.ClassFile.FieldType.int)),
  (Jvm.Cond.instanceMethod ({ cls := "SnowRises", name := "days", desc := "(I)I" } : Jvm.MethodName)),
  (Jvm.Cond.selects "SnowRises" ({ cls := "SnowRises", name := "days", desc := "(I)I" } : Jvm.MethodName) ({ cls := "SnowRises", name := "days", desc := "(I)I" } : Jvm.MethodName)),
  (Jvm.Cond.code ({ cls := "SnowRisesModel", name := "days", desc := "(I)I" } : Jvm.MethodName) prog_13_method_89_code (4 : Nat) (Option.some Jvm.ClassFile.FieldType.int)),
  (Jvm.Cond.instanceMethod ({ cls := "SnowRisesModel", name := "days", desc := "(I)I" } : Jvm.MethodName)),
  (Jvm.Cond.selects "SnowRisesModel" ({ cls := "SnowRisesModel", name := "days", desc := "(I)I" } : Jvm.MethodName) ({ cls := "SnowRisesModel", name := "days", desc := "(I)I" } : Jvm.MethodName)),
  (Jvm.Cond.code ({ cls := "SnowRises", name := "feed", desc := "(IIIII)I" } : Jvm.MethodName) prog_1_method_13_code (6 : Nat) (Option.some Jvm.ClassFile.FieldType.int)),
  (Jvm.Cond.instanceMethod ({ cls := "SnowRises", name := "feed", desc := "(IIIII)I" } : Jvm.MethodName)),
  (Jvm.Cond.selects "SnowRises" ({ cls := "SnowRises", name := "feed", desc := "(IIIII)I" } : Jvm.MethodName) ({ cls := "SnowRises", name := "feed", desc := "(IIIII)I" } : Jvm.MethodName)),
  (Jvm.Cond.code ({ cls := "SnowRisesModel", name := "feed", desc := "(IIIII)I" } : Jvm.MethodName) prog_13_method_24_code (8 : Nat) (Option.some Jvm.ClassFile.FieldType.int)),
  (Jvm.Cond.instanceMethod ({ cls := "SnowRisesModel", name := "feed", desc := "(IIIII)I" } : Jvm.MethodName)),
  (Jvm.Cond.selects "SnowRisesModel" ({ cls := "SnowRisesModel", name := "feed", desc := "(IIIII)I" } : Jvm.MethodName) ({ cls := "SnowRisesModel", name := "feed", desc := "(IIIII)I" } : Jvm.MethodName)),
  (Jvm.Cond.code ({ cls := "SnowRises", name := "end", desc := "(I)Z" } : Jvm.MethodName) prog_1_method_14_code (2 : Nat) (Option.some Jvm.ClassFile.FieldType.boolean)),
  (Jvm.Cond.instanceMethod ({ cls := "SnowRises", name := "end", desc := "(I)Z" } : Jvm.MethodName)),
  (Jvm.Cond.selects "SnowRises" ({ cls := "SnowRises", name := "end", desc := "(I)Z" } : Jvm.MethodName) ({ cls := "SnowRises", name := "end", desc := "(I)Z" } : Jvm.MethodName)),
  (Jvm.Cond.code ({ cls := "SnowRisesModel", name := "end", desc := "(I)Z" } : Jvm.MethodName) prog_13_method_25_code (2 : Nat) (Option.some Jvm.ClassFile.FieldType.boolean)),
  (Jvm.Cond.instanceMethod ({ cls := "SnowRisesModel", name := "end", desc := "(I)Z" } : Jvm.MethodName)),
  (Jvm.Cond.selects "SnowRisesModel" ({ cls := "SnowRisesModel", name := "end", desc := "(I)Z" } : Jvm.MethodName) ({ cls := "SnowRisesModel", name := "end", desc := "(I)Z" } : Jvm.MethodName)),
  (Jvm.Cond.code ({ cls := "SnowRises", name := "text", desc := "(I)I" } : Jvm.MethodName) prog_1_method_15_code (2 : Nat) (Option.some Jvm.ClassFile.FieldType.int)),
  (Jvm.Cond.instanceMethod ({ cls := "SnowRises", name := "text", desc := "(I)I" } : Jvm.MethodName)),
  (Jvm.Cond.selects "SnowRises" ({ cls := "SnowRises", name := "text", desc := "(I)I" } : Jvm.MethodName) ({ cls := "SnowRises", name := "text", desc := "(I)I" } : Jvm.MethodName)),
  (Jvm.Cond.code ({ cls := "SnowRisesModel", name := "text", desc := "(I)I" } : Jvm.MethodName) prog_13_method_60_code (3 : Nat) (Option.some Jvm.ClassFile.FieldType.int)),
  (Jvm.Cond.instanceMethod ({ cls := "SnowRisesModel", name := "text", desc := "(I)I" } : Jvm.MethodName)),
  (Jvm.Cond.selects "SnowRisesModel" ({ cls := "SnowRisesModel", name := "text", desc := "(I)I" } : Jvm.MethodName) ({ cls := "SnowRisesModel", name := "text", desc := "(I)I" } : Jvm.MethodName)),
  (Jvm.Cond.code ({ cls := "SnowRises", name := "fault", desc := "(I)I" } : Jvm.MethodName) prog_1_method_16_code (2 : Nat) (Option.some Jvm.ClassFile.FieldType.int)),
  (Jvm.Cond.instanceMethod ({ cls := "SnowRises", name := "fault", desc := "(I)I" } : Jvm.MethodName)),
  (Jvm.Cond.selects "SnowRises" ({ cls := "SnowRises", name := "fault", desc := "(I)I" } : Jvm.MethodName) ({ cls := "SnowRises", name := "fault", desc := "(I)I" } : Jvm.MethodName)),
  (Jvm.Cond.code ({ cls := "SnowRisesModel", name := "fault", desc := "(I)I" } : Jvm.MethodName) prog_13_method_61_code (2 : Nat) (Option.some Jvm.ClassFile.FieldType.int)),
  (Jvm.Cond.instanceMethod ({ cls := "SnowRisesModel", name := "fault", desc := "(I)I" } : Jvm.MethodName)),
  (Jvm.Cond.selects "SnowRisesModel" ({ cls := "SnowRisesModel", name := "fault", desc := "(I)I" } : Jvm.MethodName) ({ cls := "SnowRisesModel", name := "fault", desc := "(I)I" } : Jvm.MethodName)),
  (Jvm.Cond.code ({ cls := "SnowRises", name := "of", desc := "(II)I" } : Jvm.MethodName) prog_1_method_17_code (4 : Nat) (Option.some Jvm.ClassFile.FieldType.int)),
  (Jvm.Cond.instanceMethod ({ cls := "SnowRises", name := "of", desc := "(II)I" } : Jvm.MethodName)),
  (Jvm.Cond.selects "SnowRises" ({ cls := "SnowRises", name := "of", desc := "(II)I" } : Jvm.MethodName) ({ cls := "SnowRises", name := "of", desc := "(II)I" } : Jvm.MethodName)),
  (Jvm.Cond.code ({ cls := "SnowRisesModel", name := "of", desc := "(II)I" } : Jvm.MethodName) prog_13_method_90_code (3 : Nat) (Option.some Jvm.ClassFile.FieldType.int)),
  (Jvm.Cond.instanceMethod ({ cls := "SnowRisesModel", name := "of", desc := "(II)I" } : Jvm.MethodName)),
  (Jvm.Cond.selects "SnowRisesModel" ({ cls := "SnowRisesModel", name := "of", desc := "(II)I" } : Jvm.MethodName) ({ cls := "SnowRisesModel", name := "of", desc := "(II)I" } : Jvm.MethodName)),
  (Jvm.Cond.code ({ cls := "SnowRises", name := "match", desc := "(IIZ)I" } : Jvm.MethodName) prog_1_method_18_code (4 : Nat) (Option.some Jvm.ClassFile.FieldType.int)),
  (Jvm.Cond.instanceMethod ({ cls := "SnowRises", name := "match", desc := "(IIZ)I" } : Jvm.MethodName)),
  (Jvm.Cond.selects "SnowRises" ({ cls := "SnowRises", name := "match", desc := "(IIZ)I" } : Jvm.MethodName) ({ cls := "SnowRises", name := "match", desc := "(IIZ)I" } : Jvm.MethodName)),
  (Jvm.Cond.code ({ cls := "SnowRisesModel", name := "match", desc := "(IIZ)I" } : Jvm.MethodName) prog_13_method_91_code (4 : Nat) (Option.some Jvm.ClassFile.FieldType.int)),
  (Jvm.Cond.instanceMethod ({ cls := "SnowRisesModel", name := "match", desc := "(IIZ)I" } : Jvm.MethodName)),
  (Jvm.Cond.selects "SnowRisesModel" ({ cls := "SnowRisesModel", name := "match", desc := "(IIZ)I" } : Jvm.MethodName) ({ cls := "SnowRisesModel", name := "match", desc := "(IIZ)I" } : Jvm.MethodName))] : List Jvm.Con,
  (Jvm.Cond.code ({ cls := "SnowRises", name := "at", desc := "(II)I" } : Jvm.MethodName) prog_1_method_19_code (3 : Nat) (Option.some Jvm.ClassFile.FieldType.int)),
  (Jvm.Cond.instanceMethod ({ cls := "SnowRises", name := "at", desc := "(II)I" } : Jvm.MethodName)),
  (Jvm.Cond.selects "SnowRises" ({ cls := "SnowRises", name := "at", desc := "(II)I" } : Jvm.MethodName) ({ cls := "SnowRises", name := "at", desc := "(II)I" } : Jvm.MethodName)),
  (Jvm.Cond.code ({ cls := "SnowRisesModel", name := "at", desc := "(II)I" } : Jvm.MethodName) prog_13_method_92_code (3 : Nat) (Option.some Jvm.ClassFile.FieldType.int)),
  (Jvm.Cond.instanceMethod ({ cls := "SnowRisesModel", name := "at", desc := "(II)I" } : Jvm.MethodName)),
  (Jvm.Cond.selects "SnowRisesModel" ({ cls := "SnowRisesModel", name := "at", desc := "(II)I" } : Jvm.MethodName) ({ cls := "SnowRisesModel", name := "at", desc := "(II)I" } : Jvm.MethodName)),
  (Jvm.Cond.code ({ cls := "SnowRises", name := "lift", desc := "(IIII)I" } : Jvm.MethodName) prog_1_method_20_code (5 : Nat) (Option.some Jvm.ClassFile.FieldType.int)),
  (Jvm.Cond.instanceMethod ({ cls := "SnowRises", name := "lift", desc := "(IIII)I" } : Jvm.MethodName)),
  (Jvm.Cond.selects "SnowRises" ({ cls := "SnowRises", name := "lift", desc := "(IIII)I" } : Jvm.MethodName) ({ cls := "SnowRises", name := "lift", desc := "(IIII)I" } : Jvm.MethodName)),
  (Jvm.Cond.code ({ cls := "SnowRisesModel", name := "lift", desc := "(IIII)I" } : Jvm.MethodName) prog_13_method_93_code (5 : Nat) (Option.some Jvm.ClassFile.FieldType.int)),
  (Jvm.Cond.instanceMethod ({ cls := "SnowRisesModel", name := "lift", desc := "(IIII)I" } : Jvm.MethodName)),
  (Jvm.Cond.selects "SnowRisesModel" ({ cls := "SnowRisesModel", name := "lift", desc := "(IIII)I" } : Jvm.MethodName) ({ cls := "SnowRisesModel", name := "lift", desc := "(IIII)I" } : Jvm.MethodName)),
  (Jvm.Cond.code ({ cls := "SnowRises", name := "weather", desc := "(I)I" } : Jvm.MethodName) prog_1_method_21_code (2 : Nat) (Option.some Jvm.ClassFile.FieldType.int)),
  (Jvm.Cond.instanceMethod ({ cls := "SnowRises", name := "weather", desc := "(I)I" } : Jvm.MethodName)),
  (Jvm.Cond.selects "SnowRises" ({ cls := "SnowRises", name := "weather", desc := "(I)I" } : Jvm.MethodName) ({ cls := "SnowRises", name := "weather", desc := "(I)I" } : Jvm.MethodName)),
  (Jvm.Cond.code ({ cls := "SnowRisesModel", name := "weather", desc := "(I)I" } : Jvm.MethodName) prog_13_method_94_code (2 : Nat) (Option.some Jvm.ClassFile.FieldType.int)),
  (Jvm.Cond.instanceMethod ({ cls := "SnowRisesModel", name := "weather", desc := "(I)I" } : Jvm.MethodName)),
  (Jvm.Cond.selects "SnowRisesModel" ({ cls := "SnowRisesModel", name := "weather", desc := "(I)I" } : Jvm.MethodName) ({ cls := "SnowRisesModel", name := "weather", desc := "(I)I" } : Jvm.MethodName)),
  (Jvm.Cond.code ({ cls := "SnowRises", name := "book", desc := "(II)I" } : Jvm.MethodName) prog_1_method_22_code (3 : Nat) (Option.some Jvm.ClassFile.FieldType.int)),
  (Jvm.Cond.instanceMethod ({ cls := "SnowRises", name := "book", desc := "(II)I" } : Jvm.MethodName)),
  (Jvm.Cond.selects "SnowRises" ({ cls := "SnowRises", name := "book", desc := "(II)I" } : Jvm.MethodName) ({ cls := "SnowRises", name := "book", desc := "(II)I" } : Jvm.MethodName)),
  (Jvm.Cond.code ({ cls := "SnowRisesModel", name := "book", desc := "(II)I" } : Jvm.MethodName) prog_13_method_95_code (3 : Nat) (Option.some Jvm.ClassFile.FieldType.int)),
  (Jvm.Cond.instanceMethod ({ cls := "SnowRisesModel", name := "book", desc := "(II)I" } : Jvm.MethodName)),
  (Jvm.Cond.selects "SnowRisesModel" ({ cls := "SnowRisesModel", name := "book", desc := "(II)I" } : Jvm.MethodName) ({ cls := "SnowRisesModel", name := "book", desc := "(II)I" } : Jvm.MethodName)),
  (Jvm.Cond.code ({ cls := "SnowRises", name := "lies", desc := "(II)I" } : Jvm.MethodName) prog_1_method_23_code (4 : Nat) (Option.some Jvm.ClassFile.FieldType.int)),
  (Jvm.Cond.instanceMethod ({ cls := "SnowRises", name := "lies", desc := "(II)I" } : Jvm.MethodName)),
  (Jvm.Cond.selects "SnowRises" ({ cls := "SnowRises", name := "lies", desc := "(II)I" } : Jvm.MethodName) ({ cls := "SnowRises", name := "lies", desc := "(II)I" } : Jvm.MethodName)),
  (Jvm.Cond.code ({ cls := "SnowRisesModel", name := "lies", desc := "(II)I" } : Jvm.MethodName) prog_13_method_98_code (4 : Nat) (Option.some Jvm.ClassFile.FieldType.int)),
  (Jvm.Cond.instanceMethod ({ cls := "SnowRisesModel", name := "lies", desc := "(II)I" } : Jvm.MethodName)),
  (Jvm.Cond.selects "SnowRisesModel" ({ cls := "SnowRisesModel", name := "lies", desc := "(II)I" } : Jvm.MethodName) ({ cls := "SnowRisesModel", name := "lies", desc := "(II)I" } : Jvm.MethodName)),
  (Jvm.Cond.code ({ cls := "SnowRises", name := "meets", desc := "(I)I" } : Jvm.MethodName) prog_1_method_24_code (6 : Nat) (Option.some Jvm.ClassFile.FieldType.int)),
  (Jvm.Cond.instanceMethod ({ cls := "SnowRises", name := "meets", desc := "(I)I" } : Jvm.MethodName)),
  (Jvm.Cond.selects "SnowRises" ({ cls := "SnowRises", name := "meets", desc := "(I)I" } : Jvm.MethodName) ({ cls := "SnowRises", name := "meets", desc := "(I)I" } : Jvm.MethodName)),
  (Jvm.Cond.code ({ cls := "SnowRisesModel", name := "meets", desc := "(I)I" } : Jvm.MethodName) prog_13_method_101_code (3 : Nat) (Option.some Jvm.ClassFile.FieldType.int)),
  (Jvm.Cond.instanceMethod ({ cls := "SnowRisesModel", name := "meets", desc := "(I)I" } : Jvm.MethodName)),
  (Jvm.Cond.selects "SnowRisesModel" ({ cls := "SnowRisesModel", name := "meets", desc := "(I)I" } : Jvm.MethodName) ({ cls := "SnowRisesModel", name := "meets", desc := "(I)I" } : Jvm.MethodName)),
  (Jvm.Cond.code ({ cls := "SnowRises", name := "stable", desc := "(I)I" } : Jvm.MethodName) prog_1_method_25_code (2 : Nat) (Option.some Jvm.ClassFile.FieldType.int)),
  (Jvm.Cond.instanceMethod ({ cls := "SnowRises", name := "stable", desc := "(I)I" } : Jvm.MethodName)),
  (Jvm.Cond.selects "SnowRises" ({ cls := "SnowRises", name := "stable", desc := "(I)I" } : Jvm.MethodName) ({ cls := "SnowRises", name := "stable", desc := "(I)I" } : Jvm.MethodName)),
  (Jvm.Cond.code ({ cls := "SnowRisesModel", name := "stable", desc := "(I)I" } : Jvm.MethodName) prog_13_method_105_code (3 : Nat) (Option.some Jvm.ClassFile.FieldType.int)),
  (Jvm.Cond.instanceMethod ({ cls := "SnowRisesModel", name := "stable", desc := "(I)I" } : Jvm.MethodName)),
  (Jvm.Cond.selects "SnowRisesModel" ({ cls := "SnowRisesModel", name := "stable", desc := "(I)I" } : Jvm.MethodName) ({ cls := "SnowRisesModel", name := "stable", desc := "(I)I" } : Jvm.MethodName)),
  (Jvm.Cond.code ({ cls := "SnowRises", name := "best", desc := "(I)I" } : Jvm.MethodName) prog_1_method_26_code (3 : Nat) (Option.some Jvm.ClassFile.FieldType.int)),
  (Jvm.Cond.instanceMethod ({ cls := "SnowRises", name := "best", desc := "(I)I" } : Jvm.MethodName)),
  (Jvm.Cond.selects "SnowRises" ({ cls := "SnowRises", name := "best", desc := "(I)I" } : Jvm.MethodName) ({ cls := "SnowRises", name := "best", desc := "(I)I" } : Jvm.MethodName)),
  (Jvm.Cond.code ({ cls := "SnowRisesModel", name := "best", desc := "(I)I" } : Jvm.MethodName) prog_13_method_110_code (6 : Nat) (Option.some Jvm.ClassFile.FieldType.int)),
  (Jvm.Cond.instanceMethod ({ cls := "SnowRisesModel", name := "best", desc := "(I)I" } : Jvm.MethodName)),
  (Jvm.Cond.selects "SnowRisesModel" ({ cls := "SnowRisesModel", name := "best", desc := "(I)I" } : Jvm.MethodName) ({ cls := "SnowRisesModel", name := "best", desc := "(I)I" } : Jvm.MethodName)),
  (Jvm.Cond.code ({ cls := "SnowRises", name := "bares", desc := "(II)I" } : Jvm.MethodName) prog_1_method_27_code (5 : Nat) (Option.some Jvm.ClassFile.FieldType.int)),
  (Jvm.Cond.instanceMethod ({ cls := "SnowRises", name := "bares", desc := "(II)I" } : Jvm.MethodName)),
  (Jvm.Cond.selects "SnowRises" ({ cls := "SnowRises", name := "bares", desc := "(II)I" } : Jvm.MethodName) ({ cls := "SnowRises", name := "bares", desc := "(II)I" } : Jvm.MethodName)),
  (Jvm.Cond.code ({ cls := "SnowRisesModel", name := "bares", desc := "(II)I" } : Jvm.MethodName) prog_13_method_111_code (6 : Nat) (Option.some Jvm.ClassFile.FieldType.int)),
  (Jvm.Cond.instanceMethod ({ cls := "SnowRisesModel", name := "bares", desc := "(II)I" } : Jvm.MethodName)),
  (Jvm.Cond.selects "SnowRisesModel" ({ cls := "SnowRisesModel", name := "bares", desc := "(II)I" } : Jvm.MethodName) ({ cls := "SnowRisesModel", name := "bares", desc := "(II)I" } : Jvm.MethodName)),
  (Jvm.Cond.code ({ cls := "SnowRises", name := "stir", desc := "(IIZ)I" } : Jvm.MethodName) prog_1_method_28_code (4 : Nat) (Option.some Jvm.ClassFile.FieldType.int)),
  (Jvm.Cond.instanceMethod ({ cls := "SnowRises", name := "stir", desc := "(IIZ)I" } : Jvm.MethodName)),
  (Jvm.Cond.selects "SnowRises" ({ cls := "SnowRises", name := "stir", desc := "(IIZ)I" } : Jvm.MethodName) ({ cls := "SnowRises", name := "stir", desc := "(IIZ)I" } : Jvm.MethodName)),
  (Jvm.Cond.code ({ cls := "SnowRisesModel", name := "stir", desc := "(IIZ)I" } : Jvm.MethodName) prog_13_method_112_code (5 : Nat) (Option.some Jvm.ClassFile.FieldType.int)),
  (Jvm.Cond.instanceMethod ({ cls := "SnowRisesModel", name := "stir", desc := "(IIZ)I" } : Jvm.MethodName)),
  (Jvm.Cond.selects "SnowRisesModel" ({ cls := "SnowRisesModel", name := "stir", desc := "(IIZ)I" } : Jvm.MethodName) ({ cls := "SnowRisesModel", name := "stir", desc := "(IIZ)I" } : Jvm.MethodName)),
  (Jvm.Cond.code ({ cls := "SnowRises", name := "who", desc := "(I)I" } : Jvm.MethodName) prog_1_method_29_code (2 : Nat) (Option.some Jvm.ClassFile.FieldType.int)),
  (Jvm.Cond.instanceMethod ({ cls := "SnowRises", name := "who", desc := "(I)I" } : Jvm.MethodName)),
  (Jvm.Cond.selects "SnowRises" ({ cls := "SnowRises", name := "who", desc := "(I)I" } : Jvm.MethodName) ({ cls := "SnowRises", name := "who", desc := "(I)I" } : Jvm.MethodName)),
  (Jvm.Cond.code ({ cls := "SnowRisesModel", name := "who", desc := "(I)I" } : Jvm.MethodName) prog_13_method_115_code (2 : Nat) (Option.some Jvm.ClassFile.FieldType.int)),
  (Jvm.Cond.instanceMethod ({ cls := "SnowRisesModel", name := "who", desc := "(I)I" } : Jvm.MethodName)),
  (Jvm.Cond.selects "SnowRisesModel" ({ cls := "SnowRisesModel", name := "who", desc := "(I)I" } : Jvm.MethodName) ({ cls := "SnowRisesModel", name := "who", desc := "(I)I" } : Jvm.MethodName)),
  (Jvm.Cond.code ({ cls := "SnowRises", name := "ask", desc := "(I)I" } : Jvm.MethodName) prog_1_method_30_code (3 : Nat) (Option.some Jvm.ClassFile.FieldType.int)),
  (Jvm.Cond.instanceMethod ({ cls := "SnowRises", name := "ask", desc := "(I)I" } : Jvm.MethodName)),
  (Jvm.Cond.selects "SnowRises" ({ cls := "SnowRises", name := "ask", desc := "(I)I" } : Jvm.MethodName) ({ cls := "SnowRises", name := "ask", desc := "(I)I" } : Jvm.MethodName)),
  (Jvm.Cond.code ({ cls := "SnowRisesModel", name := "ask", desc := "(I)I" } : Jvm.MethodName) prog_13_method_117_code (6 : Nat) (Option.some Jvm.ClassFile.FieldType.int)),
  (Jvm.Cond.instanceMethod ({ cls := "SnowRisesModel", name := "ask", desc := "(I)I" } : Jvm.MethodName)),
  (Jvm.Cond.selects "SnowRisesModel" ({ cls := "SnowRisesModel", name := "ask", desc := "(I)I" } : Jvm.MethodName) ({ cls := "SnowRisesModel", name := "ask", desc := "(I)I" } : Jvm.MethodName)),
  (Jvm.Cond.code ({ cls := "SnowRises", name := "safe", desc := "(II)I" } : Jvm.MethodName) prog_1_method_32_code (3 : Nat) (Option.some Jvm.ClassFile.FieldType.int)),
  (Jvm.Cond.instanceMethod ({ cls := "SnowRises", name := "safe", desc := "(II)I" } : Jvm.MethodName)),
  (Jvm.Cond.selects "SnowRises" ({ cls := "SnowRises", name := "safe", desc := "(II)I" } : Jvm.MethodName) ({ cls := "SnowRises", name := "safe", desc := "(II)I" } : Jvm.MethodName)),
  (Jvm.Cond.code ({ cls := "SnowRisesModel", name := "safe", desc := "(II)I" } : Jvm.MethodName) prog_13_method_120_code (7 : Nat) (Option.some Jvm.ClassFile.FieldType.int)),
  (Jvm.Cond.instanceMethod ({ cls := "SnowRisesModel", name := "safe", desc := "(II)I" } : Jvm.MethodName)),
  (Jvm.Cond.selects "SnowRisesModel" ({ cls := "SnowRisesModel", name := "safe", desc := "(II)I" } : Jvm.MethodName) ({ cls := "SnowRisesModel", name := "safe", desc := "(II)I" } : Jvm.MethodName)),
  (Jvm.Cond.code ({ cls := "SnowRises", name := "cut", desc := "(II)I" } : Jvm.MethodName) prog_1_method_33_code (3 : Nat) (Option.some Jvm.ClassFile.FieldType.int)),
  (Jvm.Cond.instanceMethod ({ cls := "SnowRises", name := "cut", desc := "(II)I" } : Jvm.MethodName)),
  (Jvm.Cond.selects "SnowRises" ({ cls := "SnowRises", name := "cut", desc := "(II)I" } : Jvm.MethodName) ({ cls := "SnowRises", name := "cut", desc := "(II)I" } : Jvm.MethodName)),
  (Jvm.Cond.code ({ cls := "SnowRisesModel", name := "cut", desc := "(II)I" } : Jvm.MethodName) prog_13_method_127_code (4 : Nat) (Option.some Jvm.ClassFile.FieldType.int)),
  (Jvm.Cond.instanceMethod ({ cls := "SnowRisesModel", name := "cut", desc := "(II)I" } : Jvm.MethodName)),
  (Jvm.Cond.selects "SnowRisesModel" ({ cls := "SnowRisesModel", name := "cut", desc := "(II)I" } : Jvm.MethodName) ({ cls := "SnowRisesModel", name := "cut", desc := "(II)I" } : Jvm.MethodName)),
  (Jvm.Cond.code ({ cls := "SnowRises", name := "rounds", desc := "(I)I" } : Jvm.MethodName) prog_1_method_34_code (2 : Nat) (Option.some Jvm.ClassFile.FieldType.int)),
  (Jvm.Cond.instanceMethod ({ cls := "SnowRises", name := "rounds", desc := "(I)I" } : Jvm.MethodName)),
  (Jvm.Cond.selects "SnowRises" ({ cls := "SnowRises", name := "rounds", desc := "(I)I" } : Jvm.MethodName) ({ cls := "SnowRises", name := "rounds", desc := "(I)I" } : Jvm.MethodName)),
  (Jvm.Cond.code ({ cls := "SnowRisesModel", name := "rounds", desc := "(I)I" } : Jvm.MethodName) prog_13_method_131_code (4 : Nat) (Option.some Jvm.ClassFile.FieldType.int)),
  (Jvm.Cond.instanceMethod ({ cls := "SnowRisesModel", name := "rounds", desc := "(I)I" } : Jvm.MethodName)),
  (Jvm.Cond.selects "SnowRisesModel" ({ cls := "SnowRisesModel", name := "rounds", desc := "(I)I" } : Jvm.MethodName) ({ cls := "SnowRisesModel", name := "rounds", desc := "(I)I" } : Jvm.MethodName)),
  (Jvm.Cond.code ({ cls := "SnowRises", name := "comes", desc := "(II)I" } : Jvm.MethodName) prog_1_method_35_code (8 : Nat) (Option.some Jvm.ClassFile.FieldType.int)),
  (Jvm.Cond.instanceMethod ({ cls := "SnowRises", name := "comes", desc := "(II)I" } : Jvm.MethodName)),
  (Jvm.Cond.selects "SnowRises" ({ cls := "SnowRises", name := "comes", desc := "(II)I" } : Jvm.MethodName) ({ cls := "SnowRises", name := "comes", desc := "(II)I" } : Jvm.MethodName)),
  (Jvm.Cond.code ({ cls := "SnowRisesModel", name := "comes", desc := "(II)I" } : Jvm.MethodName) prog_13_method_132_code (8 : Nat) (Option.some Jvm.ClassFile.FieldType.int)),
  (Jvm.Cond.instanceMethod ({ cls := "SnowRisesModel", name := "comes", desc := "(II)I" } : Jvm.MethodName)),
  (Jvm.Cond.selects "SnowRisesModel" ({ cls := "SnowRisesModel", name := "comes", desc := "(II)I" } : Jvm.MethodName) ({ cls := "SnowRisesModel", name := "comes", desc := "(II)I" } : Jvm.MethodName)),
  (Jvm.Cond.code ({ cls := "SnowRises", name := "asks", desc := "()I" } : Jvm.MethodName) prog_1_method_36_code (3 : Nat) (Option.some Jvm.ClassFile.FieldType.int)),
  (Jvm.Cond.instanceMethod ({ cls := "SnowRises", name := "asks", desc := "()I" } : Jvm.MethodName)),
  (Jvm.Cond.selects "SnowRises" ({ cls := "SnowRises", name := "asks", desc := "()I" } : Jvm.MethodName) ({ cls := "SnowRises", name := "asks", desc := "()I" } : Jvm.MethodName)),
  (Jvm.Cond.code ({ cls := "SnowRisesModel", name := "asks", desc := "()I" } : Jvm.MethodName) prog_13_method_133_code (4 : Nat) (Option.some Jvm.ClassFile.FieldType.int)),
  (Jvm.Cond.instanceMethod ({ cls := "SnowRisesModel", name := "asks", desc := "()I" } : Jvm.MethodName)),
  (Jvm.Cond.selects "SnowRisesModel" ({ cls := "SnowRisesModel", name := "asks", desc := "()I" } : Jvm.MethodName) ({ cls := "SnowRisesModel", name := "asks", desc := "()I" } : Jvm.MethodName)),
  (Jvm.Cond.code ({ cls := "SnowRises", name := "tribe", desc := "(I)I" } : Jvm.MethodName) prog_1_method_37_code (2 : Nat) (Option.some Jvm.ClassFile.FieldType.int)),
  (Jvm.Cond.instanceMethod ({ cls := "SnowRises", name := "tribe", desc := "(I)I" } : Jvm.MethodName)),
  (Jvm.Cond.selects "SnowRises" ({ cls := "SnowRises", name := "tribe", desc := "(I)I" } : Jvm.MethodName) ({ cls := "SnowRises", name := "tribe", desc := "(I)I" } : Jvm.MethodName)),
  (Jvm.Cond.code ({ cls := "SnowRisesModel", name := "tribe", desc := "(I)I" } : Jvm.MethodName) prog_13_method_134_code (5 : Nat) (Option.some Jvm.ClassFile.FieldType.int)),
  (Jvm.Cond.instanceMethod ({ cls := "SnowRisesModel", name := "tribe", desc := "(I)I" } : Jvm.MethodName)),
  (Jvm.Cond.selects "SnowRisesModel" ({ cls := "SnowRisesModel", name := "tribe", desc := "(I)I" } : Jvm.MethodName) ({ cls := "SnowRisesModel", name := "tribe", desc := "(I)I" } : Jvm.MethodName)),
  (Jvm.Cond.code ({ cls := "SnowRises", name := "hopes", desc := "(I)I" } : Jvm.MethodName) prog_1_method_38_code (3 : Nat) (Option.some Jvm.ClassFile.FieldType.int)),
  (Jvm.Cond.instanceMethod ({ cls := "SnowRises", name := "hopes", desc := "(I)I" } : Jvm.MethodName)),
  (Jvm.Cond.selects "SnowRises" ({ cls := "SnowRises", name := "hopes", desc := "(I)I" } : Jvm.MethodName) ({ cls := "SnowRises", name := "hopes", desc := "(I)I" } : Jvm.MethodName)),
  (Jvm.Cond.code ({ cls := "SnowRisesModel", name := "hopes", desc := "(I)I" } : Jvm.MethodName) prog_13_method_136_code (4 : Nat) (Option.some Jvm.ClassFile.FieldType.int)),
  (Jvm.Cond.instanceMethod ({ cls := "SnowRisesModel", name := "hopes", desc := "(I)I" } : Jvm.MethodName)),
  (Jvm.Cond.selects "SnowRisesModel" ({ cls := "SnowRisesModel", name := "hopes", desc := "(I)I" } : Jvm.MethodName) ({ cls := "SnowRisesModel", name := "hopes", desc := "(I)I" } : Jvm.MethodName)),
  (Jvm.Cond.code ({ cls := "SnowRises", name := "undo", desc := "()Z" } : Jvm.MethodName) prog_1_method_39_code (1 : Nat) (Option.some Jvm.ClassFile.FieldType.boolean)),
  (Jvm.Cond.instanceMethod ({ cls := "SnowRises", name := "undo", desc := "()Z" } : Jvm.MethodName)),
  (Jvm.Cond.selects "SnowRises" ({ cls := "SnowRises", name := "undo", desc := "()Z" } : Jvm.MethodName) ({ cls := "SnowRises", name := "undo", desc := "()Z" } : Jvm.MethodName)),
  (Jvm.Cond.code ({ cls := "SnowRisesModel", name := "undo", desc := "()Z" } : Jvm.MethodName) prog_13_method_73_code (2 : Nat) (Option.some Jvm.ClassFile.FieldType.boolean)),
  (Jvm.Cond.instanceMethod ({ cls := "SnowRisesModel", name := "undo", desc := "()Z" } : Jvm.MethodName)),
  (Jvm.Cond.selects "SnowRisesModel" ({ cls := "SnowRisesModel", name := "undo", desc := "()Z" } : Jvm.MethodName) ({ cls := "SnowRisesModel", name := "undo", desc := "()Z" } : Jvm.MethodName)),
  (Jvm.Cond.code ({ cls := "SnowRisesModel", name := "image", desc := "(Z)Z" } : Jvm.MethodName) prog_13_method_137_code (3 : Nat) (Option.some Jvm.ClassFile.FieldType.boolean)),
  (Jvm.Cond.instanceMethod ({ cls := "SnowRisesModel", name := "image", desc := "(Z)Z" } : Jvm.MethodName)),
  (Jvm.Cond.selects "SnowRisesModel" ({ cls := "SnowRisesModel", name := "image", desc := "(Z)Z" } : Jvm.MethodName) ({ cls := "SnowRisesModel", name := "image", desc := "(Z)Z" } : Jvm.MethodName)),
  (Jvm.Cond.code ({ cls := "SnowRises", name := "look", desc := "(I)I" } : Jvm.MethodName) prog_1_method_41_code (2 : Nat) (Option.some Jvm.ClassFile.FieldType.int)),
  (Jvm.Cond.instanceMethod ({ cls := "SnowRises", name := "look", desc := "(I)I" } : Jvm.MethodName)),
  (Jvm.Cond.selects "SnowRises" ({ cls := "SnowRises", name := "look", desc := "(I)I" } : Jvm.MethodName) ({ cls := "SnowRises", name := "look", desc := "(I)I" } : Jvm.MethodName)),
  (Jvm.Cond.code ({ cls := "SnowRisesModel", name := "look", desc := "(I)I" } : Jvm.MethodName) prog_13_method_139_code (2 : Nat) (Option.some Jvm.ClassFile.FieldType.int)),
  (Jvm.Cond.instanceMethod ({ cls := "SnowRisesModel", name := "look", desc := "(I)I" } : Jvm.MethodName)),
  (Jvm.Cond.selects "SnowRisesModel" ({ cls := "SnowRisesModel", name := "look", desc := "(I)I" } : Jvm.MethodName) ({ cls := "SnowRisesModel", name := "look", desc := "(I)I" } : Jvm.MethodName))]
theorem wdA : ∀ w ∈ wsA, w ∈ TW := tw_all [3, 471, 469, 470, 496, 494, 495, 6, 126, 125, 4, 545, 544, 541, 540, 506, 505, 521, 520, 525, 523, 524, 529, 527, 528, 533, 531, 532, 537, 535, 536, 1, 548, 547, 2, 518, 516, 517, 10, 980, 979, 898, 896, 897, 986, 985, 1009, 1008, 514, 512, 513, 20, 998, 997, 1005, 1004, 1014, 1013, 555, 554, 451, 449, 450, 560, 558, 559, 1026, 1025, 1059, 1058, 1156, 1155, 815, 813, 814, 818, 817, 9, 803, 802, 799, 798, 811, 810, 821, 820, 829, 828, 825, 824, 833, 832, 807, 806, 845, 844, 841, 840, 849, 848, 854, 853, 5, 580, 578, 579, 150, 148, 149, 791, 789, 790, 795, 794, 837, 836, 860, 859, 864, 863, 12, 1120, 1119, 1116, 1115, 949, 947, 948, 605, 603, 604, 8, 650, 649, 653, 652, 715, 714, 718, 717, 657, 656, 662, 661, 722, 721, 726, 725, 1078, 1076, 1077, 572, 570, 571, 11, 1096, 1095, 1103, 1102, 1092, 1091, 1100, 1099, 936, 934, 935, 872, 870, 871, 879, 877, 878, 564, 563, 568, 567, 576, 574, 575, 615, 614, 625, 623, 624, 601, 599, 600, 492, 490, 491, 510, 508, 509, 611, 610, 621, 620, 953, 951, 952, 963, 961, 962, 1046, 1045, 146, 145, 447, 446, 455, 453, 454, 463, 462, 467, 466, 479, 477, 478, 484, 482, 483, 7, 500, 498, 499, 597, 595, 596, 634, 632, 633, 646, 644, 645, 786, 784, 785, 868, 866, 867, 931, 929, 930, 927, 926, 945, 943, 944, 959, 957, 958, 967, 965, 966, 976, 974, 975, 994, 992, 993, 1022, 1020, 1021, 1042, 1040, 1041, 1055, 1053, 1054, 1074, 1072, 1073, 1088, 1086, 1087, 1111, 1109, 1110, 1125, 1123, 1124, 1137, 1136, 1141, 1139, 1140, 1149, 1147, 1148, 1166, 1164, 1165, 1178, 1176, 1177, 13, 1197, 1196, 1201, 1200, 1194, 1193, 1350, 1349, 1578, 1577, 1330, 1329, 1190, 1189, 1346, 1345, 1353, 1352, 1393, 1392, 1405, 1404, 1388, 1387, 1419, 1418, 1425, 1424, 1430, 1429, 1377, 1376, 1380, 1379, 1384, 1383, 1435, 1434, 1447, 1446, 1373, 1372, 1463, 1462, 1459, 1458, 1455, 1454, 1471, 1470, 1475, 1474, 1479, 1478, 1467, 1466, 1483, 1482, 1451, 1450, 1443, 1442, 1503, 1502, 1499, 1498, 1507, 1506, 1511, 1510, 1495, 1494, 1515, 1514, 1519, 1518, 1491, 1490, 1527, 1526, 1531, 1530, 1439, 1438, 1487, 1486, 1523, 1522, 1593, 1592, 1590, 1589, 1586, 1585, 1596, 1595, 1599, 1598, 1575, 1574, 1571, 1570, 1582, 1581, 1567, 1566, 1563, 1562, 1614, 1613, 1551, 1550, 1611, 1610, 1607, 1606, 1622, 1621, 1603, 1602, 1618, 1617, 1626, 1625, 1547, 1546, 1555, 1554, 1559, 1558, 1650, 1649, 1658, 1657, 1666, 1665, 1646, 1645, 1654, 1653, 1662, 1661, 1672, 1671, 1642, 1641, 1704, 1703, 1708, 1707, 1720, 1719, 1716, 1715, 1732, 1731, 1736, 1735, 1728, 1727, 1752, 1751, 1744, 1743, 1748, 1747, 1756, 1755, 1776, 1775, 1772, 1771, 1783, 1782, 1788, 1787, 1801, 1800, 1813, 1812, 1829, 1828, 1817, 1816, 1821, 1820, 1825, 1824, 1809, 1808, 1841, 1840, 1845, 1844, 1837, 1836, 1865, 1864, 1877, 1876, 435, 433, 434, 1326, 1324, 1325, 439, 437, 438, 1334, 1332, 1333, 444, 442, 443, 1338, 1336, 1337, 459, 457, 458, 1342, 1340, 1341, 475, 473, 474, 1357, 1355, 1356, 488, 486, 487, 1543, 1541, 1542, 584, 582, 583, 1630, 1628, 1629, 589, 587, 588, 1634, 1632, 1633, 593, 591, 592, 1638, 1636, 1637, 630, 628, 629, 1361, 1359, 1360, 638, 636, 637, 1365, 1363, 1364, 642, 640, 641, 1369, 1367, 1368, 885, 883, 884, 1535, 1533, 1534, 889, 887, 888, 1676, 1674, 1675, 893, 891, 892, 1680, 1678, 1679, 902, 900, 901, 1684, 1682, 1683, 907, 905, 906, 1688, 1686, 1687, 913, 911, 912, 1692, 1690, 1691, 918, 916, 917, 1696, 1694, 1695, 923, 921, 922, 1700, 1698, 1699, 941, 939, 940, 1712, 1710, 1711, 971, 969, 970, 1724, 1722, 1723, 990, 988, 989, 1740, 1738, 1739, 1018, 1016, 1017, 1760, 1758, 1759, 1033, 1031, 1032, 1764, 1762, 1763, 1038, 1036, 1037, 1768, 1766, 1767, 1050, 1048, 1049, 1780, 1778, 1779, 1070, 1068, 1069, 1797, 1795, 1796, 1083, 1081, 1082, 1805, 1803, 1804, 1107, 1105, 1106, 1833, 1831, 1832, 1129, 1127, 1128, 1849, 1847, 1848, 1134, 1132, 1133, 1853, 1851, 1852, 1145, 1143, 1144, 1857, 1855, 1856, 1153, 1151, 1152, 1861, 1859, 1860, 1162, 1160, 1161, 1539, 1537, 1538, 1869, 1867, 1868, 1174, 1172, 1173, 1873, 1871, 1872] (by decide +kernel) (by decide +kernel)
def wsP : List Cond := [(Jvm.Cond.selects "SnowRises$Law" ({ cls := "SnowRises$Law", name := "run", desc := "(II)I" } : Jvm.MethodName) ({ cls := "SnowRises$Law", name := "run", desc := "(II)I" } : Jvm.MethodName)),
  (Jvm.Cond.selects "SnowRises$Couples" ({ cls := "SnowRises$Couples", name := "gather", desc := "(LSnowRises$Folk;)V" } : Jvm.MethodName) ({ cls := "SnowRises$Couples", name := "gather", desc := "(LSnowRises$Folk;)V" } : Jvm.MethodName)),
  (Jvm.Cond.selects "SnowRises$Couples" ({ cls := "SnowRises$Couples", name := "asksNext", desc := "(I)Z" } : Jvm.MethodName) ({ cls := "SnowRises$Couples", name := "asksNext", desc := "(I)Z" } : Jvm.MethodName)),
  (Jvm.Cond.selects "SnowRises$Couples" ({ cls := "SnowRises$Couples", name := "sumWith", desc := "(III)I" } : Jvm.MethodName) ({ cls := "SnowRises$Couples", name := "sumWith", desc := "(III)I" } : Jvm.MethodName)),
  (Jvm.Cond.selects "SnowRises$Couples" ({ cls := "SnowRises$Couples", name := "greatestSum", desc := "(II)I" } : Jvm.MethodName) ({ cls := "SnowRises$Couples", name := "greatestSum", desc := "(II)I" } : Jvm.MethodName)),
  (Jvm.Cond.selects "SnowRises$Couples" ({ cls := "SnowRises$Couples", name := "takeFirstWay", desc := "()V" } : Jvm.MethodName) ({ cls := "SnowRises$Couples", name := "takeFirstWay", desc := "()V" } : Jvm.MethodName)),
  (Jvm.Cond.selects "SnowRises$Couples" ({ cls := "SnowRises$Couples", name := "firstBaring", desc := "(LSnowRises$World;IIII)I" } : Jvm.MethodName) ({ cls := "SnowRises$Couples", name := "firstBaring", desc := "(LSnowRises$World;IIII)I" } : Jvm.MethodName)),
  (Jvm.Cond.selects "SnowRises$Couples" ({ cls := "SnowRises$Couples", name := "mostAlike", desc := "(LSnowRises$World;II)I" } : Jvm.MethodName) ({ cls := "SnowRises$Couples", name := "mostAlike", desc := "(LSnowRises$World;II)I" } : Jvm.MethodName)),
  (Jvm.Cond.selects "SnowRises$Reader" ({ cls := "SnowRises$Reader", name := "pass", desc := "()V" } : Jvm.MethodName) ({ cls := "SnowRises$Reader", name := "pass", desc := "()V" } : Jvm.MethodName)),
  (Jvm.Cond.selects "SnowRises$Reader" ({ cls := "SnowRises$Reader", name := "refuse", desc := "(I)Z" } : Jvm.MethodName) ({ cls := "SnowRises$Reader", name := "refuse", desc := "(I)Z" } : Jvm.MethodName)),
  (Jvm.Cond.selects "SnowRises$Reader" ({ cls := "SnowRises$Reader", name := "readsUnit", desc := "()Z" } : Jvm.MethodName) ({ cls := "SnowRises$Reader", name := "readsUnit", desc := "()Z" } : Jvm.MethodName)),
  (Jvm.Cond.selects "SnowRises$Reader" ({ cls := "SnowRises$Reader", name := "readsSingle", desc := "(I)Z" } : Jvm.MethodName) ({ cls := "SnowRises$Reader", name := "readsSingle", desc := "(I)Z" } : Jvm.MethodName)),
  (Jvm.Cond.selects "SnowRises$Reader" ({ cls := "SnowRises$Reader", name := "readsEither", desc := "(I)Z" } : Jvm.MethodName) ({ cls := "SnowRises$Reader", name := "readsEither", desc := "(I)Z" } : Jvm.MethodName)),
  (Jvm.Cond.selects "SnowRises$Reader" ({ cls := "SnowRises$Reader", name := "passes", desc := "(I)Z" } : Jvm.MethodName) ({ cls := "SnowRises$Reader", name := "passes", desc := "(I)Z" } : Jvm.MethodName)),
  (Jvm.Cond.selects "SnowRises$Reader" ({ cls := "SnowRises$Reader", name := "readsSum", desc := "()Z" } : Jvm.MethodName) ({ cls := "SnowRises$Reader", name := "readsSum", desc := "()Z" } : Jvm.MethodName)),
  (Jvm.Cond.selects "SnowRises$Reader" ({ cls := "SnowRises$Reader", name := "passesNumber", desc := "(II)Z" } : Jvm.MethodName) ({ cls := "SnowRises$Reader", name := "passesNumber", desc := "(II)Z" } : Jvm.MethodName)),
  (Jvm.Cond.selects "SnowRises$Reader" ({ cls := "SnowRises$Reader", name := "begins", desc := "(ILSnowRises$Rows;)Z" } : Jvm.MethodName) ({ cls := "SnowRises$Reader", name := "begins", desc := "(ILSnowRises$Rows;)Z" } : Jvm.MethodName)),
  (Jvm.Cond.selects "SnowRises$Reader" ({ cls := "SnowRises$Reader", name := "passesPerson", desc := "(I)Z" } : Jvm.MethodName) ({ cls := "SnowRises$Reader", name := "passesPerson", desc := "(I)Z" } : Jvm.MethodName)),
  (Jvm.Cond.selects "SnowRises$Reader" ({ cls := "SnowRises$Reader", name := "passesField", desc := "()Z" } : Jvm.MethodName) ({ cls := "SnowRises$Reader", name := "passesField", desc := "()Z" } : Jvm.MethodName)),
  (Jvm.Cond.selects "SnowRises$Reader" ({ cls := "SnowRises$Reader", name := "lawLine", desc := "()Z" } : Jvm.MethodName) ({ cls := "SnowRises$Reader", name := "lawLine", desc := "()Z" } : Jvm.MethodName)),
  (Jvm.Cond.selects "SnowRises$Reader" ({ cls := "SnowRises$Reader", name := "vowLine", desc := "()Z" } : Jvm.MethodName) ({ cls := "SnowRises$Reader", name := "vowLine", desc := "()Z" } : Jvm.MethodName)),
  (Jvm.Cond.selects "SnowRises$Reader" ({ cls := "SnowRises$Reader", name := "weatherLine", desc := "()Z" } : Jvm.MethodName) ({ cls := "SnowRises$Reader", name := "weatherLine", desc := "()Z" } : Jvm.MethodName)),
  (Jvm.Cond.selects "SnowRises$Reader" ({ cls := "SnowRises$Reader", name := "wantLine", desc := "()Z" } : Jvm.MethodName) ({ cls := "SnowRises$Reader", name := "wantLine", desc := "()Z" } : Jvm.MethodName)),
  (Jvm.Cond.selects "SnowRises$Rounds" ({ cls := "SnowRises$Rounds", name := "isOpen", desc := "(II)Z" } : Jvm.MethodName) ({ cls := "SnowRises$Rounds", name := "isOpen", desc := "(II)Z" } : Jvm.MethodName)),
  (Jvm.Cond.selects "SnowRises$Tape" ({ cls := "SnowRises$Tape", name := "sign", desc := "(I)I" } : Jvm.MethodName) ({ cls := "SnowRises$Tape", name := "sign", desc := "(I)I" } : Jvm.MethodName)),
  (Jvm.Cond.selects "SnowRises$Tape" ({ cls := "SnowRises$Tape", name := "isSame", desc := "(III)Z" } : Jvm.MethodName) ({ cls := "SnowRises$Tape", name := "isSame", desc := "(III)Z" } : Jvm.MethodName)),
  (Jvm.Cond.selects "SnowRises$Tape" ({ cls := "SnowRises$Tape", name := "lettersEnd", desc := "(I)I" } : Jvm.MethodName) ({ cls := "SnowRises$Tape", name := "lettersEnd", desc := "(I)I" } : Jvm.MethodName)),
  (Jvm.Cond.selects "SnowRises$Tape" ({ cls := "SnowRises$Tape", name := "wordOf", desc := "(II)I" } : Jvm.MethodName) ({ cls := "SnowRises$Tape", name := "wordOf", desc := "(II)I" } : Jvm.MethodName)),
  (Jvm.Cond.selects "SnowRises$Tape" ({ cls := "SnowRises$Tape", name := "digitsEnd", desc := "(I)I" } : Jvm.MethodName) ({ cls := "SnowRises$Tape", name := "digitsEnd", desc := "(I)I" } : Jvm.MethodName)),
  (Jvm.Cond.selects "SnowRises$Tape" ({ cls := "SnowRises$Tape", name := "valueOf", desc := "(II)I" } : Jvm.MethodName) ({ cls := "SnowRises$Tape", name := "valueOf", desc := "(II)I" } : Jvm.MethodName)),
  (Jvm.Cond.selects "SnowRises$Ways" ({ cls := "SnowRises$Ways", name := "reach", desc := "(II)V" } : Jvm.MethodName) ({ cls := "SnowRises$Ways", name := "reach", desc := "(II)V" } : Jvm.MethodName)),
  (Jvm.Cond.selects "SnowRises$Ways" ({ cls := "SnowRises$Ways", name := "search", desc := "(LSnowRises$World;II)Z" } : Jvm.MethodName) ({ cls := "SnowRises$Ways", name := "search", desc := "(LSnowRises$World;II)Z" } : Jvm.MethodName)),
  (Jvm.Cond.selects "SnowRises$Ways" ({ cls := "SnowRises$Ways", name := "addWay", desc := "(II)V" } : Jvm.MethodName) ({ cls := "SnowRises$Ways", name := "addWay", desc := "(II)V" } : Jvm.MethodName)),
  (Jvm.Cond.selects "SnowRises$World" ({ cls := "SnowRises$World", name := "rise", desc := "()I" } : Jvm.MethodName) ({ cls := "SnowRises$World", name := "rise", desc := "()I" } : Jvm.MethodName)),
  (Jvm.Cond.selects "SnowRises$World" ({ cls := "SnowRises$World", name := "drift", desc := "()I" } : Jvm.MethodName) ({ cls := "SnowRises$World", name := "drift", desc := "()I" } : Jvm.MethodName)),
  (Jvm.Cond.selects "SnowRises$World" ({ cls := "SnowRises$World", name := "draw", desc := "(I)I" } : Jvm.MethodName) ({ cls := "SnowRises$World", name := "draw", desc := "(I)I" } : Jvm.MethodName)),
  (Jvm.Cond.selects "SnowRises$World" ({ cls := "SnowRises$World", name := "slide", desc := "()V" } : Jvm.MethodName) ({ cls := "SnowRises$World", name := "slide", desc := "()V" } : Jvm.MethodName)),
  (Jvm.Cond.selects "SnowRises$World" ({ cls := "SnowRises$World", name := "meltAll", desc := "()V" } : Jvm.MethodName) ({ cls := "SnowRises$World", name := "meltAll", desc := "()V" } : Jvm.MethodName)),
  (Jvm.Cond.selects "SnowRises$World" ({ cls := "SnowRises$World", name := "allStirsFit", desc := "(II)Z" } : Jvm.MethodName) ({ cls := "SnowRises$World", name := "allStirsFit", desc := "(II)Z" } : Jvm.MethodName)),
  (Jvm.Cond.selects "SnowRises$World" ({ cls := "SnowRises$World", name := "begin", desc := "(II)V" } : Jvm.MethodName) ({ cls := "SnowRises$World", name := "begin", desc := "(II)V" } : Jvm.MethodName)),
  (Jvm.Cond.selects "SnowRises" ({ cls := "SnowRises", name := "setValley", desc := "(II)Z" } : Jvm.MethodName) ({ cls := "SnowRises", name := "setValley", desc := "(II)Z" } : Jvm.MethodName)),
  (Jvm.Cond.selects "SnowRises" ({ cls := "SnowRises", name := "setOne", desc := "(III)Z" } : Jvm.MethodName) ({ cls := "SnowRises", name := "setOne", desc := "(III)Z" } : Jvm.MethodName)),
  (Jvm.Cond.selects "SnowRises" ({ cls := "SnowRises", name := "beginThought", desc := "()V" } : Jvm.MethodName) ({ cls := "SnowRises", name := "beginThought", desc := "()V" } : Jvm.MethodName)),
  (Jvm.Cond.selects "SnowRisesModel" ({ cls := "SnowRisesModel", name := "isOn", desc := "(II)Z" } : Jvm.MethodName) ({ cls := "SnowRisesModel", name := "isOn", desc := "(II)Z" } : Jvm.MethodName)),
  (Jvm.Cond.selects "SnowRisesModel" ({ cls := "SnowRisesModel", name := "isField", desc := "(I)Z" } : Jvm.MethodName) ({ cls := "SnowRisesModel", name := "isField", desc := "(I)Z" } : Jvm.MethodName)),
  (Jvm.Cond.selects "SnowRisesModel" ({ cls := "SnowRisesModel", name := "isPerson", desc := "(I)Z" } : Jvm.MethodName) ({ cls := "SnowRisesModel", name := "isPerson", desc := "(I)Z" } : Jvm.MethodName)),
  (Jvm.Cond.selects "SnowRisesModel" ({ cls := "SnowRisesModel", name := "forgets", desc := "()V" } : Jvm.MethodName) ({ cls := "SnowRisesModel", name := "forgets", desc := "()V" } : Jvm.MethodName)),
  (Jvm.Cond.selects "SnowRisesModel" ({ cls := "SnowRisesModel", name := "begins", desc := "(II)V" } : Jvm.MethodName) ({ cls := "SnowRisesModel", name := "begins", desc := "(II)V" } : Jvm.MethodName)),
  (Jvm.Cond.selects "SnowRisesModel" ({ cls := "SnowRisesModel", name := "canSet", desc := "(III)Z" } : Jvm.MethodName) ({ cls := "SnowRisesModel", name := "canSet", desc := "(III)Z" } : Jvm.MethodName)),
  (Jvm.Cond.selects "SnowRisesModel" ({ cls := "SnowRisesModel", name := "is", desc := "(Ljava/lang/String;)Z" } : Jvm.MethodName) ({ cls := "SnowRisesModel", name := "is", desc := "(Ljava/lang/String;)Z" } : Jvm.MethodName)),
  (Jvm.Cond.selects "SnowRisesModel" ({ cls := "SnowRisesModel", name := "asked", desc := "()I" } : Jvm.MethodName) ({ cls := "SnowRisesModel", name := "asked", desc := "()I" } : Jvm.MethodName)),
  (Jvm.Cond.selects "SnowRisesModel" ({ cls := "SnowRisesModel", name := "lawWord", desc := "()I" } : Jvm.MethodName) ({ cls := "SnowRisesModel", name := "lawWord", desc := "()I" } : Jvm.MethodName)),
  (Jvm.Cond.selects "SnowRisesModel" ({ cls := "SnowRisesModel", name := "vowWord", desc := "()I" } : Jvm.MethodName) ({ cls := "SnowRisesModel", name := "vowWord", desc := "()I" } : Jvm.MethodName)),
  (Jvm.Cond.selects "SnowRisesModel" ({ cls := "SnowRisesModel", name := "weatherWord", desc := "()I" } : Jvm.MethodName) ({ cls := "SnowRisesModel", name := "weatherWord", desc := "()I" } : Jvm.MethodName)),
  (Jvm.Cond.selects "SnowRisesModel" ({ cls := "SnowRisesModel", name := "wantWord", desc := "()I" } : Jvm.MethodName) ({ cls := "SnowRisesModel", name := "wantWord", desc := "()I" } : Jvm.MethodName)),
  (Jvm.Cond.selects "SnowRisesModel" ({ cls := "SnowRisesModel", name := "see", desc := "(I)I" } : Jvm.MethodName) ({ cls := "SnowRisesModel", name := "see", desc := "(I)I" } : Jvm.MethodName)),
  (Jvm.Cond.selects "SnowRisesModel" ({ cls := "SnowRisesModel", name := "word", desc := "()I" } : Jvm.MethodName) ({ cls := "SnowRisesModel", name := "word", desc := "()I" } : Jvm.MethodName)),
  (Jvm.Cond.selects "SnowRisesModel" ({ cls := "SnowRisesModel", name := "bad", desc := "(I)Z" } : Jvm.MethodName) ({ cls := "SnowRisesModel", name := "bad", desc := "(I)Z" } : Jvm.MethodName)),
  (Jvm.Cond.selects "SnowRisesModel" ({ cls := "SnowRisesModel", name := "next0", desc := "()V" } : Jvm.MethodName) ({ cls := "SnowRisesModel", name := "next0", desc := "()V" } : Jvm.MethodName)),
  (Jvm.Cond.selects "SnowRisesModel" ({ cls := "SnowRisesModel", name := "lay", desc := "(II)V" } : Jvm.MethodName) ({ cls := "SnowRisesModel", name := "lay", desc := "(II)V" } : Jvm.MethodName)),
  (Jvm.Cond.selects "SnowRisesModel" ({ cls := "SnowRisesModel", name := "unit", desc := "()Z" } : Jvm.MethodName) ({ cls := "SnowRisesModel", name := "unit", desc := "()Z" } : Jvm.MethodName)),
  (Jvm.Cond.selects "SnowRisesModel" ({ cls := "SnowRisesModel", name := "product", desc := "()Z" } : Jvm.MethodName) ({ cls := "SnowRisesModel", name := "product", desc := "()Z" } : Jvm.MethodName)),
  (Jvm.Cond.selects "SnowRisesModel" ({ cls := "SnowRisesModel", name := "every", desc := "()Z" } : Jvm.MethodName) ({ cls := "SnowRisesModel", name := "every", desc := "()Z" } : Jvm.MethodName)),
  (Jvm.Cond.selects "SnowRisesModel" ({ cls := "SnowRisesModel", name := "oneTest", desc := "()Z" } : Jvm.MethodName) ({ cls := "SnowRisesModel", name := "oneTest", desc := "()Z" } : Jvm.MethodName)),
  (Jvm.Cond.selects "SnowRisesModel" ({ cls := "SnowRisesModel", name := "opens", desc := "()Z" } : Jvm.MethodName) ({ cls := "SnowRisesModel", name := "opens", desc := "()Z" } : Jvm.MethodName)),
  (Jvm.Cond.selects "SnowRisesModel" ({ cls := "SnowRisesModel", name := "any", desc := "()Z" } : Jvm.MethodName) ({ cls := "SnowRisesModel", name := "any", desc := "()Z" } : Jvm.MethodName)),
  (Jvm.Cond.selects "SnowRisesModel" ({ cls := "SnowRisesModel", name := "need", desc := "(I)Z" } : Jvm.MethodName) ({ cls := "SnowRisesModel", name := "need", desc := "(I)Z" } : Jvm.MethodName)),
  (Jvm.Cond.selects "SnowRisesModel" ({ cls := "SnowRisesModel", name := "sumUp", desc := "()Z" } : Jvm.MethodName) ({ cls := "SnowRisesModel", name := "sumUp", desc := "()Z" } : Jvm.MethodName)),
  (Jvm.Cond.selects "SnowRisesModel" ({ cls := "SnowRisesModel", name := "aLine", desc := "()Z" } : Jvm.MethodName) ({ cls := "SnowRisesModel", name := "aLine", desc := "()Z" } : Jvm.MethodName)),
  (Jvm.Cond.selects "SnowRisesModel" ({ cls := "SnowRisesModel", name := "number", desc := "(III)Z" } : Jvm.MethodName) ({ cls := "SnowRisesModel", name := "number", desc := "(III)Z" } : Jvm.MethodName)),
  (Jvm.Cond.selects "SnowRisesModel" ({ cls := "SnowRisesModel", name := "told", desc := "(IIII)Z" } : Jvm.MethodName) ({ cls := "SnowRisesModel", name := "told", desc := "(IIII)Z" } : Jvm.MethodName)),
  (Jvm.Cond.selects "SnowRisesModel" ({ cls := "SnowRisesModel", name := "areUnlike", desc := "(II)Z" } : Jvm.MethodName) ({ cls := "SnowRisesModel", name := "areUnlike", desc := "(II)Z" } : Jvm.MethodName)),
  (Jvm.Cond.selects "SnowRisesModel" ({ cls := "SnowRisesModel", name := "aField", desc := "(II)Z" } : Jvm.MethodName) ({ cls := "SnowRisesModel", name := "aField", desc := "(II)Z" } : Jvm.MethodName)),
  (Jvm.Cond.selects "SnowRisesModel" ({ cls := "SnowRisesModel", name := "aVow", desc := "()Z" } : Jvm.MethodName) ({ cls := "SnowRisesModel", name := "aVow", desc := "()Z" } : Jvm.MethodName)),
  (Jvm.Cond.selects "SnowRisesModel" ({ cls := "SnowRisesModel", name := "aWeather", desc := "()Z" } : Jvm.MethodName) ({ cls := "SnowRisesModel", name := "aWeather", desc := "()Z" } : Jvm.MethodName)),
  (Jvm.Cond.selects "SnowRisesModel" ({ cls := "SnowRisesModel", name := "aWant", desc := "()Z" } : Jvm.MethodName) ({ cls := "SnowRisesModel", name := "aWant", desc := "()Z" } : Jvm.MethodName)),
  (Jvm.Cond.selects "SnowRisesModel" ({ cls := "SnowRisesModel", name := "aRow", desc := "()Z" } : Jvm.MethodName) ({ cls := "SnowRisesModel", name := "aRow", desc := "()Z" } : Jvm.MethodName)),
  (Jvm.Cond.selects "SnowRisesModel" ({ cls := "SnowRisesModel", name := "putsLaw", desc := "()I" } : Jvm.MethodName) ({ cls := "SnowRisesModel", name := "putsLaw", desc := "()I" } : Jvm.MethodName)),
  (Jvm.Cond.selects "SnowRisesModel" ({ cls := "SnowRisesModel", name := "puts", desc := "(III)I" } : Jvm.MethodName) ({ cls := "SnowRisesModel", name := "puts", desc := "(III)I" } : Jvm.MethodName)),
  (Jvm.Cond.selects "SnowRisesModel" ({ cls := "SnowRisesModel", name := "readsLaw", desc := "()Z" } : Jvm.MethodName) ({ cls := "SnowRisesModel", name := "readsLaw", desc := "()Z" } : Jvm.MethodName)),
  (Jvm.Cond.selects "SnowRisesModel" ({ cls := "SnowRisesModel", name := "readsRows", desc := "()Z" } : Jvm.MethodName) ({ cls := "SnowRisesModel", name := "readsRows", desc := "()Z" } : Jvm.MethodName)),
  (Jvm.Cond.selects "SnowRisesModel" ({ cls := "SnowRisesModel", name := "putsText", desc := "(I)I" } : Jvm.MethodName) ({ cls := "SnowRisesModel", name := "putsText", desc := "(I)I" } : Jvm.MethodName)),
  (Jvm.Cond.selects "SnowRisesModel" ({ cls := "SnowRisesModel", name := "comesTo", desc := "(III)I" } : Jvm.MethodName) ({ cls := "SnowRisesModel", name := "comesTo", desc := "(III)I" } : Jvm.MethodName)),
  (Jvm.Cond.selects "SnowRisesModel" ({ cls := "SnowRisesModel", name := "isSo", desc := "(I)Z" } : Jvm.MethodName) ({ cls := "SnowRisesModel", name := "isSo", desc := "(I)Z" } : Jvm.MethodName)),
  (Jvm.Cond.selects "SnowRisesModel" ({ cls := "SnowRisesModel", name := "clears", desc := "()V" } : Jvm.MethodName) ({ cls := "SnowRisesModel", name := "clears", desc := "()V" } : Jvm.MethodName)),
  (Jvm.Cond.selects "SnowRisesModel" ({ cls := "SnowRisesModel", name := "laysTwo", desc := "(II)V" } : Jvm.MethodName) ({ cls := "SnowRisesModel", name := "laysTwo", desc := "(II)V" } : Jvm.MethodName)),
  (Jvm.Cond.selects "SnowRisesModel" ({ cls := "SnowRisesModel", name := "says", desc := "(III)I" } : Jvm.MethodName) ({ cls := "SnowRisesModel", name := "says", desc := "(III)I" } : Jvm.MethodName)),
  (Jvm.Cond.selects "SnowRisesModel" ({ cls := "SnowRisesModel", name := "matchOf", desc := "(II)I" } : Jvm.MethodName) ({ cls := "SnowRisesModel", name := "matchOf", desc := "(II)I" } : Jvm.MethodName)),
  (Jvm.Cond.selects "SnowRisesModel" ({ cls := "SnowRisesModel", name := "foundOf", desc := "(II)I" } : Jvm.MethodName) ({ cls := "SnowRisesModel", name := "foundOf", desc := "(II)I" } : Jvm.MethodName)),
  (Jvm.Cond.selects "SnowRisesModel" ({ cls := "SnowRisesModel", name := "isFree", desc := "(I)Z" } : Jvm.MethodName) ({ cls := "SnowRisesModel", name := "isFree", desc := "(I)Z" } : Jvm.MethodName)),
  (Jvm.Cond.selects "SnowRisesModel" ({ cls := "SnowRisesModel", name := "liftOf", desc := "(IIII)I" } : Jvm.MethodName) ({ cls := "SnowRisesModel", name := "liftOf", desc := "(IIII)I" } : Jvm.MethodName)),
  (Jvm.Cond.selects "SnowRisesModel" ({ cls := "SnowRisesModel", name := "lifts", desc := "(IIII)I" } : Jvm.MethodName) ({ cls := "SnowRisesModel", name := "lifts", desc := "(IIII)I" } : Jvm.MethodName)),
  (Jvm.Cond.selects "SnowRisesModel" ({ cls := "SnowRisesModel", name := "wentTo", desc := "(II)I" } : Jvm.MethodName) ({ cls := "SnowRisesModel", name := "wentTo", desc := "(II)I" } : Jvm.MethodName)),
  (Jvm.Cond.selects "SnowRisesModel" ({ cls := "SnowRisesModel", name := "rises", desc := "(III)I" } : Jvm.MethodName) ({ cls := "SnowRisesModel", name := "rises", desc := "(III)I" } : Jvm.MethodName)),
  (Jvm.Cond.selects "SnowRisesModel" ({ cls := "SnowRisesModel", name := "drifts", desc := "(III)I" } : Jvm.MethodName) ({ cls := "SnowRisesModel", name := "drifts", desc := "(III)I" } : Jvm.MethodName)),
  (Jvm.Cond.selects "SnowRisesModel" ({ cls := "SnowRisesModel", name := "notes", desc := "(III)V" } : Jvm.MethodName) ({ cls := "SnowRisesModel", name := "notes", desc := "(III)V" } : Jvm.MethodName)),
  (Jvm.Cond.selects "SnowRisesModel" ({ cls := "SnowRisesModel", name := "canVow", desc := "(III)Z" } : Jvm.MethodName) ({ cls := "SnowRisesModel", name := "canVow", desc := "(III)Z" } : Jvm.MethodName)),
  (Jvm.Cond.selects "SnowRisesModel" ({ cls := "SnowRisesModel", name := "keeps", desc := "()V" } : Jvm.MethodName) ({ cls := "SnowRisesModel", name := "keeps", desc := "()V" } : Jvm.MethodName)),
  (Jvm.Cond.selects "SnowRisesModel" ({ cls := "SnowRisesModel", name := "vows", desc := "(III)I" } : Jvm.MethodName) ({ cls := "SnowRisesModel", name := "vows", desc := "(III)I" } : Jvm.MethodName)),
  (Jvm.Cond.selects "SnowRisesModel" ({ cls := "SnowRisesModel", name := "weatherOf", desc := "(I)I" } : Jvm.MethodName) ({ cls := "SnowRisesModel", name := "weatherOf", desc := "(I)I" } : Jvm.MethodName)),
  (Jvm.Cond.selects "SnowRisesModel" ({ cls := "SnowRisesModel", name := "ofVow", desc := "(II)I" } : Jvm.MethodName) ({ cls := "SnowRisesModel", name := "ofVow", desc := "(II)I" } : Jvm.MethodName)),
  (Jvm.Cond.selects "SnowRisesModel" ({ cls := "SnowRisesModel", name := "draw", desc := "(I)I" } : Jvm.MethodName) ({ cls := "SnowRisesModel", name := "draw", desc := "(I)I" } : Jvm.MethodName)),
  (Jvm.Cond.selects "SnowRisesModel" ({ cls := "SnowRisesModel", name := "snows", desc := "()V" } : Jvm.MethodName) ({ cls := "SnowRisesModel", name := "snows", desc := "()V" } : Jvm.MethodName)),
  (Jvm.Cond.selects "SnowRisesModel" ({ cls := "SnowRisesModel", name := "vowsOfDay", desc := "()I" } : Jvm.MethodName) ({ cls := "SnowRisesModel", name := "vowsOfDay", desc := "()I" } : Jvm.MethodName)),
  (Jvm.Cond.selects "SnowRisesModel" ({ cls := "SnowRisesModel", name := "slides", desc := "()V" } : Jvm.MethodName) ({ cls := "SnowRisesModel", name := "slides", desc := "()V" } : Jvm.MethodName)),
  (Jvm.Cond.selects "SnowRisesModel" ({ cls := "SnowRisesModel", name := "meltOf", desc := "(I)I" } : Jvm.MethodName) ({ cls := "SnowRisesModel", name := "meltOf", desc := "(I)I" } : Jvm.MethodName)),
  (Jvm.Cond.selects "SnowRisesModel" ({ cls := "SnowRisesModel", name := "aDay", desc := "()I" } : Jvm.MethodName) ({ cls := "SnowRisesModel", name := "aDay", desc := "()I" } : Jvm.MethodName)),
  (Jvm.Cond.selects "SnowRisesModel" ({ cls := "SnowRisesModel", name := "lays", desc := "()V" } : Jvm.MethodName) ({ cls := "SnowRisesModel", name := "lays", desc := "()V" } : Jvm.MethodName)),
  (Jvm.Cond.selects "SnowRisesModel" ({ cls := "SnowRisesModel", name := "putsBack", desc := "()V" } : Jvm.MethodName) ({ cls := "SnowRisesModel", name := "putsBack", desc := "()V" } : Jvm.MethodName)),
  (Jvm.Cond.selects "SnowRisesModel" ({ cls := "SnowRisesModel", name := "lastOf", desc := "(III)I" } : Jvm.MethodName) ({ cls := "SnowRisesModel", name := "lastOf", desc := "(III)I" } : Jvm.MethodName)),
  (Jvm.Cond.selects "SnowRisesModel" ({ cls := "SnowRisesModel", name := "meetsWants", desc := "(I)I" } : Jvm.MethodName) ({ cls := "SnowRisesModel", name := "meetsWants", desc := "(I)I" } : Jvm.MethodName)),
  (Jvm.Cond.selects "SnowRisesModel" ({ cls := "SnowRisesModel", name := "nextAsked", desc := "(I)I" } : Jvm.MethodName) ({ cls := "SnowRisesModel", name := "nextAsked", desc := "(I)I" } : Jvm.MethodName)),
  (Jvm.Cond.selects "SnowRisesModel" ({ cls := "SnowRisesModel", name := "keepsFor", desc := "(II)Z" } : Jvm.MethodName) ({ cls := "SnowRisesModel", name := "keepsFor", desc := "(II)Z" } : Jvm.MethodName)),
  (Jvm.Cond.selects "SnowRisesModel" ({ cls := "SnowRisesModel", name := "asksOn", desc := "(I)V" } : Jvm.MethodName) ({ cls := "SnowRisesModel", name := "asksOn", desc := "(I)V" } : Jvm.MethodName)),
  (Jvm.Cond.selects "SnowRisesModel" ({ cls := "SnowRisesModel", name := "canHave", desc := "(III)Z" } : Jvm.MethodName) ({ cls := "SnowRisesModel", name := "canHave", desc := "(III)Z" } : Jvm.MethodName)),
  (Jvm.Cond.selects "SnowRisesModel" ({ cls := "SnowRisesModel", name := "laysFound", desc := "()V" } : Jvm.MethodName) ({ cls := "SnowRisesModel", name := "laysFound", desc := "()V" } : Jvm.MethodName)),
  (Jvm.Cond.selects "SnowRisesModel" ({ cls := "SnowRisesModel", name := "laysBest", desc := "()V" } : Jvm.MethodName) ({ cls := "SnowRisesModel", name := "laysBest", desc := "()V" } : Jvm.MethodName)),
  (Jvm.Cond.selects "SnowRisesModel" ({ cls := "SnowRisesModel", name := "takenBy", desc := "(II)I" } : Jvm.MethodName) ({ cls := "SnowRisesModel", name := "takenBy", desc := "(II)I" } : Jvm.MethodName)),
  (Jvm.Cond.selects "SnowRisesModel" ({ cls := "SnowRisesModel", name := "canBe", desc := "(II)Z" } : Jvm.MethodName) ({ cls := "SnowRisesModel", name := "canBe", desc := "(II)Z" } : Jvm.MethodName)),
  (Jvm.Cond.selects "SnowRisesModel" ({ cls := "SnowRisesModel", name := "whoBy", desc := "(I)I" } : Jvm.MethodName) ({ cls := "SnowRisesModel", name := "whoBy", desc := "(I)I" } : Jvm.MethodName)),
  (Jvm.Cond.selects "SnowRisesModel" ({ cls := "SnowRisesModel", name := "mostAlike", desc := "(II)I" } : Jvm.MethodName) ({ cls := "SnowRisesModel", name := "mostAlike", desc := "(II)I" } : Jvm.MethodName)),
  (Jvm.Cond.selects "SnowRisesModel" ({ cls := "SnowRisesModel", name := "isSafe", desc := "(I)Z" } : Jvm.MethodName) ({ cls := "SnowRisesModel", name := "isSafe", desc := "(I)Z" } : Jvm.MethodName)),
  (Jvm.Cond.selects "SnowRisesModel" ({ cls := "SnowRisesModel", name := "isComeTo", desc := "(II)V" } : Jvm.MethodName) ({ cls := "SnowRisesModel", name := "isComeTo", desc := "(II)V" } : Jvm.MethodName)),
  (Jvm.Cond.selects "SnowRisesModel" ({ cls := "SnowRisesModel", name := "wayTo", desc := "(II)I" } : Jvm.MethodName) ({ cls := "SnowRisesModel", name := "wayTo", desc := "(II)I" } : Jvm.MethodName)),
  (Jvm.Cond.selects "SnowRisesModel" ({ cls := "SnowRisesModel", name := "goesIn", desc := "(I)V" } : Jvm.MethodName) ({ cls := "SnowRisesModel", name := "goesIn", desc := "(I)V" } : Jvm.MethodName)),
  (Jvm.Cond.selects "SnowRisesModel" ({ cls := "SnowRisesModel", name := "goesOut", desc := "(I)V" } : Jvm.MethodName) ({ cls := "SnowRisesModel", name := "goesOut", desc := "(I)V" } : Jvm.MethodName)),
  (Jvm.Cond.selects "SnowRisesModel" ({ cls := "SnowRisesModel", name := "turns", desc := "(II)V" } : Jvm.MethodName) ({ cls := "SnowRisesModel", name := "turns", desc := "(II)V" } : Jvm.MethodName)),
  (Jvm.Cond.selects "SnowRisesModel" ({ cls := "SnowRisesModel", name := "hasWay", desc := "(II)Z" } : Jvm.MethodName) ({ cls := "SnowRisesModel", name := "hasWay", desc := "(II)Z" } : Jvm.MethodName)),
  (Jvm.Cond.selects "SnowRisesModel" ({ cls := "SnowRisesModel", name := "roundsFrom", desc := "(III)Z" } : Jvm.MethodName) ({ cls := "SnowRisesModel", name := "roundsFrom", desc := "(III)Z" } : Jvm.MethodName)),
  (Jvm.Cond.selects "SnowRisesModel" ({ cls := "SnowRisesModel", name := "isAloneIn", desc := "(II)Z" } : Jvm.MethodName) ({ cls := "SnowRisesModel", name := "isAloneIn", desc := "(II)Z" } : Jvm.MethodName)),
  (Jvm.Cond.selects "SnowRisesModel" ({ cls := "SnowRisesModel", name := "counting", desc := "()I" } : Jvm.MethodName) ({ cls := "SnowRisesModel", name := "counting", desc := "()I" } : Jvm.MethodName)),
  (Jvm.Cond.selects "SnowRisesModel" ({ cls := "SnowRisesModel", name := "hopeOf", desc := "(I)I" } : Jvm.MethodName) ({ cls := "SnowRisesModel", name := "hopeOf", desc := "(I)I" } : Jvm.MethodName)),
  (Jvm.Cond.selects "SnowRisesModel" ({ cls := "SnowRisesModel", name := "bareFields", desc := "()I" } : Jvm.MethodName) ({ cls := "SnowRisesModel", name := "bareFields", desc := "()I" } : Jvm.MethodName))]
theorem wdP : ∀ w ∈ wsP, w ∈ TW := tw_allP [3, 31, 32, 34, 33, 35, 36, 38, 17, 16, 19, 21, 20, 22, 18, 25, 24, 26, 27, 15, 23, 28, 29, 42, 9, 12, 10, 11, 13, 14, 40, 39, 41, 4, 5, 7, 6, 8, 37, 0, 1, 2, 30, 45, 44, 48, 46, 43, 47, 53, 54, 52, 55, 56, 57, 50, 51, 60, 49, 64, 63, 62, 66, 67, 68, 65, 69, 61, 59, 74, 73, 75, 76, 72, 77, 78, 71, 80, 81, 58, 70, 79, 92, 91, 89, 88, 90, 87, 86, 83, 95, 94, 97, 93, 96, 98, 82, 84, 85, 101, 103, 105, 100, 102, 104, 106, 99, 107, 108, 110, 109, 112, 113, 111, 116, 114, 115, 117, 119, 118, 120, 121, 123, 127, 124, 125, 126, 122, 129, 130, 128, 131, 132] (by decide +kernel) (by decide +kernel)
theorem mwX1_has : MWV mX1_has 1 := ⟨⟨wdA _ (List.mem_of_getElem? (i := 0) rfl), wdA _ (List.mem_of_getElem? (i := 1) rfl), by decide +kernel, by decide +kernel, by decide +kernel⟩, wdA _ (List.mem_of_getElem? (i := 2) rfl), wdA _ (List.mem_of_getElem? (i := 3) rfl)⟩
theorem mwX1_isFree : MWV mX1_isFree 1 := ⟨⟨wdA _ (List.mem_of_getElem? (i := 0) rfl), wdA _ (List.mem_of_getElem? (i := 4) rfl), by decide +kernel, by decide +kernel, by decide +kernel⟩, wdA _ (List.mem_of_getElem? (i := 5) rfl), wdA _ (List.mem_of_getElem? (i := 6) rfl)⟩
theorem mwJ9_max_7cf53 : MWS mJ9_max_7cf53 2 := ⟨⟨wdA _ (List.mem_of_getElem? (i := 7) rfl), wdA _ (List.mem_of_getElem? (i := 8) rfl), by decide +kernel, by decide +kernel, by decide +kernel⟩, wdA _ (List.mem_of_getElem? (i := 9) rfl)⟩
theorem mwX2_joined : MWS mX2_joined 3 := ⟨⟨wdA _ (List.mem_of_getElem? (i := 10) rfl), wdA _ (List.mem_of_getElem? (i := 11) rfl), by decide +kernel, by decide +kernel, by decide +kernel⟩, wdA _ (List.mem_of_getElem? (i := 12) rfl)⟩
theorem mwX2_run : MWV mX2_run 2 := ⟨⟨wdA _ (List.mem_of_getElem? (i := 10) rfl), wdA _ (List.mem_of_getElem? (i := 13) rfl), by decide +kernel, by decide +kernel, by decide +kernel⟩, wdA _ (List.mem_of_getElem? (i := 14) rfl), wdP _ (List.mem_of_getElem? (i := 0) rfl)⟩
theorem mwJ9_min_7cf53 : MWS mJ9_min_7cf53 2 := ⟨⟨wdA _ (List.mem_of_getElem? (i := 7) rfl), wdA _ (List.mem_of_getElem? (i := 15) rfl), by decide +kernel, by decide +kernel, by decide +kernel⟩, wdA _ (List.mem_of_getElem? (i := 16) rfl)⟩
theorem mwJ9_abs_0f7a4 : MWS mJ9_abs_0f7a4 1 := ⟨⟨wdA _ (List.mem_of_getElem? (i := 7) rfl), wdA _ (List.mem_of_getElem? (i := 17) rfl), by decide +kernel, by decide +kernel, by decide +kernel⟩, wdA _ (List.mem_of_getElem? (i := 18) rfl)⟩
theorem mwX2_forgetNames : MWV mX2_forgetNames 0 := ⟨⟨wdA _ (List.mem_of_getElem? (i := 10) rfl), wdA _ (List.mem_of_getElem? (i := 19) rfl), by decide +kernel, by decide +kernel, by decide +kernel⟩, wdA _ (List.mem_of_getElem? (i := 20) rfl), wdA _ (List.mem_of_getElem? (i := 21) rfl)⟩
theorem mwX2_name : MWV mX2_name 2 := ⟨⟨wdA _ (List.mem_of_getElem? (i := 10) rfl), wdA _ (List.mem_of_getElem? (i := 22) rfl), by decide +kernel, by decide +kernel, by decide +kernel⟩, wdA _ (List.mem_of_getElem? (i := 23) rfl), wdA _ (List.mem_of_getElem? (i := 24) rfl)⟩
theorem mwX1_areKin : MWV mX1_areKin 2 := ⟨⟨wdA _ (List.mem_of_getElem? (i := 0) rfl), wdA _ (List.mem_of_getElem? (i := 25) rfl), by decide +kernel, by decide +kernel, by decide +kernel⟩, wdA _ (List.mem_of_getElem? (i := 26) rfl), wdA _ (List.mem_of_getElem? (i := 27) rfl)⟩
theorem mwX2_tell : MWV mX2_tell 2 := ⟨⟨wdA _ (List.mem_of_getElem? (i := 10) rfl), wdA _ (List.mem_of_getElem? (i := 28) rfl), by decide +kernel, by decide +kernel, by decide +kernel⟩, wdA _ (List.mem_of_getElem? (i := 29) rfl), wdA _ (List.mem_of_getElem? (i := 30) rfl)⟩
theorem mwX10_held : MWS mX10_held 2 := ⟨⟨wdA _ (List.mem_of_getElem? (i := 31) rfl), wdA _ (List.mem_of_getElem? (i := 32) rfl), by decide +kernel, by decide +kernel, by decide +kernel⟩, wdA _ (List.mem_of_getElem? (i := 33) rfl)⟩
theorem mwX9_matchBy : MWV mX9_matchBy 4 := ⟨⟨wdA _ (List.mem_of_getElem? (i := 34) rfl), wdA _ (List.mem_of_getElem? (i := 35) rfl), by decide +kernel, by decide +kernel, by decide +kernel⟩, wdA _ (List.mem_of_getElem? (i := 36) rfl), wdA _ (List.mem_of_getElem? (i := 37) rfl)⟩
theorem mwX0_gather : MWV mX0_gather 1 := ⟨⟨wdA _ (List.mem_of_getElem? (i := 38) rfl), wdA _ (List.mem_of_getElem? (i := 39) rfl), by decide +kernel, by decide +kernel, by decide +kernel⟩, wdA _ (List.mem_of_getElem? (i := 40) rfl), wdP _ (List.mem_of_getElem? (i := 1) rfl)⟩
theorem mwX9_matchOf : MWV mX9_matchOf 2 := ⟨⟨wdA _ (List.mem_of_getElem? (i := 34) rfl), wdA _ (List.mem_of_getElem? (i := 41) rfl), by decide +kernel, by decide +kernel, by decide +kernel⟩, wdA _ (List.mem_of_getElem? (i := 42) rfl), wdA _ (List.mem_of_getElem? (i := 43) rfl)⟩
theorem mwX0_asksNext : MWV mX0_asksNext 1 := ⟨⟨wdA _ (List.mem_of_getElem? (i := 38) rfl), wdA _ (List.mem_of_getElem? (i := 44) rfl), by decide +kernel, by decide +kernel, by decide +kernel⟩, wdA _ (List.mem_of_getElem? (i := 45) rfl), wdP _ (List.mem_of_getElem? (i := 2) rfl)⟩
theorem mwX0_sumWith : MWV mX0_sumWith 3 := ⟨⟨wdA _ (List.mem_of_getElem? (i := 38) rfl), wdA _ (List.mem_of_getElem? (i := 46) rfl), by decide +kernel, by decide +kernel, by decide +kernel⟩, wdA _ (List.mem_of_getElem? (i := 47) rfl), wdP _ (List.mem_of_getElem? (i := 3) rfl)⟩
theorem mwX9_foundOf : MWV mX9_foundOf 2 := ⟨⟨wdA _ (List.mem_of_getElem? (i := 34) rfl), wdA _ (List.mem_of_getElem? (i := 48) rfl), by decide +kernel, by decide +kernel, by decide +kernel⟩, wdA _ (List.mem_of_getElem? (i := 49) rfl), wdA _ (List.mem_of_getElem? (i := 50) rfl)⟩
theorem mwJ6_bitCount_0f7a4 : MWS mJ6_bitCount_0f7a4 1 := ⟨⟨wdA _ (List.mem_of_getElem? (i := 51) rfl), wdA _ (List.mem_of_getElem? (i := 52) rfl), by decide +kernel, by decide +kernel, by decide +kernel⟩, wdA _ (List.mem_of_getElem? (i := 53) rfl)⟩
theorem mwX0_greatestSum : MWV mX0_greatestSum 2 := ⟨⟨wdA _ (List.mem_of_getElem? (i := 38) rfl), wdA _ (List.mem_of_getElem? (i := 54) rfl), by decide +kernel, by decide +kernel, by decide +kernel⟩, wdA _ (List.mem_of_getElem? (i := 55) rfl), wdP _ (List.mem_of_getElem? (i := 4) rfl)⟩
theorem mwX0_takeFirstWay : MWV mX0_takeFirstWay 0 := ⟨⟨wdA _ (List.mem_of_getElem? (i := 38) rfl), wdA _ (List.mem_of_getElem? (i := 56) rfl), by decide +kernel, by decide +kernel, by decide +kernel⟩, wdA _ (List.mem_of_getElem? (i := 57) rfl), wdP _ (List.mem_of_getElem? (i := 5) rfl)⟩
theorem mwX10_steps : MWS mX10_steps 2 := ⟨⟨wdA _ (List.mem_of_getElem? (i := 31) rfl), wdA _ (List.mem_of_getElem? (i := 58) rfl), by decide +kernel, by decide +kernel, by decide +kernel⟩, wdA _ (List.mem_of_getElem? (i := 59) rfl)⟩
theorem mwX9_hasField : MWV mX9_hasField 1 := ⟨⟨wdA _ (List.mem_of_getElem? (i := 34) rfl), wdA _ (List.mem_of_getElem? (i := 60) rfl), by decide +kernel, by decide +kernel, by decide +kernel⟩, wdA _ (List.mem_of_getElem? (i := 61) rfl), wdA _ (List.mem_of_getElem? (i := 62) rfl)⟩
theorem mwX9_liftOf : MWV mX9_liftOf 5 := ⟨⟨wdA _ (List.mem_of_getElem? (i := 34) rfl), wdA _ (List.mem_of_getElem? (i := 63) rfl), by decide +kernel, by decide +kernel, by decide +kernel⟩, wdA _ (List.mem_of_getElem? (i := 64) rfl), wdA _ (List.mem_of_getElem? (i := 65) rfl)⟩
theorem mwX0_firstBaring : MWV mX0_firstBaring 5 := ⟨⟨wdA _ (List.mem_of_getElem? (i := 38) rfl), wdA _ (List.mem_of_getElem? (i := 66) rfl), by decide +kernel, by decide +kernel, by decide +kernel⟩, wdA _ (List.mem_of_getElem? (i := 67) rfl), wdP _ (List.mem_of_getElem? (i := 6) rfl)⟩
theorem mwX0_mostAlike : MWV mX0_mostAlike 3 := ⟨⟨wdA _ (List.mem_of_getElem? (i := 38) rfl), wdA _ (List.mem_of_getElem? (i := 68) rfl), by decide +kernel, by decide +kernel, by decide +kernel⟩, wdA _ (List.mem_of_getElem? (i := 69) rfl), wdP _ (List.mem_of_getElem? (i := 7) rfl)⟩
theorem mwX1_hopeAmong : ∀ d, MWS (mX1_hopeAmong d) 3 := fun _ => ⟨⟨wdA _ (List.mem_of_getElem? (i := 0) rfl), wdA _ (List.mem_of_getElem? (i := 70) rfl), by decide +kernel, by decide +kernel, by decide +kernel⟩, wdA _ (List.mem_of_getElem? (i := 71) rfl)⟩
theorem mwX2_put : MWV mX2_put 1 := ⟨⟨wdA _ (List.mem_of_getElem? (i := 10) rfl), wdA _ (List.mem_of_getElem? (i := 72) rfl), by decide +kernel, by decide +kernel, by decide +kernel⟩, wdA _ (List.mem_of_getElem? (i := 73) rfl), wdA _ (List.mem_of_getElem? (i := 74) rfl)⟩
theorem mwX2_codeOfName : MWS mX2_codeOfName 1 := ⟨⟨wdA _ (List.mem_of_getElem? (i := 10) rfl), wdA _ (List.mem_of_getElem? (i := 75) rfl), by decide +kernel, by decide +kernel, by decide +kernel⟩, wdA _ (List.mem_of_getElem? (i := 76) rfl)⟩
theorem mwX4_pass : MWV mX4_pass 0 := ⟨⟨wdA _ (List.mem_of_getElem? (i := 77) rfl), wdA _ (List.mem_of_getElem? (i := 78) rfl), by decide +kernel, by decide +kernel, by decide +kernel⟩, wdA _ (List.mem_of_getElem? (i := 79) rfl), wdP _ (List.mem_of_getElem? (i := 8) rfl)⟩
theorem mwX4_refuse : MWV mX4_refuse 1 := ⟨⟨wdA _ (List.mem_of_getElem? (i := 77) rfl), wdA _ (List.mem_of_getElem? (i := 80) rfl), by decide +kernel, by decide +kernel, by decide +kernel⟩, wdA _ (List.mem_of_getElem? (i := 81) rfl), wdP _ (List.mem_of_getElem? (i := 9) rfl)⟩
theorem mwX4_readsUnit : MWV mX4_readsUnit 0 := ⟨⟨wdA _ (List.mem_of_getElem? (i := 77) rfl), wdA _ (List.mem_of_getElem? (i := 82) rfl), by decide +kernel, by decide +kernel, by decide +kernel⟩, wdA _ (List.mem_of_getElem? (i := 83) rfl), wdP _ (List.mem_of_getElem? (i := 10) rfl)⟩
theorem mwX2_codeOfJoint : MWS mX2_codeOfJoint 1 := ⟨⟨wdA _ (List.mem_of_getElem? (i := 10) rfl), wdA _ (List.mem_of_getElem? (i := 84) rfl), by decide +kernel, by decide +kernel, by decide +kernel⟩, wdA _ (List.mem_of_getElem? (i := 85) rfl)⟩
theorem mwX4_readsSingle : ∀ d, MWV (mX4_readsSingle d) 1 := fun _ => ⟨⟨wdA _ (List.mem_of_getElem? (i := 77) rfl), wdA _ (List.mem_of_getElem? (i := 86) rfl), by decide +kernel, by decide +kernel, by decide +kernel⟩, wdA _ (List.mem_of_getElem? (i := 87) rfl), wdP _ (List.mem_of_getElem? (i := 11) rfl)⟩
theorem mwX4_readsEither : ∀ d, MWV (mX4_readsEither d) 1 := fun _ => ⟨⟨wdA _ (List.mem_of_getElem? (i := 77) rfl), wdA _ (List.mem_of_getElem? (i := 88) rfl), by decide +kernel, by decide +kernel, by decide +kernel⟩, wdA _ (List.mem_of_getElem? (i := 89) rfl), wdP _ (List.mem_of_getElem? (i := 12) rfl)⟩
theorem mwX4_passes : MWV mX4_passes 1 := ⟨⟨wdA _ (List.mem_of_getElem? (i := 77) rfl), wdA _ (List.mem_of_getElem? (i := 90) rfl), by decide +kernel, by decide +kernel, by decide +kernel⟩, wdA _ (List.mem_of_getElem? (i := 91) rfl), wdP _ (List.mem_of_getElem? (i := 13) rfl)⟩
theorem mwX4_readsSum : MWV mX4_readsSum 0 := ⟨⟨wdA _ (List.mem_of_getElem? (i := 77) rfl), wdA _ (List.mem_of_getElem? (i := 92) rfl), by decide +kernel, by decide +kernel, by decide +kernel⟩, wdA _ (List.mem_of_getElem? (i := 93) rfl), wdP _ (List.mem_of_getElem? (i := 14) rfl)⟩
theorem mwX4_passesNumber : MWV mX4_passesNumber 2 := ⟨⟨wdA _ (List.mem_of_getElem? (i := 77) rfl), wdA _ (List.mem_of_getElem? (i := 94) rfl), by decide +kernel, by decide +kernel, by decide +kernel⟩, wdA _ (List.mem_of_getElem? (i := 95) rfl), wdP _ (List.mem_of_getElem? (i := 15) rfl)⟩
theorem mwX4_begins : MWV mX4_begins 2 := ⟨⟨wdA _ (List.mem_of_getElem? (i := 77) rfl), wdA _ (List.mem_of_getElem? (i := 96) rfl), by decide +kernel, by decide +kernel, by decide +kernel⟩, wdA _ (List.mem_of_getElem? (i := 97) rfl), wdP _ (List.mem_of_getElem? (i := 16) rfl)⟩
theorem mwX4_passesPerson : MWV mX4_passesPerson 1 := ⟨⟨wdA _ (List.mem_of_getElem? (i := 77) rfl), wdA _ (List.mem_of_getElem? (i := 98) rfl), by decide +kernel, by decide +kernel, by decide +kernel⟩, wdA _ (List.mem_of_getElem? (i := 99) rfl), wdP _ (List.mem_of_getElem? (i := 17) rfl)⟩
theorem mwX4_passesField : MWV mX4_passesField 0 := ⟨⟨wdA _ (List.mem_of_getElem? (i := 77) rfl), wdA _ (List.mem_of_getElem? (i := 100) rfl), by decide +kernel, by decide +kernel, by decide +kernel⟩, wdA _ (List.mem_of_getElem? (i := 101) rfl), wdP _ (List.mem_of_getElem? (i := 18) rfl)⟩
theorem mwX6_add : MWV mX6_add 4 := ⟨⟨wdA _ (List.mem_of_getElem? (i := 102) rfl), wdA _ (List.mem_of_getElem? (i := 103) rfl), by decide +kernel, by decide +kernel, by decide +kernel⟩, wdA _ (List.mem_of_getElem? (i := 104) rfl), wdA _ (List.mem_of_getElem? (i := 105) rfl)⟩
theorem mwX2_clear : MWV mX2_clear 0 := ⟨⟨wdA _ (List.mem_of_getElem? (i := 10) rfl), wdA _ (List.mem_of_getElem? (i := 106) rfl), by decide +kernel, by decide +kernel, by decide +kernel⟩, wdA _ (List.mem_of_getElem? (i := 107) rfl), wdA _ (List.mem_of_getElem? (i := 108) rfl)⟩
theorem mwX9_rowsOf : MWV mX9_rowsOf 1 := ⟨⟨wdA _ (List.mem_of_getElem? (i := 34) rfl), wdA _ (List.mem_of_getElem? (i := 109) rfl), by decide +kernel, by decide +kernel, by decide +kernel⟩, wdA _ (List.mem_of_getElem? (i := 110) rfl), wdA _ (List.mem_of_getElem? (i := 111) rfl)⟩
theorem mwX4_lawLine : MWV mX4_lawLine 0 := ⟨⟨wdA _ (List.mem_of_getElem? (i := 77) rfl), wdA _ (List.mem_of_getElem? (i := 112) rfl), by decide +kernel, by decide +kernel, by decide +kernel⟩, wdA _ (List.mem_of_getElem? (i := 113) rfl), wdP _ (List.mem_of_getElem? (i := 19) rfl)⟩
theorem mwX4_vowLine : MWV mX4_vowLine 0 := ⟨⟨wdA _ (List.mem_of_getElem? (i := 77) rfl), wdA _ (List.mem_of_getElem? (i := 114) rfl), by decide +kernel, by decide +kernel, by decide +kernel⟩, wdA _ (List.mem_of_getElem? (i := 115) rfl), wdP _ (List.mem_of_getElem? (i := 20) rfl)⟩
theorem mwX4_weatherLine : MWV mX4_weatherLine 0 := ⟨⟨wdA _ (List.mem_of_getElem? (i := 77) rfl), wdA _ (List.mem_of_getElem? (i := 116) rfl), by decide +kernel, by decide +kernel, by decide +kernel⟩, wdA _ (List.mem_of_getElem? (i := 117) rfl), wdP _ (List.mem_of_getElem? (i := 21) rfl)⟩
theorem mwX4_wantLine : MWV mX4_wantLine 0 := ⟨⟨wdA _ (List.mem_of_getElem? (i := 77) rfl), wdA _ (List.mem_of_getElem? (i := 118) rfl), by decide +kernel, by decide +kernel, by decide +kernel⟩, wdA _ (List.mem_of_getElem? (i := 119) rfl), wdP _ (List.mem_of_getElem? (i := 22) rfl)⟩
theorem mwX5_isOpen : MWV mX5_isOpen 2 := ⟨⟨wdA _ (List.mem_of_getElem? (i := 120) rfl), wdA _ (List.mem_of_getElem? (i := 121) rfl), by decide +kernel, by decide +kernel, by decide +kernel⟩, wdA _ (List.mem_of_getElem? (i := 122) rfl), wdP _ (List.mem_of_getElem? (i := 23) rfl)⟩
theorem mwX5_fits : ∀ d, MWS (mX5_fits d) 2 := fun _ => ⟨⟨wdA _ (List.mem_of_getElem? (i := 120) rfl), wdA _ (List.mem_of_getElem? (i := 123) rfl), by decide +kernel, by decide +kernel, by decide +kernel⟩, wdA _ (List.mem_of_getElem? (i := 124) rfl)⟩
theorem mwX1_wedSet : MWV mX1_wedSet 0 := ⟨⟨wdA _ (List.mem_of_getElem? (i := 0) rfl), wdA _ (List.mem_of_getElem? (i := 125) rfl), by decide +kernel, by decide +kernel, by decide +kernel⟩, wdA _ (List.mem_of_getElem? (i := 126) rfl), wdA _ (List.mem_of_getElem? (i := 127) rfl)⟩
theorem mwX6_cell : MWV mX6_cell 2 := ⟨⟨wdA _ (List.mem_of_getElem? (i := 102) rfl), wdA _ (List.mem_of_getElem? (i := 128) rfl), by decide +kernel, by decide +kernel, by decide +kernel⟩, wdA _ (List.mem_of_getElem? (i := 129) rfl), wdA _ (List.mem_of_getElem? (i := 130) rfl)⟩
theorem mwX7_sign : MWV mX7_sign 1 := ⟨⟨wdA _ (List.mem_of_getElem? (i := 131) rfl), wdA _ (List.mem_of_getElem? (i := 132) rfl), by decide +kernel, by decide +kernel, by decide +kernel⟩, wdA _ (List.mem_of_getElem? (i := 133) rfl), wdP _ (List.mem_of_getElem? (i := 24) rfl)⟩
theorem mwX7_isLetter : MWS mX7_isLetter 1 := ⟨⟨wdA _ (List.mem_of_getElem? (i := 131) rfl), wdA _ (List.mem_of_getElem? (i := 134) rfl), by decide +kernel, by decide +kernel, by decide +kernel⟩, wdA _ (List.mem_of_getElem? (i := 135) rfl)⟩
theorem mwX7_isSame : MWV mX7_isSame 3 := ⟨⟨wdA _ (List.mem_of_getElem? (i := 131) rfl), wdA _ (List.mem_of_getElem? (i := 136) rfl), by decide +kernel, by decide +kernel, by decide +kernel⟩, wdA _ (List.mem_of_getElem? (i := 137) rfl), wdP _ (List.mem_of_getElem? (i := 25) rfl)⟩
theorem mwX7_isDigit : MWS mX7_isDigit 1 := ⟨⟨wdA _ (List.mem_of_getElem? (i := 131) rfl), wdA _ (List.mem_of_getElem? (i := 138) rfl), by decide +kernel, by decide +kernel, by decide +kernel⟩, wdA _ (List.mem_of_getElem? (i := 139) rfl)⟩
theorem mwX7_lettersEnd : MWV mX7_lettersEnd 1 := ⟨⟨wdA _ (List.mem_of_getElem? (i := 131) rfl), wdA _ (List.mem_of_getElem? (i := 140) rfl), by decide +kernel, by decide +kernel, by decide +kernel⟩, wdA _ (List.mem_of_getElem? (i := 141) rfl), wdP _ (List.mem_of_getElem? (i := 26) rfl)⟩
theorem mwX7_wordOf : MWV mX7_wordOf 2 := ⟨⟨wdA _ (List.mem_of_getElem? (i := 131) rfl), wdA _ (List.mem_of_getElem? (i := 142) rfl), by decide +kernel, by decide +kernel, by decide +kernel⟩, wdA _ (List.mem_of_getElem? (i := 143) rfl), wdP _ (List.mem_of_getElem? (i := 27) rfl)⟩
theorem mwX7_digitsEnd : MWV mX7_digitsEnd 1 := ⟨⟨wdA _ (List.mem_of_getElem? (i := 131) rfl), wdA _ (List.mem_of_getElem? (i := 144) rfl), by decide +kernel, by decide +kernel, by decide +kernel⟩, wdA _ (List.mem_of_getElem? (i := 145) rfl), wdP _ (List.mem_of_getElem? (i := 28) rfl)⟩
theorem mwX7_valueOf : MWV mX7_valueOf 2 := ⟨⟨wdA _ (List.mem_of_getElem? (i := 131) rfl), wdA _ (List.mem_of_getElem? (i := 146) rfl), by decide +kernel, by decide +kernel, by decide +kernel⟩, wdA _ (List.mem_of_getElem? (i := 147) rfl), wdP _ (List.mem_of_getElem? (i := 29) rfl)⟩
theorem mwX9_isSteep : MWV mX9_isSteep 1 := ⟨⟨wdA _ (List.mem_of_getElem? (i := 34) rfl), wdA _ (List.mem_of_getElem? (i := 148) rfl), by decide +kernel, by decide +kernel, by decide +kernel⟩, wdA _ (List.mem_of_getElem? (i := 149) rfl), wdA _ (List.mem_of_getElem? (i := 150) rfl)⟩
theorem mwX9_beside : MWV mX9_beside 2 := ⟨⟨wdA _ (List.mem_of_getElem? (i := 34) rfl), wdA _ (List.mem_of_getElem? (i := 151) rfl), by decide +kernel, by decide +kernel, by decide +kernel⟩, wdA _ (List.mem_of_getElem? (i := 152) rfl), wdA _ (List.mem_of_getElem? (i := 153) rfl)⟩
theorem mwX8_reach : MWV mX8_reach 2 := ⟨⟨wdA _ (List.mem_of_getElem? (i := 154) rfl), wdA _ (List.mem_of_getElem? (i := 155) rfl), by decide +kernel, by decide +kernel, by decide +kernel⟩, wdA _ (List.mem_of_getElem? (i := 156) rfl), wdP _ (List.mem_of_getElem? (i := 30) rfl)⟩
theorem mwX8_direction : MWS mX8_direction 2 := ⟨⟨wdA _ (List.mem_of_getElem? (i := 154) rfl), wdA _ (List.mem_of_getElem? (i := 157) rfl), by decide +kernel, by decide +kernel, by decide +kernel⟩, wdA _ (List.mem_of_getElem? (i := 158) rfl)⟩
theorem mwX8_search : MWV mX8_search 3 := ⟨⟨wdA _ (List.mem_of_getElem? (i := 154) rfl), wdA _ (List.mem_of_getElem? (i := 159) rfl), by decide +kernel, by decide +kernel, by decide +kernel⟩, wdA _ (List.mem_of_getElem? (i := 160) rfl), wdP _ (List.mem_of_getElem? (i := 31) rfl)⟩
theorem mwX8_addWay : MWV mX8_addWay 2 := ⟨⟨wdA _ (List.mem_of_getElem? (i := 154) rfl), wdA _ (List.mem_of_getElem? (i := 161) rfl), by decide +kernel, by decide +kernel, by decide +kernel⟩, wdA _ (List.mem_of_getElem? (i := 162) rfl), wdP _ (List.mem_of_getElem? (i := 32) rfl)⟩
theorem mwX1_copy : MWV mX1_copy 1 := ⟨⟨wdA _ (List.mem_of_getElem? (i := 0) rfl), wdA _ (List.mem_of_getElem? (i := 163) rfl), by decide +kernel, by decide +kernel, by decide +kernel⟩, wdA _ (List.mem_of_getElem? (i := 164) rfl), wdA _ (List.mem_of_getElem? (i := 165) rfl)⟩
theorem mwX2_copy : MWV mX2_copy 1 := ⟨⟨wdA _ (List.mem_of_getElem? (i := 10) rfl), wdA _ (List.mem_of_getElem? (i := 166) rfl), by decide +kernel, by decide +kernel, by decide +kernel⟩, wdA _ (List.mem_of_getElem? (i := 167) rfl), wdA _ (List.mem_of_getElem? (i := 168) rfl)⟩
theorem mwX6_copy : MWV mX6_copy 1 := ⟨⟨wdA _ (List.mem_of_getElem? (i := 102) rfl), wdA _ (List.mem_of_getElem? (i := 169) rfl), by decide +kernel, by decide +kernel, by decide +kernel⟩, wdA _ (List.mem_of_getElem? (i := 170) rfl), wdA _ (List.mem_of_getElem? (i := 171) rfl)⟩
theorem mwX9_rise : MWV mX9_rise 0 := ⟨⟨wdA _ (List.mem_of_getElem? (i := 34) rfl), wdA _ (List.mem_of_getElem? (i := 172) rfl), by decide +kernel, by decide +kernel, by decide +kernel⟩, wdA _ (List.mem_of_getElem? (i := 173) rfl), wdP _ (List.mem_of_getElem? (i := 33) rfl)⟩
theorem mwX9_drift : MWV mX9_drift 0 := ⟨⟨wdA _ (List.mem_of_getElem? (i := 34) rfl), wdA _ (List.mem_of_getElem? (i := 174) rfl), by decide +kernel, by decide +kernel, by decide +kernel⟩, wdA _ (List.mem_of_getElem? (i := 175) rfl), wdP _ (List.mem_of_getElem? (i := 34) rfl)⟩
theorem mwX9_note : MWV mX9_note 3 := ⟨⟨wdA _ (List.mem_of_getElem? (i := 34) rfl), wdA _ (List.mem_of_getElem? (i := 176) rfl), by decide +kernel, by decide +kernel, by decide +kernel⟩, wdA _ (List.mem_of_getElem? (i := 177) rfl), wdA _ (List.mem_of_getElem? (i := 178) rfl)⟩
theorem mwX9_draw : MWV mX9_draw 1 := ⟨⟨wdA _ (List.mem_of_getElem? (i := 34) rfl), wdA _ (List.mem_of_getElem? (i := 179) rfl), by decide +kernel, by decide +kernel, by decide +kernel⟩, wdA _ (List.mem_of_getElem? (i := 180) rfl), wdP _ (List.mem_of_getElem? (i := 35) rfl)⟩
theorem mwX9_meltOf : MWV mX9_meltOf 1 := ⟨⟨wdA _ (List.mem_of_getElem? (i := 34) rfl), wdA _ (List.mem_of_getElem? (i := 181) rfl), by decide +kernel, by decide +kernel, by decide +kernel⟩, wdA _ (List.mem_of_getElem? (i := 182) rfl), wdA _ (List.mem_of_getElem? (i := 183) rfl)⟩
theorem mwX9_weatherOf : MWV mX9_weatherOf 1 := ⟨⟨wdA _ (List.mem_of_getElem? (i := 34) rfl), wdA _ (List.mem_of_getElem? (i := 184) rfl), by decide +kernel, by decide +kernel, by decide +kernel⟩, wdA _ (List.mem_of_getElem? (i := 185) rfl), wdA _ (List.mem_of_getElem? (i := 186) rfl)⟩
theorem mwX1_canWed : MWV mX1_canWed 2 := ⟨⟨wdA _ (List.mem_of_getElem? (i := 0) rfl), wdA _ (List.mem_of_getElem? (i := 187) rfl), by decide +kernel, by decide +kernel, by decide +kernel⟩, wdA _ (List.mem_of_getElem? (i := 188) rfl), wdA _ (List.mem_of_getElem? (i := 189) rfl)⟩
theorem mwX9_makeVow : MWV mX9_makeVow 3 := ⟨⟨wdA _ (List.mem_of_getElem? (i := 34) rfl), wdA _ (List.mem_of_getElem? (i := 190) rfl), by decide +kernel, by decide +kernel, by decide +kernel⟩, wdA _ (List.mem_of_getElem? (i := 191) rfl), wdA _ (List.mem_of_getElem? (i := 192) rfl)⟩
theorem mwX9_slide : MWV mX9_slide 0 := ⟨⟨wdA _ (List.mem_of_getElem? (i := 34) rfl), wdA _ (List.mem_of_getElem? (i := 193) rfl), by decide +kernel, by decide +kernel, by decide +kernel⟩, wdA _ (List.mem_of_getElem? (i := 194) rfl), wdP _ (List.mem_of_getElem? (i := 36) rfl)⟩
theorem mwX9_meltAll : MWV mX9_meltAll 0 := ⟨⟨wdA _ (List.mem_of_getElem? (i := 34) rfl), wdA _ (List.mem_of_getElem? (i := 195) rfl), by decide +kernel, by decide +kernel, by decide +kernel⟩, wdA _ (List.mem_of_getElem? (i := 196) rfl), wdP _ (List.mem_of_getElem? (i := 37) rfl)⟩
theorem mwX6_greatest : MWV mX6_greatest 1 := ⟨⟨wdA _ (List.mem_of_getElem? (i := 102) rfl), wdA _ (List.mem_of_getElem? (i := 197) rfl), by decide +kernel, by decide +kernel, by decide +kernel⟩, wdA _ (List.mem_of_getElem? (i := 198) rfl), wdA _ (List.mem_of_getElem? (i := 199) rfl)⟩
theorem mwX9_isBare : MWV mX9_isBare 1 := ⟨⟨wdA _ (List.mem_of_getElem? (i := 34) rfl), wdA _ (List.mem_of_getElem? (i := 200) rfl), by decide +kernel, by decide +kernel, by decide +kernel⟩, wdA _ (List.mem_of_getElem? (i := 201) rfl), wdA _ (List.mem_of_getElem? (i := 202) rfl)⟩
theorem mwX9_allStirsFit : MWV mX9_allStirsFit 2 := ⟨⟨wdA _ (List.mem_of_getElem? (i := 34) rfl), wdA _ (List.mem_of_getElem? (i := 203) rfl), by decide +kernel, by decide +kernel, by decide +kernel⟩, wdA _ (List.mem_of_getElem? (i := 204) rfl), wdP _ (List.mem_of_getElem? (i := 38) rfl)⟩
theorem mwX9_begin : MWV mX9_begin 2 := ⟨⟨wdA _ (List.mem_of_getElem? (i := 34) rfl), wdA _ (List.mem_of_getElem? (i := 205) rfl), by decide +kernel, by decide +kernel, by decide +kernel⟩, wdA _ (List.mem_of_getElem? (i := 206) rfl), wdP _ (List.mem_of_getElem? (i := 39) rfl)⟩
theorem mwX10_within : MWS mX10_within 2 := ⟨⟨wdA _ (List.mem_of_getElem? (i := 31) rfl), wdA _ (List.mem_of_getElem? (i := 207) rfl), by decide +kernel, by decide +kernel, by decide +kernel⟩, wdA _ (List.mem_of_getElem? (i := 208) rfl)⟩
theorem mwX1_add : MWV mX1_add 4 := ⟨⟨wdA _ (List.mem_of_getElem? (i := 0) rfl), wdA _ (List.mem_of_getElem? (i := 209) rfl), by decide +kernel, by decide +kernel, by decide +kernel⟩, wdA _ (List.mem_of_getElem? (i := 210) rfl), wdA _ (List.mem_of_getElem? (i := 211) rfl)⟩
theorem mwX10_setValley : MWV mX10_setValley 2 := ⟨⟨wdA _ (List.mem_of_getElem? (i := 31) rfl), wdA _ (List.mem_of_getElem? (i := 212) rfl), by decide +kernel, by decide +kernel, by decide +kernel⟩, wdA _ (List.mem_of_getElem? (i := 213) rfl), wdP _ (List.mem_of_getElem? (i := 40) rfl)⟩
theorem mwX10_setOne : MWV mX10_setOne 3 := ⟨⟨wdA _ (List.mem_of_getElem? (i := 31) rfl), wdA _ (List.mem_of_getElem? (i := 214) rfl), by decide +kernel, by decide +kernel, by decide +kernel⟩, wdA _ (List.mem_of_getElem? (i := 215) rfl), wdP _ (List.mem_of_getElem? (i := 41) rfl)⟩
theorem mwX1_areTwo : MWV mX1_areTwo 2 := ⟨⟨wdA _ (List.mem_of_getElem? (i := 0) rfl), wdA _ (List.mem_of_getElem? (i := 216) rfl), by decide +kernel, by decide +kernel, by decide +kernel⟩, wdA _ (List.mem_of_getElem? (i := 217) rfl), wdA _ (List.mem_of_getElem? (i := 218) rfl)⟩
theorem mwX1_makeKin : MWV mX1_makeKin 3 := ⟨⟨wdA _ (List.mem_of_getElem? (i := 0) rfl), wdA _ (List.mem_of_getElem? (i := 219) rfl), by decide +kernel, by decide +kernel, by decide +kernel⟩, wdA _ (List.mem_of_getElem? (i := 220) rfl), wdA _ (List.mem_of_getElem? (i := 221) rfl)⟩
theorem mwX3_keep : MWV mX3_keep 1 := ⟨⟨wdA _ (List.mem_of_getElem? (i := 222) rfl), wdA _ (List.mem_of_getElem? (i := 223) rfl), by decide +kernel, by decide +kernel, by decide +kernel⟩, wdA _ (List.mem_of_getElem? (i := 224) rfl), wdA _ (List.mem_of_getElem? (i := 225) rfl)⟩
theorem mwX9_passDay : MWV mX9_passDay 0 := ⟨⟨wdA _ (List.mem_of_getElem? (i := 34) rfl), wdA _ (List.mem_of_getElem? (i := 226) rfl), by decide +kernel, by decide +kernel, by decide +kernel⟩, wdA _ (List.mem_of_getElem? (i := 227) rfl), wdA _ (List.mem_of_getElem? (i := 228) rfl)⟩
theorem mwX7_put : MWV mX7_put 1 := ⟨⟨wdA _ (List.mem_of_getElem? (i := 131) rfl), wdA _ (List.mem_of_getElem? (i := 229) rfl), by decide +kernel, by decide +kernel, by decide +kernel⟩, wdA _ (List.mem_of_getElem? (i := 230) rfl), wdA _ (List.mem_of_getElem? (i := 231) rfl)⟩
theorem mwX7_split : MWV mX7_split 0 := ⟨⟨wdA _ (List.mem_of_getElem? (i := 131) rfl), wdA _ (List.mem_of_getElem? (i := 232) rfl), by decide +kernel, by decide +kernel, by decide +kernel⟩, wdA _ (List.mem_of_getElem? (i := 233) rfl), wdA _ (List.mem_of_getElem? (i := 234) rfl)⟩
theorem mwX4_reads : MWV mX4_reads 1 := ⟨⟨wdA _ (List.mem_of_getElem? (i := 77) rfl), wdA _ (List.mem_of_getElem? (i := 235) rfl), by decide +kernel, by decide +kernel, by decide +kernel⟩, wdA _ (List.mem_of_getElem? (i := 236) rfl), wdA _ (List.mem_of_getElem? (i := 237) rfl)⟩
theorem mwX9_take : MWV mX9_take 2 := ⟨⟨wdA _ (List.mem_of_getElem? (i := 34) rfl), wdA _ (List.mem_of_getElem? (i := 238) rfl), by decide +kernel, by decide +kernel, by decide +kernel⟩, wdA _ (List.mem_of_getElem? (i := 239) rfl), wdA _ (List.mem_of_getElem? (i := 240) rfl)⟩
theorem mwX9_copy : MWV mX9_copy 1 := ⟨⟨wdA _ (List.mem_of_getElem? (i := 34) rfl), wdA _ (List.mem_of_getElem? (i := 241) rfl), by decide +kernel, by decide +kernel, by decide +kernel⟩, wdA _ (List.mem_of_getElem? (i := 242) rfl), wdA _ (List.mem_of_getElem? (i := 243) rfl)⟩
theorem mwX10_beginThought : MWV mX10_beginThought 0 := ⟨⟨wdA _ (List.mem_of_getElem? (i := 31) rfl), wdA _ (List.mem_of_getElem? (i := 244) rfl), by decide +kernel, by decide +kernel, by decide +kernel⟩, wdA _ (List.mem_of_getElem? (i := 245) rfl), wdP _ (List.mem_of_getElem? (i := 42) rfl)⟩
theorem mwX9_firstVoid : MWV mX9_firstVoid 0 := ⟨⟨wdA _ (List.mem_of_getElem? (i := 34) rfl), wdA _ (List.mem_of_getElem? (i := 246) rfl), by decide +kernel, by decide +kernel, by decide +kernel⟩, wdA _ (List.mem_of_getElem? (i := 247) rfl), wdA _ (List.mem_of_getElem? (i := 248) rfl)⟩
theorem mwX9_unmetWant : MWV mX9_unmetWant 1 := ⟨⟨wdA _ (List.mem_of_getElem? (i := 34) rfl), wdA _ (List.mem_of_getElem? (i := 249) rfl), by decide +kernel, by decide +kernel, by decide +kernel⟩, wdA _ (List.mem_of_getElem? (i := 250) rfl), wdA _ (List.mem_of_getElem? (i := 251) rfl)⟩
theorem mwX9_worthMet : MWV mX9_worthMet 1 := ⟨⟨wdA _ (List.mem_of_getElem? (i := 34) rfl), wdA _ (List.mem_of_getElem? (i := 252) rfl), by decide +kernel, by decide +kernel, by decide +kernel⟩, wdA _ (List.mem_of_getElem? (i := 253) rfl), wdA _ (List.mem_of_getElem? (i := 254) rfl)⟩
theorem mwX0_settle : MWV mX0_settle 1 := ⟨⟨wdA _ (List.mem_of_getElem? (i := 38) rfl), wdA _ (List.mem_of_getElem? (i := 255) rfl), by decide +kernel, by decide +kernel, by decide +kernel⟩, wdA _ (List.mem_of_getElem? (i := 256) rfl), wdA _ (List.mem_of_getElem? (i := 257) rfl)⟩
theorem mwX0_pair : MWV mX0_pair 1 := ⟨⟨wdA _ (List.mem_of_getElem? (i := 38) rfl), wdA _ (List.mem_of_getElem? (i := 258) rfl), by decide +kernel, by decide +kernel, by decide +kernel⟩, wdA _ (List.mem_of_getElem? (i := 259) rfl), wdA _ (List.mem_of_getElem? (i := 260) rfl)⟩
theorem mwX0_baring : MWV mX0_baring 2 := ⟨⟨wdA _ (List.mem_of_getElem? (i := 38) rfl), wdA _ (List.mem_of_getElem? (i := 261) rfl), by decide +kernel, by decide +kernel, by decide +kernel⟩, wdA _ (List.mem_of_getElem? (i := 262) rfl), wdA _ (List.mem_of_getElem? (i := 263) rfl)⟩
theorem mwX9_whoCanBe : MWV mX9_whoCanBe 1 := ⟨⟨wdA _ (List.mem_of_getElem? (i := 34) rfl), wdA _ (List.mem_of_getElem? (i := 264) rfl), by decide +kernel, by decide +kernel, by decide +kernel⟩, wdA _ (List.mem_of_getElem? (i := 265) rfl), wdA _ (List.mem_of_getElem? (i := 266) rfl)⟩
theorem mwX0_nextToPass : MWV mX0_nextToPass 3 := ⟨⟨wdA _ (List.mem_of_getElem? (i := 38) rfl), wdA _ (List.mem_of_getElem? (i := 267) rfl), by decide +kernel, by decide +kernel, by decide +kernel⟩, wdA _ (List.mem_of_getElem? (i := 268) rfl), wdA _ (List.mem_of_getElem? (i := 269) rfl)⟩
theorem mwX8_fewestSteps : MWV mX8_fewestSteps 3 := ⟨⟨wdA _ (List.mem_of_getElem? (i := 154) rfl), wdA _ (List.mem_of_getElem? (i := 270) rfl), by decide +kernel, by decide +kernel, by decide +kernel⟩, wdA _ (List.mem_of_getElem? (i := 271) rfl), wdA _ (List.mem_of_getElem? (i := 272) rfl)⟩
theorem mwX8_fewestToCut : MWV mX8_fewestToCut 3 := ⟨⟨wdA _ (List.mem_of_getElem? (i := 154) rfl), wdA _ (List.mem_of_getElem? (i := 273) rfl), by decide +kernel, by decide +kernel, by decide +kernel⟩, wdA _ (List.mem_of_getElem? (i := 274) rfl), wdA _ (List.mem_of_getElem? (i := 275) rfl)⟩
theorem mwX5_make : MWV mX5_make 1 := ⟨⟨wdA _ (List.mem_of_getElem? (i := 120) rfl), wdA _ (List.mem_of_getElem? (i := 276) rfl), by decide +kernel, by decide +kernel, by decide +kernel⟩, wdA _ (List.mem_of_getElem? (i := 277) rfl), wdA _ (List.mem_of_getElem? (i := 278) rfl)⟩
theorem mwX5_dayOf : MWV mX5_dayOf 1 := ⟨⟨wdA _ (List.mem_of_getElem? (i := 120) rfl), wdA _ (List.mem_of_getElem? (i := 279) rfl), by decide +kernel, by decide +kernel, by decide +kernel⟩, wdA _ (List.mem_of_getElem? (i := 280) rfl), wdA _ (List.mem_of_getElem? (i := 281) rfl)⟩
theorem mwJ9_floorDiv_7cf53 : MWS mJ9_floorDiv_7cf53 2 := ⟨⟨wdA _ (List.mem_of_getElem? (i := 7) rfl), wdA _ (List.mem_of_getElem? (i := 282) rfl), by decide +kernel, by decide +kernel, by decide +kernel⟩, wdA _ (List.mem_of_getElem? (i := 283) rfl)⟩
theorem mwX9_worthBare : MWV mX9_worthBare 0 := ⟨⟨wdA _ (List.mem_of_getElem? (i := 34) rfl), wdA _ (List.mem_of_getElem? (i := 284) rfl), by decide +kernel, by decide +kernel, by decide +kernel⟩, wdA _ (List.mem_of_getElem? (i := 285) rfl), wdA _ (List.mem_of_getElem? (i := 286) rfl)⟩
theorem mwX1_allKinOf : MWV mX1_allKinOf 1 := ⟨⟨wdA _ (List.mem_of_getElem? (i := 0) rfl), wdA _ (List.mem_of_getElem? (i := 287) rfl), by decide +kernel, by decide +kernel, by decide +kernel⟩, wdA _ (List.mem_of_getElem? (i := 288) rfl), wdA _ (List.mem_of_getElem? (i := 289) rfl)⟩
theorem mwX3_giveBack : MWV mX3_giveBack 1 := ⟨⟨wdA _ (List.mem_of_getElem? (i := 222) rfl), wdA _ (List.mem_of_getElem? (i := 290) rfl), by decide +kernel, by decide +kernel, by decide +kernel⟩, wdA _ (List.mem_of_getElem? (i := 291) rfl), wdA _ (List.mem_of_getElem? (i := 292) rfl)⟩
theorem mwX9_bareFields : MWV mX9_bareFields 0 := ⟨⟨wdA _ (List.mem_of_getElem? (i := 34) rfl), wdA _ (List.mem_of_getElem? (i := 293) rfl), by decide +kernel, by decide +kernel, by decide +kernel⟩, wdA _ (List.mem_of_getElem? (i := 294) rfl), wdA _ (List.mem_of_getElem? (i := 295) rfl)⟩
theorem mwX11_isIn : MWS mX11_isIn 3 := ⟨⟨wdA _ (List.mem_of_getElem? (i := 296) rfl), wdA _ (List.mem_of_getElem? (i := 297) rfl), by decide +kernel, by decide +kernel, by decide +kernel⟩, wdA _ (List.mem_of_getElem? (i := 298) rfl)⟩
theorem mwX11_isOn : MWV mX11_isOn 2 := ⟨⟨wdA _ (List.mem_of_getElem? (i := 296) rfl), wdA _ (List.mem_of_getElem? (i := 299) rfl), by decide +kernel, by decide +kernel, by decide +kernel⟩, wdA _ (List.mem_of_getElem? (i := 300) rfl), wdP _ (List.mem_of_getElem? (i := 43) rfl)⟩
theorem mwX11_isField : MWV mX11_isField 1 := ⟨⟨wdA _ (List.mem_of_getElem? (i := 296) rfl), wdA _ (List.mem_of_getElem? (i := 301) rfl), by decide +kernel, by decide +kernel, by decide +kernel⟩, wdA _ (List.mem_of_getElem? (i := 302) rfl), wdP _ (List.mem_of_getElem? (i := 44) rfl)⟩
theorem mwX11_isPerson : MWV mX11_isPerson 1 := ⟨⟨wdA _ (List.mem_of_getElem? (i := 296) rfl), wdA _ (List.mem_of_getElem? (i := 303) rfl), by decide +kernel, by decide +kernel, by decide +kernel⟩, wdA _ (List.mem_of_getElem? (i := 304) rfl), wdP _ (List.mem_of_getElem? (i := 45) rfl)⟩
theorem mwX11_size : MWS mX11_size 1 := ⟨⟨wdA _ (List.mem_of_getElem? (i := 296) rfl), wdA _ (List.mem_of_getElem? (i := 305) rfl), by decide +kernel, by decide +kernel, by decide +kernel⟩, wdA _ (List.mem_of_getElem? (i := 306) rfl)⟩
theorem mwX11_forgets : MWV mX11_forgets 0 := ⟨⟨wdA _ (List.mem_of_getElem? (i := 296) rfl), wdA _ (List.mem_of_getElem? (i := 307) rfl), by decide +kernel, by decide +kernel, by decide +kernel⟩, wdA _ (List.mem_of_getElem? (i := 308) rfl), wdP _ (List.mem_of_getElem? (i := 46) rfl)⟩
theorem mwX11_begins : MWV mX11_begins 2 := ⟨⟨wdA _ (List.mem_of_getElem? (i := 296) rfl), wdA _ (List.mem_of_getElem? (i := 309) rfl), by decide +kernel, by decide +kernel, by decide +kernel⟩, wdA _ (List.mem_of_getElem? (i := 310) rfl), wdP _ (List.mem_of_getElem? (i := 47) rfl)⟩
theorem mwX11_canSet : MWV mX11_canSet 3 := ⟨⟨wdA _ (List.mem_of_getElem? (i := 296) rfl), wdA _ (List.mem_of_getElem? (i := 311) rfl), by decide +kernel, by decide +kernel, by decide +kernel⟩, wdA _ (List.mem_of_getElem? (i := 312) rfl), wdP _ (List.mem_of_getElem? (i := 48) rfl)⟩
theorem mwX11_placeOf : MWS mX11_placeOf 2 := ⟨⟨wdA _ (List.mem_of_getElem? (i := 296) rfl), wdA _ (List.mem_of_getElem? (i := 313) rfl), by decide +kernel, by decide +kernel, by decide +kernel⟩, wdA _ (List.mem_of_getElem? (i := 314) rfl)⟩
theorem mwX11_is : MWV mX11_is 1 := ⟨⟨wdA _ (List.mem_of_getElem? (i := 296) rfl), wdA _ (List.mem_of_getElem? (i := 315) rfl), by decide +kernel, by decide +kernel, by decide +kernel⟩, wdA _ (List.mem_of_getElem? (i := 316) rfl), wdP _ (List.mem_of_getElem? (i := 49) rfl)⟩
theorem mwX11_asked : MWV mX11_asked 0 := ⟨⟨wdA _ (List.mem_of_getElem? (i := 296) rfl), wdA _ (List.mem_of_getElem? (i := 317) rfl), by decide +kernel, by decide +kernel, by decide +kernel⟩, wdA _ (List.mem_of_getElem? (i := 318) rfl), wdP _ (List.mem_of_getElem? (i := 50) rfl)⟩
theorem mwX11_lawWord : MWV mX11_lawWord 0 := ⟨⟨wdA _ (List.mem_of_getElem? (i := 296) rfl), wdA _ (List.mem_of_getElem? (i := 319) rfl), by decide +kernel, by decide +kernel, by decide +kernel⟩, wdA _ (List.mem_of_getElem? (i := 320) rfl), wdP _ (List.mem_of_getElem? (i := 51) rfl)⟩
theorem mwX11_vowWord : MWV mX11_vowWord 0 := ⟨⟨wdA _ (List.mem_of_getElem? (i := 296) rfl), wdA _ (List.mem_of_getElem? (i := 321) rfl), by decide +kernel, by decide +kernel, by decide +kernel⟩, wdA _ (List.mem_of_getElem? (i := 322) rfl), wdP _ (List.mem_of_getElem? (i := 52) rfl)⟩
theorem mwX11_weatherWord : MWV mX11_weatherWord 0 := ⟨⟨wdA _ (List.mem_of_getElem? (i := 296) rfl), wdA _ (List.mem_of_getElem? (i := 323) rfl), by decide +kernel, by decide +kernel, by decide +kernel⟩, wdA _ (List.mem_of_getElem? (i := 324) rfl), wdP _ (List.mem_of_getElem? (i := 53) rfl)⟩
theorem mwX11_wantWord : MWV mX11_wantWord 0 := ⟨⟨wdA _ (List.mem_of_getElem? (i := 296) rfl), wdA _ (List.mem_of_getElem? (i := 325) rfl), by decide +kernel, by decide +kernel, by decide +kernel⟩, wdA _ (List.mem_of_getElem? (i := 326) rfl), wdP _ (List.mem_of_getElem? (i := 54) rfl)⟩
theorem mwX11_see : MWV mX11_see 1 := ⟨⟨wdA _ (List.mem_of_getElem? (i := 296) rfl), wdA _ (List.mem_of_getElem? (i := 327) rfl), by decide +kernel, by decide +kernel, by decide +kernel⟩, wdA _ (List.mem_of_getElem? (i := 328) rfl), wdP _ (List.mem_of_getElem? (i := 55) rfl)⟩
theorem mwX11_isLetter : MWS mX11_isLetter 1 := ⟨⟨wdA _ (List.mem_of_getElem? (i := 296) rfl), wdA _ (List.mem_of_getElem? (i := 329) rfl), by decide +kernel, by decide +kernel, by decide +kernel⟩, wdA _ (List.mem_of_getElem? (i := 330) rfl)⟩
theorem mwX11_word : MWV mX11_word 0 := ⟨⟨wdA _ (List.mem_of_getElem? (i := 296) rfl), wdA _ (List.mem_of_getElem? (i := 331) rfl), by decide +kernel, by decide +kernel, by decide +kernel⟩, wdA _ (List.mem_of_getElem? (i := 332) rfl), wdP _ (List.mem_of_getElem? (i := 56) rfl)⟩
theorem mwX11_isDigit : MWS mX11_isDigit 1 := ⟨⟨wdA _ (List.mem_of_getElem? (i := 296) rfl), wdA _ (List.mem_of_getElem? (i := 333) rfl), by decide +kernel, by decide +kernel, by decide +kernel⟩, wdA _ (List.mem_of_getElem? (i := 334) rfl)⟩
theorem mwX11_bad : MWV mX11_bad 1 := ⟨⟨wdA _ (List.mem_of_getElem? (i := 296) rfl), wdA _ (List.mem_of_getElem? (i := 335) rfl), by decide +kernel, by decide +kernel, by decide +kernel⟩, wdA _ (List.mem_of_getElem? (i := 336) rfl), wdP _ (List.mem_of_getElem? (i := 57) rfl)⟩
theorem mwX11_next0 : MWV mX11_next0 0 := ⟨⟨wdA _ (List.mem_of_getElem? (i := 296) rfl), wdA _ (List.mem_of_getElem? (i := 337) rfl), by decide +kernel, by decide +kernel, by decide +kernel⟩, wdA _ (List.mem_of_getElem? (i := 338) rfl), wdP _ (List.mem_of_getElem? (i := 58) rfl)⟩
theorem mwX11_lay : MWV mX11_lay 2 := ⟨⟨wdA _ (List.mem_of_getElem? (i := 296) rfl), wdA _ (List.mem_of_getElem? (i := 339) rfl), by decide +kernel, by decide +kernel, by decide +kernel⟩, wdA _ (List.mem_of_getElem? (i := 340) rfl), wdP _ (List.mem_of_getElem? (i := 59) rfl)⟩
theorem mwX11_unit : MWV mX11_unit 0 := ⟨⟨wdA _ (List.mem_of_getElem? (i := 296) rfl), wdA _ (List.mem_of_getElem? (i := 341) rfl), by decide +kernel, by decide +kernel, by decide +kernel⟩, wdA _ (List.mem_of_getElem? (i := 342) rfl), wdP _ (List.mem_of_getElem? (i := 60) rfl)⟩
theorem mwX11_product : MWV mX11_product 0 := ⟨⟨wdA _ (List.mem_of_getElem? (i := 296) rfl), wdA _ (List.mem_of_getElem? (i := 343) rfl), by decide +kernel, by decide +kernel, by decide +kernel⟩, wdA _ (List.mem_of_getElem? (i := 344) rfl), wdP _ (List.mem_of_getElem? (i := 61) rfl)⟩
theorem mwX11_every : ∀ d, MWV (mX11_every d) 0 := fun _ => ⟨⟨wdA _ (List.mem_of_getElem? (i := 296) rfl), wdA _ (List.mem_of_getElem? (i := 345) rfl), by decide +kernel, by decide +kernel, by decide +kernel⟩, wdA _ (List.mem_of_getElem? (i := 346) rfl), wdP _ (List.mem_of_getElem? (i := 62) rfl)⟩
theorem mwX11_oneTest : ∀ d, MWV (mX11_oneTest d) 0 := fun _ => ⟨⟨wdA _ (List.mem_of_getElem? (i := 296) rfl), wdA _ (List.mem_of_getElem? (i := 347) rfl), by decide +kernel, by decide +kernel, by decide +kernel⟩, wdA _ (List.mem_of_getElem? (i := 348) rfl), wdP _ (List.mem_of_getElem? (i := 63) rfl)⟩
theorem mwX11_opens : MWV mX11_opens 0 := ⟨⟨wdA _ (List.mem_of_getElem? (i := 296) rfl), wdA _ (List.mem_of_getElem? (i := 349) rfl), by decide +kernel, by decide +kernel, by decide +kernel⟩, wdA _ (List.mem_of_getElem? (i := 350) rfl), wdP _ (List.mem_of_getElem? (i := 64) rfl)⟩
theorem mwX11_any : ∀ d, MWV (mX11_any d) 0 := fun _ => ⟨⟨wdA _ (List.mem_of_getElem? (i := 296) rfl), wdA _ (List.mem_of_getElem? (i := 351) rfl), by decide +kernel, by decide +kernel, by decide +kernel⟩, wdA _ (List.mem_of_getElem? (i := 352) rfl), wdP _ (List.mem_of_getElem? (i := 65) rfl)⟩
theorem mwX11_need : MWV mX11_need 1 := ⟨⟨wdA _ (List.mem_of_getElem? (i := 296) rfl), wdA _ (List.mem_of_getElem? (i := 353) rfl), by decide +kernel, by decide +kernel, by decide +kernel⟩, wdA _ (List.mem_of_getElem? (i := 354) rfl), wdP _ (List.mem_of_getElem? (i := 66) rfl)⟩
theorem mwX11_sumUp : MWV mX11_sumUp 0 := ⟨⟨wdA _ (List.mem_of_getElem? (i := 296) rfl), wdA _ (List.mem_of_getElem? (i := 355) rfl), by decide +kernel, by decide +kernel, by decide +kernel⟩, wdA _ (List.mem_of_getElem? (i := 356) rfl), wdP _ (List.mem_of_getElem? (i := 67) rfl)⟩
theorem mwX11_aLine : MWV mX11_aLine 0 := ⟨⟨wdA _ (List.mem_of_getElem? (i := 296) rfl), wdA _ (List.mem_of_getElem? (i := 357) rfl), by decide +kernel, by decide +kernel, by decide +kernel⟩, wdA _ (List.mem_of_getElem? (i := 358) rfl), wdP _ (List.mem_of_getElem? (i := 68) rfl)⟩
theorem mwX11_number : MWV mX11_number 3 := ⟨⟨wdA _ (List.mem_of_getElem? (i := 296) rfl), wdA _ (List.mem_of_getElem? (i := 359) rfl), by decide +kernel, by decide +kernel, by decide +kernel⟩, wdA _ (List.mem_of_getElem? (i := 360) rfl), wdP _ (List.mem_of_getElem? (i := 69) rfl)⟩
theorem mwX11_told : MWV mX11_told 4 := ⟨⟨wdA _ (List.mem_of_getElem? (i := 296) rfl), wdA _ (List.mem_of_getElem? (i := 361) rfl), by decide +kernel, by decide +kernel, by decide +kernel⟩, wdA _ (List.mem_of_getElem? (i := 362) rfl), wdP _ (List.mem_of_getElem? (i := 70) rfl)⟩
theorem mwX11_areUnlike : MWV mX11_areUnlike 2 := ⟨⟨wdA _ (List.mem_of_getElem? (i := 296) rfl), wdA _ (List.mem_of_getElem? (i := 363) rfl), by decide +kernel, by decide +kernel, by decide +kernel⟩, wdA _ (List.mem_of_getElem? (i := 364) rfl), wdP _ (List.mem_of_getElem? (i := 71) rfl)⟩
theorem mwX11_aField : MWV mX11_aField 2 := ⟨⟨wdA _ (List.mem_of_getElem? (i := 296) rfl), wdA _ (List.mem_of_getElem? (i := 365) rfl), by decide +kernel, by decide +kernel, by decide +kernel⟩, wdA _ (List.mem_of_getElem? (i := 366) rfl), wdP _ (List.mem_of_getElem? (i := 72) rfl)⟩
theorem mwX11_aVow : MWV mX11_aVow 0 := ⟨⟨wdA _ (List.mem_of_getElem? (i := 296) rfl), wdA _ (List.mem_of_getElem? (i := 367) rfl), by decide +kernel, by decide +kernel, by decide +kernel⟩, wdA _ (List.mem_of_getElem? (i := 368) rfl), wdP _ (List.mem_of_getElem? (i := 73) rfl)⟩
theorem mwX11_aWeather : MWV mX11_aWeather 0 := ⟨⟨wdA _ (List.mem_of_getElem? (i := 296) rfl), wdA _ (List.mem_of_getElem? (i := 369) rfl), by decide +kernel, by decide +kernel, by decide +kernel⟩, wdA _ (List.mem_of_getElem? (i := 370) rfl), wdP _ (List.mem_of_getElem? (i := 74) rfl)⟩
theorem mwX11_aWant : MWV mX11_aWant 0 := ⟨⟨wdA _ (List.mem_of_getElem? (i := 296) rfl), wdA _ (List.mem_of_getElem? (i := 371) rfl), by decide +kernel, by decide +kernel, by decide +kernel⟩, wdA _ (List.mem_of_getElem? (i := 372) rfl), wdP _ (List.mem_of_getElem? (i := 75) rfl)⟩
theorem mwX11_aRow : MWV mX11_aRow 0 := ⟨⟨wdA _ (List.mem_of_getElem? (i := 296) rfl), wdA _ (List.mem_of_getElem? (i := 373) rfl), by decide +kernel, by decide +kernel, by decide +kernel⟩, wdA _ (List.mem_of_getElem? (i := 374) rfl), wdP _ (List.mem_of_getElem? (i := 76) rfl)⟩
theorem mwX11_putsLaw : MWV mX11_putsLaw 0 := ⟨⟨wdA _ (List.mem_of_getElem? (i := 296) rfl), wdA _ (List.mem_of_getElem? (i := 375) rfl), by decide +kernel, by decide +kernel, by decide +kernel⟩, wdA _ (List.mem_of_getElem? (i := 376) rfl), wdP _ (List.mem_of_getElem? (i := 77) rfl)⟩
theorem mwX11_puts : MWV mX11_puts 3 := ⟨⟨wdA _ (List.mem_of_getElem? (i := 296) rfl), wdA _ (List.mem_of_getElem? (i := 377) rfl), by decide +kernel, by decide +kernel, by decide +kernel⟩, wdA _ (List.mem_of_getElem? (i := 378) rfl), wdP _ (List.mem_of_getElem? (i := 78) rfl)⟩
theorem mwX11_readsLaw : MWV mX11_readsLaw 0 := ⟨⟨wdA _ (List.mem_of_getElem? (i := 296) rfl), wdA _ (List.mem_of_getElem? (i := 379) rfl), by decide +kernel, by decide +kernel, by decide +kernel⟩, wdA _ (List.mem_of_getElem? (i := 380) rfl), wdP _ (List.mem_of_getElem? (i := 79) rfl)⟩
theorem mwX11_readsRows : MWV mX11_readsRows 0 := ⟨⟨wdA _ (List.mem_of_getElem? (i := 296) rfl), wdA _ (List.mem_of_getElem? (i := 381) rfl), by decide +kernel, by decide +kernel, by decide +kernel⟩, wdA _ (List.mem_of_getElem? (i := 382) rfl), wdP _ (List.mem_of_getElem? (i := 80) rfl)⟩
theorem mwX11_putsText : MWV mX11_putsText 1 := ⟨⟨wdA _ (List.mem_of_getElem? (i := 296) rfl), wdA _ (List.mem_of_getElem? (i := 383) rfl), by decide +kernel, by decide +kernel, by decide +kernel⟩, wdA _ (List.mem_of_getElem? (i := 384) rfl), wdP _ (List.mem_of_getElem? (i := 81) rfl)⟩
theorem mwX11_both : MWS mX11_both 3 := ⟨⟨wdA _ (List.mem_of_getElem? (i := 296) rfl), wdA _ (List.mem_of_getElem? (i := 385) rfl), by decide +kernel, by decide +kernel, by decide +kernel⟩, wdA _ (List.mem_of_getElem? (i := 386) rfl)⟩
theorem mwX11_comesTo : MWV mX11_comesTo 3 := ⟨⟨wdA _ (List.mem_of_getElem? (i := 296) rfl), wdA _ (List.mem_of_getElem? (i := 387) rfl), by decide +kernel, by decide +kernel, by decide +kernel⟩, wdA _ (List.mem_of_getElem? (i := 388) rfl), wdP _ (List.mem_of_getElem? (i := 82) rfl)⟩
theorem mwX11_isSo : MWV mX11_isSo 1 := ⟨⟨wdA _ (List.mem_of_getElem? (i := 296) rfl), wdA _ (List.mem_of_getElem? (i := 389) rfl), by decide +kernel, by decide +kernel, by decide +kernel⟩, wdA _ (List.mem_of_getElem? (i := 390) rfl), wdP _ (List.mem_of_getElem? (i := 83) rfl)⟩
theorem mwX11_lesser : MWS mX11_lesser 2 := ⟨⟨wdA _ (List.mem_of_getElem? (i := 296) rfl), wdA _ (List.mem_of_getElem? (i := 391) rfl), by decide +kernel, by decide +kernel, by decide +kernel⟩, wdA _ (List.mem_of_getElem? (i := 392) rfl)⟩
theorem mwX11_greater : MWS mX11_greater 2 := ⟨⟨wdA _ (List.mem_of_getElem? (i := 296) rfl), wdA _ (List.mem_of_getElem? (i := 393) rfl), by decide +kernel, by decide +kernel, by decide +kernel⟩, wdA _ (List.mem_of_getElem? (i := 394) rfl)⟩
theorem mwX11_clears : MWV mX11_clears 0 := ⟨⟨wdA _ (List.mem_of_getElem? (i := 296) rfl), wdA _ (List.mem_of_getElem? (i := 395) rfl), by decide +kernel, by decide +kernel, by decide +kernel⟩, wdA _ (List.mem_of_getElem? (i := 396) rfl), wdP _ (List.mem_of_getElem? (i := 84) rfl)⟩
theorem mwX11_laysTwo : MWV mX11_laysTwo 2 := ⟨⟨wdA _ (List.mem_of_getElem? (i := 296) rfl), wdA _ (List.mem_of_getElem? (i := 397) rfl), by decide +kernel, by decide +kernel, by decide +kernel⟩, wdA _ (List.mem_of_getElem? (i := 398) rfl), wdP _ (List.mem_of_getElem? (i := 85) rfl)⟩
theorem mwX11_says : MWV mX11_says 3 := ⟨⟨wdA _ (List.mem_of_getElem? (i := 296) rfl), wdA _ (List.mem_of_getElem? (i := 399) rfl), by decide +kernel, by decide +kernel, by decide +kernel⟩, wdA _ (List.mem_of_getElem? (i := 400) rfl), wdP _ (List.mem_of_getElem? (i := 86) rfl)⟩
theorem mwX11_matchOf : MWV mX11_matchOf 2 := ⟨⟨wdA _ (List.mem_of_getElem? (i := 296) rfl), wdA _ (List.mem_of_getElem? (i := 401) rfl), by decide +kernel, by decide +kernel, by decide +kernel⟩, wdA _ (List.mem_of_getElem? (i := 402) rfl), wdP _ (List.mem_of_getElem? (i := 87) rfl)⟩
theorem mwX11_foundOf : MWV mX11_foundOf 2 := ⟨⟨wdA _ (List.mem_of_getElem? (i := 296) rfl), wdA _ (List.mem_of_getElem? (i := 403) rfl), by decide +kernel, by decide +kernel, by decide +kernel⟩, wdA _ (List.mem_of_getElem? (i := 404) rfl), wdP _ (List.mem_of_getElem? (i := 88) rfl)⟩
theorem mwX11_apart : MWS mX11_apart 2 := ⟨⟨wdA _ (List.mem_of_getElem? (i := 296) rfl), wdA _ (List.mem_of_getElem? (i := 405) rfl), by decide +kernel, by decide +kernel, by decide +kernel⟩, wdA _ (List.mem_of_getElem? (i := 406) rfl)⟩
theorem mwX11_isFree : MWV mX11_isFree 1 := ⟨⟨wdA _ (List.mem_of_getElem? (i := 296) rfl), wdA _ (List.mem_of_getElem? (i := 407) rfl), by decide +kernel, by decide +kernel, by decide +kernel⟩, wdA _ (List.mem_of_getElem? (i := 408) rfl), wdP _ (List.mem_of_getElem? (i := 89) rfl)⟩
theorem mwX11_liftOf : MWV mX11_liftOf 4 := ⟨⟨wdA _ (List.mem_of_getElem? (i := 296) rfl), wdA _ (List.mem_of_getElem? (i := 409) rfl), by decide +kernel, by decide +kernel, by decide +kernel⟩, wdA _ (List.mem_of_getElem? (i := 410) rfl), wdP _ (List.mem_of_getElem? (i := 90) rfl)⟩
theorem mwX11_lifts : MWV mX11_lifts 4 := ⟨⟨wdA _ (List.mem_of_getElem? (i := 296) rfl), wdA _ (List.mem_of_getElem? (i := 411) rfl), by decide +kernel, by decide +kernel, by decide +kernel⟩, wdA _ (List.mem_of_getElem? (i := 412) rfl), wdP _ (List.mem_of_getElem? (i := 91) rfl)⟩
theorem mwX11_wentTo : MWV mX11_wentTo 2 := ⟨⟨wdA _ (List.mem_of_getElem? (i := 296) rfl), wdA _ (List.mem_of_getElem? (i := 413) rfl), by decide +kernel, by decide +kernel, by decide +kernel⟩, wdA _ (List.mem_of_getElem? (i := 414) rfl), wdP _ (List.mem_of_getElem? (i := 92) rfl)⟩
theorem mwX11_rises : MWV mX11_rises 3 := ⟨⟨wdA _ (List.mem_of_getElem? (i := 296) rfl), wdA _ (List.mem_of_getElem? (i := 415) rfl), by decide +kernel, by decide +kernel, by decide +kernel⟩, wdA _ (List.mem_of_getElem? (i := 416) rfl), wdP _ (List.mem_of_getElem? (i := 93) rfl)⟩
theorem mwX11_drifts : MWV mX11_drifts 3 := ⟨⟨wdA _ (List.mem_of_getElem? (i := 296) rfl), wdA _ (List.mem_of_getElem? (i := 417) rfl), by decide +kernel, by decide +kernel, by decide +kernel⟩, wdA _ (List.mem_of_getElem? (i := 418) rfl), wdP _ (List.mem_of_getElem? (i := 94) rfl)⟩
theorem mwX11_notes : MWV mX11_notes 3 := ⟨⟨wdA _ (List.mem_of_getElem? (i := 296) rfl), wdA _ (List.mem_of_getElem? (i := 419) rfl), by decide +kernel, by decide +kernel, by decide +kernel⟩, wdA _ (List.mem_of_getElem? (i := 420) rfl), wdP _ (List.mem_of_getElem? (i := 95) rfl)⟩
theorem mwX11_canVow : MWV mX11_canVow 3 := ⟨⟨wdA _ (List.mem_of_getElem? (i := 296) rfl), wdA _ (List.mem_of_getElem? (i := 421) rfl), by decide +kernel, by decide +kernel, by decide +kernel⟩, wdA _ (List.mem_of_getElem? (i := 422) rfl), wdP _ (List.mem_of_getElem? (i := 96) rfl)⟩
theorem mwX11_keeps : MWV mX11_keeps 0 := ⟨⟨wdA _ (List.mem_of_getElem? (i := 296) rfl), wdA _ (List.mem_of_getElem? (i := 423) rfl), by decide +kernel, by decide +kernel, by decide +kernel⟩, wdA _ (List.mem_of_getElem? (i := 424) rfl), wdP _ (List.mem_of_getElem? (i := 97) rfl)⟩
theorem mwX11_vows : MWV mX11_vows 3 := ⟨⟨wdA _ (List.mem_of_getElem? (i := 296) rfl), wdA _ (List.mem_of_getElem? (i := 425) rfl), by decide +kernel, by decide +kernel, by decide +kernel⟩, wdA _ (List.mem_of_getElem? (i := 426) rfl), wdP _ (List.mem_of_getElem? (i := 98) rfl)⟩
theorem mwX11_weatherOf : MWV mX11_weatherOf 1 := ⟨⟨wdA _ (List.mem_of_getElem? (i := 296) rfl), wdA _ (List.mem_of_getElem? (i := 427) rfl), by decide +kernel, by decide +kernel, by decide +kernel⟩, wdA _ (List.mem_of_getElem? (i := 428) rfl), wdP _ (List.mem_of_getElem? (i := 99) rfl)⟩
theorem mwX11_ofVow : MWV mX11_ofVow 2 := ⟨⟨wdA _ (List.mem_of_getElem? (i := 296) rfl), wdA _ (List.mem_of_getElem? (i := 429) rfl), by decide +kernel, by decide +kernel, by decide +kernel⟩, wdA _ (List.mem_of_getElem? (i := 430) rfl), wdP _ (List.mem_of_getElem? (i := 100) rfl)⟩
theorem mwX11_draw : MWV mX11_draw 1 := ⟨⟨wdA _ (List.mem_of_getElem? (i := 296) rfl), wdA _ (List.mem_of_getElem? (i := 431) rfl), by decide +kernel, by decide +kernel, by decide +kernel⟩, wdA _ (List.mem_of_getElem? (i := 432) rfl), wdP _ (List.mem_of_getElem? (i := 101) rfl)⟩
theorem mwX11_snows : MWV mX11_snows 0 := ⟨⟨wdA _ (List.mem_of_getElem? (i := 296) rfl), wdA _ (List.mem_of_getElem? (i := 433) rfl), by decide +kernel, by decide +kernel, by decide +kernel⟩, wdA _ (List.mem_of_getElem? (i := 434) rfl), wdP _ (List.mem_of_getElem? (i := 102) rfl)⟩
theorem mwX11_vowsOfDay : MWV mX11_vowsOfDay 0 := ⟨⟨wdA _ (List.mem_of_getElem? (i := 296) rfl), wdA _ (List.mem_of_getElem? (i := 435) rfl), by decide +kernel, by decide +kernel, by decide +kernel⟩, wdA _ (List.mem_of_getElem? (i := 436) rfl), wdP _ (List.mem_of_getElem? (i := 103) rfl)⟩
theorem mwX11_slides : MWV mX11_slides 0 := ⟨⟨wdA _ (List.mem_of_getElem? (i := 296) rfl), wdA _ (List.mem_of_getElem? (i := 437) rfl), by decide +kernel, by decide +kernel, by decide +kernel⟩, wdA _ (List.mem_of_getElem? (i := 438) rfl), wdP _ (List.mem_of_getElem? (i := 104) rfl)⟩
theorem mwX11_meltOf : MWV mX11_meltOf 1 := ⟨⟨wdA _ (List.mem_of_getElem? (i := 296) rfl), wdA _ (List.mem_of_getElem? (i := 439) rfl), by decide +kernel, by decide +kernel, by decide +kernel⟩, wdA _ (List.mem_of_getElem? (i := 440) rfl), wdP _ (List.mem_of_getElem? (i := 105) rfl)⟩
theorem mwX11_aDay : MWV mX11_aDay 0 := ⟨⟨wdA _ (List.mem_of_getElem? (i := 296) rfl), wdA _ (List.mem_of_getElem? (i := 441) rfl), by decide +kernel, by decide +kernel, by decide +kernel⟩, wdA _ (List.mem_of_getElem? (i := 442) rfl), wdP _ (List.mem_of_getElem? (i := 106) rfl)⟩
theorem mwX11_lays : MWV mX11_lays 0 := ⟨⟨wdA _ (List.mem_of_getElem? (i := 296) rfl), wdA _ (List.mem_of_getElem? (i := 443) rfl), by decide +kernel, by decide +kernel, by decide +kernel⟩, wdA _ (List.mem_of_getElem? (i := 444) rfl), wdP _ (List.mem_of_getElem? (i := 107) rfl)⟩
theorem mwX11_putsBack : MWV mX11_putsBack 0 := ⟨⟨wdA _ (List.mem_of_getElem? (i := 296) rfl), wdA _ (List.mem_of_getElem? (i := 445) rfl), by decide +kernel, by decide +kernel, by decide +kernel⟩, wdA _ (List.mem_of_getElem? (i := 446) rfl), wdP _ (List.mem_of_getElem? (i := 108) rfl)⟩
theorem mwX11_lastOf : MWV mX11_lastOf 3 := ⟨⟨wdA _ (List.mem_of_getElem? (i := 296) rfl), wdA _ (List.mem_of_getElem? (i := 447) rfl), by decide +kernel, by decide +kernel, by decide +kernel⟩, wdA _ (List.mem_of_getElem? (i := 448) rfl), wdP _ (List.mem_of_getElem? (i := 109) rfl)⟩
theorem mwX11_meetsWants : MWV mX11_meetsWants 1 := ⟨⟨wdA _ (List.mem_of_getElem? (i := 296) rfl), wdA _ (List.mem_of_getElem? (i := 449) rfl), by decide +kernel, by decide +kernel, by decide +kernel⟩, wdA _ (List.mem_of_getElem? (i := 450) rfl), wdP _ (List.mem_of_getElem? (i := 110) rfl)⟩
theorem mwX11_nextAsked : MWV mX11_nextAsked 1 := ⟨⟨wdA _ (List.mem_of_getElem? (i := 296) rfl), wdA _ (List.mem_of_getElem? (i := 451) rfl), by decide +kernel, by decide +kernel, by decide +kernel⟩, wdA _ (List.mem_of_getElem? (i := 452) rfl), wdP _ (List.mem_of_getElem? (i := 111) rfl)⟩
theorem mwX11_keepsFor : MWV mX11_keepsFor 2 := ⟨⟨wdA _ (List.mem_of_getElem? (i := 296) rfl), wdA _ (List.mem_of_getElem? (i := 453) rfl), by decide +kernel, by decide +kernel, by decide +kernel⟩, wdA _ (List.mem_of_getElem? (i := 454) rfl), wdP _ (List.mem_of_getElem? (i := 112) rfl)⟩
theorem mwX11_asksOn : MWV mX11_asksOn 1 := ⟨⟨wdA _ (List.mem_of_getElem? (i := 296) rfl), wdA _ (List.mem_of_getElem? (i := 455) rfl), by decide +kernel, by decide +kernel, by decide +kernel⟩, wdA _ (List.mem_of_getElem? (i := 456) rfl), wdP _ (List.mem_of_getElem? (i := 113) rfl)⟩
theorem mwX11_canHave : MWV mX11_canHave 3 := ⟨⟨wdA _ (List.mem_of_getElem? (i := 296) rfl), wdA _ (List.mem_of_getElem? (i := 457) rfl), by decide +kernel, by decide +kernel, by decide +kernel⟩, wdA _ (List.mem_of_getElem? (i := 458) rfl), wdP _ (List.mem_of_getElem? (i := 114) rfl)⟩
theorem mwX11_laysFound : MWV mX11_laysFound 0 := ⟨⟨wdA _ (List.mem_of_getElem? (i := 296) rfl), wdA _ (List.mem_of_getElem? (i := 459) rfl), by decide +kernel, by decide +kernel, by decide +kernel⟩, wdA _ (List.mem_of_getElem? (i := 460) rfl), wdP _ (List.mem_of_getElem? (i := 115) rfl)⟩
theorem mwX11_laysBest : MWV mX11_laysBest 0 := ⟨⟨wdA _ (List.mem_of_getElem? (i := 296) rfl), wdA _ (List.mem_of_getElem? (i := 461) rfl), by decide +kernel, by decide +kernel, by decide +kernel⟩, wdA _ (List.mem_of_getElem? (i := 462) rfl), wdP _ (List.mem_of_getElem? (i := 116) rfl)⟩
theorem mwX11_takenBy : MWV mX11_takenBy 2 := ⟨⟨wdA _ (List.mem_of_getElem? (i := 296) rfl), wdA _ (List.mem_of_getElem? (i := 463) rfl), by decide +kernel, by decide +kernel, by decide +kernel⟩, wdA _ (List.mem_of_getElem? (i := 464) rfl), wdP _ (List.mem_of_getElem? (i := 117) rfl)⟩
theorem mwX11_canBe : MWV mX11_canBe 2 := ⟨⟨wdA _ (List.mem_of_getElem? (i := 296) rfl), wdA _ (List.mem_of_getElem? (i := 465) rfl), by decide +kernel, by decide +kernel, by decide +kernel⟩, wdA _ (List.mem_of_getElem? (i := 466) rfl), wdP _ (List.mem_of_getElem? (i := 118) rfl)⟩
theorem mwX11_whoBy : MWV mX11_whoBy 1 := ⟨⟨wdA _ (List.mem_of_getElem? (i := 296) rfl), wdA _ (List.mem_of_getElem? (i := 467) rfl), by decide +kernel, by decide +kernel, by decide +kernel⟩, wdA _ (List.mem_of_getElem? (i := 468) rfl), wdP _ (List.mem_of_getElem? (i := 119) rfl)⟩
theorem mwX11_count : MWS mX11_count 1 := ⟨⟨wdA _ (List.mem_of_getElem? (i := 296) rfl), wdA _ (List.mem_of_getElem? (i := 469) rfl), by decide +kernel, by decide +kernel, by decide +kernel⟩, wdA _ (List.mem_of_getElem? (i := 470) rfl)⟩
theorem mwX11_mostAlike : MWV mX11_mostAlike 2 := ⟨⟨wdA _ (List.mem_of_getElem? (i := 296) rfl), wdA _ (List.mem_of_getElem? (i := 471) rfl), by decide +kernel, by decide +kernel, by decide +kernel⟩, wdA _ (List.mem_of_getElem? (i := 472) rfl), wdP _ (List.mem_of_getElem? (i := 120) rfl)⟩
theorem mwX11_isSafe : MWV mX11_isSafe 1 := ⟨⟨wdA _ (List.mem_of_getElem? (i := 296) rfl), wdA _ (List.mem_of_getElem? (i := 473) rfl), by decide +kernel, by decide +kernel, by decide +kernel⟩, wdA _ (List.mem_of_getElem? (i := 474) rfl), wdP _ (List.mem_of_getElem? (i := 121) rfl)⟩
theorem mwX11_isComeTo : MWV mX11_isComeTo 2 := ⟨⟨wdA _ (List.mem_of_getElem? (i := 296) rfl), wdA _ (List.mem_of_getElem? (i := 475) rfl), by decide +kernel, by decide +kernel, by decide +kernel⟩, wdA _ (List.mem_of_getElem? (i := 476) rfl), wdP _ (List.mem_of_getElem? (i := 122) rfl)⟩
theorem mwX11_wayTo : MWV mX11_wayTo 2 := ⟨⟨wdA _ (List.mem_of_getElem? (i := 296) rfl), wdA _ (List.mem_of_getElem? (i := 477) rfl), by decide +kernel, by decide +kernel, by decide +kernel⟩, wdA _ (List.mem_of_getElem? (i := 478) rfl), wdP _ (List.mem_of_getElem? (i := 123) rfl)⟩
theorem mwX11_goesIn : MWV mX11_goesIn 1 := ⟨⟨wdA _ (List.mem_of_getElem? (i := 296) rfl), wdA _ (List.mem_of_getElem? (i := 479) rfl), by decide +kernel, by decide +kernel, by decide +kernel⟩, wdA _ (List.mem_of_getElem? (i := 480) rfl), wdP _ (List.mem_of_getElem? (i := 124) rfl)⟩
theorem mwX11_goesOut : MWV mX11_goesOut 1 := ⟨⟨wdA _ (List.mem_of_getElem? (i := 296) rfl), wdA _ (List.mem_of_getElem? (i := 481) rfl), by decide +kernel, by decide +kernel, by decide +kernel⟩, wdA _ (List.mem_of_getElem? (i := 482) rfl), wdP _ (List.mem_of_getElem? (i := 125) rfl)⟩
theorem mwX11_turns : MWV mX11_turns 2 := ⟨⟨wdA _ (List.mem_of_getElem? (i := 296) rfl), wdA _ (List.mem_of_getElem? (i := 483) rfl), by decide +kernel, by decide +kernel, by decide +kernel⟩, wdA _ (List.mem_of_getElem? (i := 484) rfl), wdP _ (List.mem_of_getElem? (i := 126) rfl)⟩
theorem mwX11_hasWay : MWV mX11_hasWay 2 := ⟨⟨wdA _ (List.mem_of_getElem? (i := 296) rfl), wdA _ (List.mem_of_getElem? (i := 485) rfl), by decide +kernel, by decide +kernel, by decide +kernel⟩, wdA _ (List.mem_of_getElem? (i := 486) rfl), wdP _ (List.mem_of_getElem? (i := 127) rfl)⟩
theorem mwX11_roundsFrom : ∀ d, MWV (mX11_roundsFrom d) 3 := fun _ => ⟨⟨wdA _ (List.mem_of_getElem? (i := 296) rfl), wdA _ (List.mem_of_getElem? (i := 487) rfl), by decide +kernel, by decide +kernel, by decide +kernel⟩, wdA _ (List.mem_of_getElem? (i := 488) rfl), wdP _ (List.mem_of_getElem? (i := 128) rfl)⟩
theorem mwX11_isAloneIn : MWV mX11_isAloneIn 2 := ⟨⟨wdA _ (List.mem_of_getElem? (i := 296) rfl), wdA _ (List.mem_of_getElem? (i := 489) rfl), by decide +kernel, by decide +kernel, by decide +kernel⟩, wdA _ (List.mem_of_getElem? (i := 490) rfl), wdP _ (List.mem_of_getElem? (i := 129) rfl)⟩
theorem mwX11_counting : MWV mX11_counting 0 := ⟨⟨wdA _ (List.mem_of_getElem? (i := 296) rfl), wdA _ (List.mem_of_getElem? (i := 491) rfl), by decide +kernel, by decide +kernel, by decide +kernel⟩, wdA _ (List.mem_of_getElem? (i := 492) rfl), wdP _ (List.mem_of_getElem? (i := 130) rfl)⟩
theorem mwX11_hopeOf : MWV mX11_hopeOf 1 := ⟨⟨wdA _ (List.mem_of_getElem? (i := 296) rfl), wdA _ (List.mem_of_getElem? (i := 493) rfl), by decide +kernel, by decide +kernel, by decide +kernel⟩, wdA _ (List.mem_of_getElem? (i := 494) rfl), wdP _ (List.mem_of_getElem? (i := 131) rfl)⟩
theorem mwX11_bareFields : MWV mX11_bareFields 0 := ⟨⟨wdA _ (List.mem_of_getElem? (i := 296) rfl), wdA _ (List.mem_of_getElem? (i := 495) rfl), by decide +kernel, by decide +kernel, by decide +kernel⟩, wdA _ (List.mem_of_getElem? (i := 496) rfl), wdP _ (List.mem_of_getElem? (i := 132) rfl)⟩
theorem mwX10_state : MWV mX10_state 1 := ⟨⟨wdA _ (List.mem_of_getElem? (i := 31) rfl), wdA _ (List.mem_of_getElem? (i := 497) rfl), by decide +kernel, by decide +kernel, by decide +kernel⟩, wdA _ (List.mem_of_getElem? (i := 498) rfl), wdA _ (List.mem_of_getElem? (i := 499) rfl)⟩
theorem mwX11_state : MWV mX11_state 1 := ⟨⟨wdA _ (List.mem_of_getElem? (i := 296) rfl), wdA _ (List.mem_of_getElem? (i := 500) rfl), by decide +kernel, by decide +kernel, by decide +kernel⟩, wdA _ (List.mem_of_getElem? (i := 501) rfl), wdA _ (List.mem_of_getElem? (i := 502) rfl)⟩
theorem mwX10_valley : MWV mX10_valley 2 := ⟨⟨wdA _ (List.mem_of_getElem? (i := 31) rfl), wdA _ (List.mem_of_getElem? (i := 503) rfl), by decide +kernel, by decide +kernel, by decide +kernel⟩, wdA _ (List.mem_of_getElem? (i := 504) rfl), wdA _ (List.mem_of_getElem? (i := 505) rfl)⟩
theorem mwX11_valley : MWV mX11_valley 2 := ⟨⟨wdA _ (List.mem_of_getElem? (i := 296) rfl), wdA _ (List.mem_of_getElem? (i := 506) rfl), by decide +kernel, by decide +kernel, by decide +kernel⟩, wdA _ (List.mem_of_getElem? (i := 507) rfl), wdA _ (List.mem_of_getElem? (i := 508) rfl)⟩
theorem mwX10_person : MWV mX10_person 4 := ⟨⟨wdA _ (List.mem_of_getElem? (i := 31) rfl), wdA _ (List.mem_of_getElem? (i := 509) rfl), by decide +kernel, by decide +kernel, by decide +kernel⟩, wdA _ (List.mem_of_getElem? (i := 510) rfl), wdA _ (List.mem_of_getElem? (i := 511) rfl)⟩
theorem mwX11_person : MWV mX11_person 4 := ⟨⟨wdA _ (List.mem_of_getElem? (i := 296) rfl), wdA _ (List.mem_of_getElem? (i := 512) rfl), by decide +kernel, by decide +kernel, by decide +kernel⟩, wdA _ (List.mem_of_getElem? (i := 513) rfl), wdA _ (List.mem_of_getElem? (i := 514) rfl)⟩
theorem mwX10_set : MWV mX10_set 3 := ⟨⟨wdA _ (List.mem_of_getElem? (i := 31) rfl), wdA _ (List.mem_of_getElem? (i := 515) rfl), by decide +kernel, by decide +kernel, by decide +kernel⟩, wdA _ (List.mem_of_getElem? (i := 516) rfl), wdA _ (List.mem_of_getElem? (i := 517) rfl)⟩
theorem mwX11_set : MWV mX11_set 3 := ⟨⟨wdA _ (List.mem_of_getElem? (i := 296) rfl), wdA _ (List.mem_of_getElem? (i := 518) rfl), by decide +kernel, by decide +kernel, by decide +kernel⟩, wdA _ (List.mem_of_getElem? (i := 519) rfl), wdA _ (List.mem_of_getElem? (i := 520) rfl)⟩
theorem mwX10_kin : MWV mX10_kin 3 := ⟨⟨wdA _ (List.mem_of_getElem? (i := 31) rfl), wdA _ (List.mem_of_getElem? (i := 521) rfl), by decide +kernel, by decide +kernel, by decide +kernel⟩, wdA _ (List.mem_of_getElem? (i := 522) rfl), wdA _ (List.mem_of_getElem? (i := 523) rfl)⟩
theorem mwX11_kin : MWV mX11_kin 3 := ⟨⟨wdA _ (List.mem_of_getElem? (i := 296) rfl), wdA _ (List.mem_of_getElem? (i := 524) rfl), by decide +kernel, by decide +kernel, by decide +kernel⟩, wdA _ (List.mem_of_getElem? (i := 525) rfl), wdA _ (List.mem_of_getElem? (i := 526) rfl)⟩
theorem mwX10_vow : MWV mX10_vow 3 := ⟨⟨wdA _ (List.mem_of_getElem? (i := 31) rfl), wdA _ (List.mem_of_getElem? (i := 527) rfl), by decide +kernel, by decide +kernel, by decide +kernel⟩, wdA _ (List.mem_of_getElem? (i := 528) rfl), wdA _ (List.mem_of_getElem? (i := 529) rfl)⟩
theorem mwX11_vow : MWV mX11_vow 3 := ⟨⟨wdA _ (List.mem_of_getElem? (i := 296) rfl), wdA _ (List.mem_of_getElem? (i := 530) rfl), by decide +kernel, by decide +kernel, by decide +kernel⟩, wdA _ (List.mem_of_getElem? (i := 531) rfl), wdA _ (List.mem_of_getElem? (i := 532) rfl)⟩
theorem mwX10_part : MWV mX10_part 2 := ⟨⟨wdA _ (List.mem_of_getElem? (i := 31) rfl), wdA _ (List.mem_of_getElem? (i := 533) rfl), by decide +kernel, by decide +kernel, by decide +kernel⟩, wdA _ (List.mem_of_getElem? (i := 534) rfl), wdA _ (List.mem_of_getElem? (i := 535) rfl)⟩
theorem mwX11_part : MWV mX11_part 2 := ⟨⟨wdA _ (List.mem_of_getElem? (i := 296) rfl), wdA _ (List.mem_of_getElem? (i := 536) rfl), by decide +kernel, by decide +kernel, by decide +kernel⟩, wdA _ (List.mem_of_getElem? (i := 537) rfl), wdA _ (List.mem_of_getElem? (i := 538) rfl)⟩
theorem mwX10_sweep : MWV mX10_sweep 1 := ⟨⟨wdA _ (List.mem_of_getElem? (i := 31) rfl), wdA _ (List.mem_of_getElem? (i := 539) rfl), by decide +kernel, by decide +kernel, by decide +kernel⟩, wdA _ (List.mem_of_getElem? (i := 540) rfl), wdA _ (List.mem_of_getElem? (i := 541) rfl)⟩
theorem mwX11_sweep : MWV mX11_sweep 1 := ⟨⟨wdA _ (List.mem_of_getElem? (i := 296) rfl), wdA _ (List.mem_of_getElem? (i := 542) rfl), by decide +kernel, by decide +kernel, by decide +kernel⟩, wdA _ (List.mem_of_getElem? (i := 543) rfl), wdA _ (List.mem_of_getElem? (i := 544) rfl)⟩
theorem mwX10_days : MWV mX10_days 1 := ⟨⟨wdA _ (List.mem_of_getElem? (i := 31) rfl), wdA _ (List.mem_of_getElem? (i := 545) rfl), by decide +kernel, by decide +kernel, by decide +kernel⟩, wdA _ (List.mem_of_getElem? (i := 546) rfl), wdA _ (List.mem_of_getElem? (i := 547) rfl)⟩
theorem mwX11_days : MWV mX11_days 1 := ⟨⟨wdA _ (List.mem_of_getElem? (i := 296) rfl), wdA _ (List.mem_of_getElem? (i := 548) rfl), by decide +kernel, by decide +kernel, by decide +kernel⟩, wdA _ (List.mem_of_getElem? (i := 549) rfl), wdA _ (List.mem_of_getElem? (i := 550) rfl)⟩
theorem mwX10_feed : MWV mX10_feed 5 := ⟨⟨wdA _ (List.mem_of_getElem? (i := 31) rfl), wdA _ (List.mem_of_getElem? (i := 551) rfl), by decide +kernel, by decide +kernel, by decide +kernel⟩, wdA _ (List.mem_of_getElem? (i := 552) rfl), wdA _ (List.mem_of_getElem? (i := 553) rfl)⟩
theorem mwX11_feed : MWV mX11_feed 5 := ⟨⟨wdA _ (List.mem_of_getElem? (i := 296) rfl), wdA _ (List.mem_of_getElem? (i := 554) rfl), by decide +kernel, by decide +kernel, by decide +kernel⟩, wdA _ (List.mem_of_getElem? (i := 555) rfl), wdA _ (List.mem_of_getElem? (i := 556) rfl)⟩
theorem mwX10_end : MWV mX10_end 1 := ⟨⟨wdA _ (List.mem_of_getElem? (i := 31) rfl), wdA _ (List.mem_of_getElem? (i := 557) rfl), by decide +kernel, by decide +kernel, by decide +kernel⟩, wdA _ (List.mem_of_getElem? (i := 558) rfl), wdA _ (List.mem_of_getElem? (i := 559) rfl)⟩
theorem mwX11_end : MWV mX11_end 1 := ⟨⟨wdA _ (List.mem_of_getElem? (i := 296) rfl), wdA _ (List.mem_of_getElem? (i := 560) rfl), by decide +kernel, by decide +kernel, by decide +kernel⟩, wdA _ (List.mem_of_getElem? (i := 561) rfl), wdA _ (List.mem_of_getElem? (i := 562) rfl)⟩
theorem mwX10_text : MWV mX10_text 1 := ⟨⟨wdA _ (List.mem_of_getElem? (i := 31) rfl), wdA _ (List.mem_of_getElem? (i := 563) rfl), by decide +kernel, by decide +kernel, by decide +kernel⟩, wdA _ (List.mem_of_getElem? (i := 564) rfl), wdA _ (List.mem_of_getElem? (i := 565) rfl)⟩
theorem mwX11_text : MWV mX11_text 1 := ⟨⟨wdA _ (List.mem_of_getElem? (i := 296) rfl), wdA _ (List.mem_of_getElem? (i := 566) rfl), by decide +kernel, by decide +kernel, by decide +kernel⟩, wdA _ (List.mem_of_getElem? (i := 567) rfl), wdA _ (List.mem_of_getElem? (i := 568) rfl)⟩
theorem mwX10_fault : MWV mX10_fault 1 := ⟨⟨wdA _ (List.mem_of_getElem? (i := 31) rfl), wdA _ (List.mem_of_getElem? (i := 569) rfl), by decide +kernel, by decide +kernel, by decide +kernel⟩, wdA _ (List.mem_of_getElem? (i := 570) rfl), wdA _ (List.mem_of_getElem? (i := 571) rfl)⟩
theorem mwX11_fault : MWV mX11_fault 1 := ⟨⟨wdA _ (List.mem_of_getElem? (i := 296) rfl), wdA _ (List.mem_of_getElem? (i := 572) rfl), by decide +kernel, by decide +kernel, by decide +kernel⟩, wdA _ (List.mem_of_getElem? (i := 573) rfl), wdA _ (List.mem_of_getElem? (i := 574) rfl)⟩
theorem mwX10_of : MWV mX10_of 2 := ⟨⟨wdA _ (List.mem_of_getElem? (i := 31) rfl), wdA _ (List.mem_of_getElem? (i := 575) rfl), by decide +kernel, by decide +kernel, by decide +kernel⟩, wdA _ (List.mem_of_getElem? (i := 576) rfl), wdA _ (List.mem_of_getElem? (i := 577) rfl)⟩
theorem mwX11_of : MWV mX11_of 2 := ⟨⟨wdA _ (List.mem_of_getElem? (i := 296) rfl), wdA _ (List.mem_of_getElem? (i := 578) rfl), by decide +kernel, by decide +kernel, by decide +kernel⟩, wdA _ (List.mem_of_getElem? (i := 579) rfl), wdA _ (List.mem_of_getElem? (i := 580) rfl)⟩
theorem mwX10_match : MWV mX10_match 3 := ⟨⟨wdA _ (List.mem_of_getElem? (i := 31) rfl), wdA _ (List.mem_of_getElem? (i := 581) rfl), by decide +kernel, by decide +kernel, by decide +kernel⟩, wdA _ (List.mem_of_getElem? (i := 582) rfl), wdA _ (List.mem_of_getElem? (i := 583) rfl)⟩
theorem mwX11_match : MWV mX11_match 3 := ⟨⟨wdA _ (List.mem_of_getElem? (i := 296) rfl), wdA _ (List.mem_of_getElem? (i := 584) rfl), by decide +kernel, by decide +kernel, by decide +kernel⟩, wdA _ (List.mem_of_getElem? (i := 585) rfl), wdA _ (List.mem_of_getElem? (i := 586) rfl)⟩
theorem mwX10_at : MWV mX10_at 2 := ⟨⟨wdA _ (List.mem_of_getElem? (i := 31) rfl), wdA _ (List.mem_of_getElem? (i := 587) rfl), by decide +kernel, by decide +kernel, by decide +kernel⟩, wdA _ (List.mem_of_getElem? (i := 588) rfl), wdA _ (List.mem_of_getElem? (i := 589) rfl)⟩
theorem mwX11_at : MWV mX11_at 2 := ⟨⟨wdA _ (List.mem_of_getElem? (i := 296) rfl), wdA _ (List.mem_of_getElem? (i := 590) rfl), by decide +kernel, by decide +kernel, by decide +kernel⟩, wdA _ (List.mem_of_getElem? (i := 591) rfl), wdA _ (List.mem_of_getElem? (i := 592) rfl)⟩
theorem mwX10_lift : MWV mX10_lift 4 := ⟨⟨wdA _ (List.mem_of_getElem? (i := 31) rfl), wdA _ (List.mem_of_getElem? (i := 593) rfl), by decide +kernel, by decide +kernel, by decide +kernel⟩, wdA _ (List.mem_of_getElem? (i := 594) rfl), wdA _ (List.mem_of_getElem? (i := 595) rfl)⟩
theorem mwX11_lift : MWV mX11_lift 4 := ⟨⟨wdA _ (List.mem_of_getElem? (i := 296) rfl), wdA _ (List.mem_of_getElem? (i := 596) rfl), by decide +kernel, by decide +kernel, by decide +kernel⟩, wdA _ (List.mem_of_getElem? (i := 597) rfl), wdA _ (List.mem_of_getElem? (i := 598) rfl)⟩
theorem mwX10_weather : MWV mX10_weather 1 := ⟨⟨wdA _ (List.mem_of_getElem? (i := 31) rfl), wdA _ (List.mem_of_getElem? (i := 599) rfl), by decide +kernel, by decide +kernel, by decide +kernel⟩, wdA _ (List.mem_of_getElem? (i := 600) rfl), wdA _ (List.mem_of_getElem? (i := 601) rfl)⟩
theorem mwX11_weather : MWV mX11_weather 1 := ⟨⟨wdA _ (List.mem_of_getElem? (i := 296) rfl), wdA _ (List.mem_of_getElem? (i := 602) rfl), by decide +kernel, by decide +kernel, by decide +kernel⟩, wdA _ (List.mem_of_getElem? (i := 603) rfl), wdA _ (List.mem_of_getElem? (i := 604) rfl)⟩
theorem mwX10_book : MWV mX10_book 2 := ⟨⟨wdA _ (List.mem_of_getElem? (i := 31) rfl), wdA _ (List.mem_of_getElem? (i := 605) rfl), by decide +kernel, by decide +kernel, by decide +kernel⟩, wdA _ (List.mem_of_getElem? (i := 606) rfl), wdA _ (List.mem_of_getElem? (i := 607) rfl)⟩
theorem mwX11_book : MWV mX11_book 2 := ⟨⟨wdA _ (List.mem_of_getElem? (i := 296) rfl), wdA _ (List.mem_of_getElem? (i := 608) rfl), by decide +kernel, by decide +kernel, by decide +kernel⟩, wdA _ (List.mem_of_getElem? (i := 609) rfl), wdA _ (List.mem_of_getElem? (i := 610) rfl)⟩
theorem mwX10_lies : MWV mX10_lies 2 := ⟨⟨wdA _ (List.mem_of_getElem? (i := 31) rfl), wdA _ (List.mem_of_getElem? (i := 611) rfl), by decide +kernel, by decide +kernel, by decide +kernel⟩, wdA _ (List.mem_of_getElem? (i := 612) rfl), wdA _ (List.mem_of_getElem? (i := 613) rfl)⟩
theorem mwX11_lies : MWV mX11_lies 2 := ⟨⟨wdA _ (List.mem_of_getElem? (i := 296) rfl), wdA _ (List.mem_of_getElem? (i := 614) rfl), by decide +kernel, by decide +kernel, by decide +kernel⟩, wdA _ (List.mem_of_getElem? (i := 615) rfl), wdA _ (List.mem_of_getElem? (i := 616) rfl)⟩
theorem mwX10_meets : MWV mX10_meets 1 := ⟨⟨wdA _ (List.mem_of_getElem? (i := 31) rfl), wdA _ (List.mem_of_getElem? (i := 617) rfl), by decide +kernel, by decide +kernel, by decide +kernel⟩, wdA _ (List.mem_of_getElem? (i := 618) rfl), wdA _ (List.mem_of_getElem? (i := 619) rfl)⟩
theorem mwX11_meets : MWV mX11_meets 1 := ⟨⟨wdA _ (List.mem_of_getElem? (i := 296) rfl), wdA _ (List.mem_of_getElem? (i := 620) rfl), by decide +kernel, by decide +kernel, by decide +kernel⟩, wdA _ (List.mem_of_getElem? (i := 621) rfl), wdA _ (List.mem_of_getElem? (i := 622) rfl)⟩
theorem mwX10_stable : MWV mX10_stable 1 := ⟨⟨wdA _ (List.mem_of_getElem? (i := 31) rfl), wdA _ (List.mem_of_getElem? (i := 623) rfl), by decide +kernel, by decide +kernel, by decide +kernel⟩, wdA _ (List.mem_of_getElem? (i := 624) rfl), wdA _ (List.mem_of_getElem? (i := 625) rfl)⟩
theorem mwX11_stable : MWV mX11_stable 1 := ⟨⟨wdA _ (List.mem_of_getElem? (i := 296) rfl), wdA _ (List.mem_of_getElem? (i := 626) rfl), by decide +kernel, by decide +kernel, by decide +kernel⟩, wdA _ (List.mem_of_getElem? (i := 627) rfl), wdA _ (List.mem_of_getElem? (i := 628) rfl)⟩
theorem mwX10_best : MWV mX10_best 1 := ⟨⟨wdA _ (List.mem_of_getElem? (i := 31) rfl), wdA _ (List.mem_of_getElem? (i := 629) rfl), by decide +kernel, by decide +kernel, by decide +kernel⟩, wdA _ (List.mem_of_getElem? (i := 630) rfl), wdA _ (List.mem_of_getElem? (i := 631) rfl)⟩
theorem mwX11_best : MWV mX11_best 1 := ⟨⟨wdA _ (List.mem_of_getElem? (i := 296) rfl), wdA _ (List.mem_of_getElem? (i := 632) rfl), by decide +kernel, by decide +kernel, by decide +kernel⟩, wdA _ (List.mem_of_getElem? (i := 633) rfl), wdA _ (List.mem_of_getElem? (i := 634) rfl)⟩
theorem mwX10_bares : MWV mX10_bares 2 := ⟨⟨wdA _ (List.mem_of_getElem? (i := 31) rfl), wdA _ (List.mem_of_getElem? (i := 635) rfl), by decide +kernel, by decide +kernel, by decide +kernel⟩, wdA _ (List.mem_of_getElem? (i := 636) rfl), wdA _ (List.mem_of_getElem? (i := 637) rfl)⟩
theorem mwX11_bares : MWV mX11_bares 2 := ⟨⟨wdA _ (List.mem_of_getElem? (i := 296) rfl), wdA _ (List.mem_of_getElem? (i := 638) rfl), by decide +kernel, by decide +kernel, by decide +kernel⟩, wdA _ (List.mem_of_getElem? (i := 639) rfl), wdA _ (List.mem_of_getElem? (i := 640) rfl)⟩
theorem mwX10_stir : MWV mX10_stir 3 := ⟨⟨wdA _ (List.mem_of_getElem? (i := 31) rfl), wdA _ (List.mem_of_getElem? (i := 641) rfl), by decide +kernel, by decide +kernel, by decide +kernel⟩, wdA _ (List.mem_of_getElem? (i := 642) rfl), wdA _ (List.mem_of_getElem? (i := 643) rfl)⟩
theorem mwX11_stir : MWV mX11_stir 3 := ⟨⟨wdA _ (List.mem_of_getElem? (i := 296) rfl), wdA _ (List.mem_of_getElem? (i := 644) rfl), by decide +kernel, by decide +kernel, by decide +kernel⟩, wdA _ (List.mem_of_getElem? (i := 645) rfl), wdA _ (List.mem_of_getElem? (i := 646) rfl)⟩
theorem mwX10_who : MWV mX10_who 1 := ⟨⟨wdA _ (List.mem_of_getElem? (i := 31) rfl), wdA _ (List.mem_of_getElem? (i := 647) rfl), by decide +kernel, by decide +kernel, by decide +kernel⟩, wdA _ (List.mem_of_getElem? (i := 648) rfl), wdA _ (List.mem_of_getElem? (i := 649) rfl)⟩
theorem mwX11_who : MWV mX11_who 1 := ⟨⟨wdA _ (List.mem_of_getElem? (i := 296) rfl), wdA _ (List.mem_of_getElem? (i := 650) rfl), by decide +kernel, by decide +kernel, by decide +kernel⟩, wdA _ (List.mem_of_getElem? (i := 651) rfl), wdA _ (List.mem_of_getElem? (i := 652) rfl)⟩
theorem mwX10_ask : MWV mX10_ask 1 := ⟨⟨wdA _ (List.mem_of_getElem? (i := 31) rfl), wdA _ (List.mem_of_getElem? (i := 653) rfl), by decide +kernel, by decide +kernel, by decide +kernel⟩, wdA _ (List.mem_of_getElem? (i := 654) rfl), wdA _ (List.mem_of_getElem? (i := 655) rfl)⟩
theorem mwX11_ask : MWV mX11_ask 1 := ⟨⟨wdA _ (List.mem_of_getElem? (i := 296) rfl), wdA _ (List.mem_of_getElem? (i := 656) rfl), by decide +kernel, by decide +kernel, by decide +kernel⟩, wdA _ (List.mem_of_getElem? (i := 657) rfl), wdA _ (List.mem_of_getElem? (i := 658) rfl)⟩
theorem mwX10_safe : MWV mX10_safe 2 := ⟨⟨wdA _ (List.mem_of_getElem? (i := 31) rfl), wdA _ (List.mem_of_getElem? (i := 659) rfl), by decide +kernel, by decide +kernel, by decide +kernel⟩, wdA _ (List.mem_of_getElem? (i := 660) rfl), wdA _ (List.mem_of_getElem? (i := 661) rfl)⟩
theorem mwX11_safe : MWV mX11_safe 2 := ⟨⟨wdA _ (List.mem_of_getElem? (i := 296) rfl), wdA _ (List.mem_of_getElem? (i := 662) rfl), by decide +kernel, by decide +kernel, by decide +kernel⟩, wdA _ (List.mem_of_getElem? (i := 663) rfl), wdA _ (List.mem_of_getElem? (i := 664) rfl)⟩
theorem mwX10_cut : MWV mX10_cut 2 := ⟨⟨wdA _ (List.mem_of_getElem? (i := 31) rfl), wdA _ (List.mem_of_getElem? (i := 665) rfl), by decide +kernel, by decide +kernel, by decide +kernel⟩, wdA _ (List.mem_of_getElem? (i := 666) rfl), wdA _ (List.mem_of_getElem? (i := 667) rfl)⟩
theorem mwX11_cut : MWV mX11_cut 2 := ⟨⟨wdA _ (List.mem_of_getElem? (i := 296) rfl), wdA _ (List.mem_of_getElem? (i := 668) rfl), by decide +kernel, by decide +kernel, by decide +kernel⟩, wdA _ (List.mem_of_getElem? (i := 669) rfl), wdA _ (List.mem_of_getElem? (i := 670) rfl)⟩
theorem mwX10_rounds : MWV mX10_rounds 1 := ⟨⟨wdA _ (List.mem_of_getElem? (i := 31) rfl), wdA _ (List.mem_of_getElem? (i := 671) rfl), by decide +kernel, by decide +kernel, by decide +kernel⟩, wdA _ (List.mem_of_getElem? (i := 672) rfl), wdA _ (List.mem_of_getElem? (i := 673) rfl)⟩
theorem mwX11_rounds : MWV mX11_rounds 1 := ⟨⟨wdA _ (List.mem_of_getElem? (i := 296) rfl), wdA _ (List.mem_of_getElem? (i := 674) rfl), by decide +kernel, by decide +kernel, by decide +kernel⟩, wdA _ (List.mem_of_getElem? (i := 675) rfl), wdA _ (List.mem_of_getElem? (i := 676) rfl)⟩
theorem mwX10_comes : MWV mX10_comes 2 := ⟨⟨wdA _ (List.mem_of_getElem? (i := 31) rfl), wdA _ (List.mem_of_getElem? (i := 677) rfl), by decide +kernel, by decide +kernel, by decide +kernel⟩, wdA _ (List.mem_of_getElem? (i := 678) rfl), wdA _ (List.mem_of_getElem? (i := 679) rfl)⟩
theorem mwX11_comes : MWV mX11_comes 2 := ⟨⟨wdA _ (List.mem_of_getElem? (i := 296) rfl), wdA _ (List.mem_of_getElem? (i := 680) rfl), by decide +kernel, by decide +kernel, by decide +kernel⟩, wdA _ (List.mem_of_getElem? (i := 681) rfl), wdA _ (List.mem_of_getElem? (i := 682) rfl)⟩
theorem mwX10_asks : MWV mX10_asks 0 := ⟨⟨wdA _ (List.mem_of_getElem? (i := 31) rfl), wdA _ (List.mem_of_getElem? (i := 683) rfl), by decide +kernel, by decide +kernel, by decide +kernel⟩, wdA _ (List.mem_of_getElem? (i := 684) rfl), wdA _ (List.mem_of_getElem? (i := 685) rfl)⟩
theorem mwX11_asks : MWV mX11_asks 0 := ⟨⟨wdA _ (List.mem_of_getElem? (i := 296) rfl), wdA _ (List.mem_of_getElem? (i := 686) rfl), by decide +kernel, by decide +kernel, by decide +kernel⟩, wdA _ (List.mem_of_getElem? (i := 687) rfl), wdA _ (List.mem_of_getElem? (i := 688) rfl)⟩
theorem mwX10_tribe : MWV mX10_tribe 1 := ⟨⟨wdA _ (List.mem_of_getElem? (i := 31) rfl), wdA _ (List.mem_of_getElem? (i := 689) rfl), by decide +kernel, by decide +kernel, by decide +kernel⟩, wdA _ (List.mem_of_getElem? (i := 690) rfl), wdA _ (List.mem_of_getElem? (i := 691) rfl)⟩
theorem mwX11_tribe : MWV mX11_tribe 1 := ⟨⟨wdA _ (List.mem_of_getElem? (i := 296) rfl), wdA _ (List.mem_of_getElem? (i := 692) rfl), by decide +kernel, by decide +kernel, by decide +kernel⟩, wdA _ (List.mem_of_getElem? (i := 693) rfl), wdA _ (List.mem_of_getElem? (i := 694) rfl)⟩
theorem mwX10_hopes : MWV mX10_hopes 1 := ⟨⟨wdA _ (List.mem_of_getElem? (i := 31) rfl), wdA _ (List.mem_of_getElem? (i := 695) rfl), by decide +kernel, by decide +kernel, by decide +kernel⟩, wdA _ (List.mem_of_getElem? (i := 696) rfl), wdA _ (List.mem_of_getElem? (i := 697) rfl)⟩
theorem mwX11_hopes : MWV mX11_hopes 1 := ⟨⟨wdA _ (List.mem_of_getElem? (i := 296) rfl), wdA _ (List.mem_of_getElem? (i := 698) rfl), by decide +kernel, by decide +kernel, by decide +kernel⟩, wdA _ (List.mem_of_getElem? (i := 699) rfl), wdA _ (List.mem_of_getElem? (i := 700) rfl)⟩
theorem mwX10_undo : MWV mX10_undo 0 := ⟨⟨wdA _ (List.mem_of_getElem? (i := 31) rfl), wdA _ (List.mem_of_getElem? (i := 701) rfl), by decide +kernel, by decide +kernel, by decide +kernel⟩, wdA _ (List.mem_of_getElem? (i := 702) rfl), wdA _ (List.mem_of_getElem? (i := 703) rfl)⟩
theorem mwX11_undo : MWV mX11_undo 0 := ⟨⟨wdA _ (List.mem_of_getElem? (i := 296) rfl), wdA _ (List.mem_of_getElem? (i := 704) rfl), by decide +kernel, by decide +kernel, by decide +kernel⟩, wdA _ (List.mem_of_getElem? (i := 705) rfl), wdA _ (List.mem_of_getElem? (i := 706) rfl)⟩
theorem mwX11_image : MWV mX11_image 1 := ⟨⟨wdA _ (List.mem_of_getElem? (i := 296) rfl), wdA _ (List.mem_of_getElem? (i := 707) rfl), by decide +kernel, by decide +kernel, by decide +kernel⟩, wdA _ (List.mem_of_getElem? (i := 708) rfl), wdA _ (List.mem_of_getElem? (i := 709) rfl)⟩
theorem mwX10_look : MWV mX10_look 1 := ⟨⟨wdA _ (List.mem_of_getElem? (i := 31) rfl), wdA _ (List.mem_of_getElem? (i := 710) rfl), by decide +kernel, by decide +kernel, by decide +kernel⟩, wdA _ (List.mem_of_getElem? (i := 711) rfl), wdA _ (List.mem_of_getElem? (i := 712) rfl)⟩
theorem mwX11_look : MWV mX11_look 1 := ⟨⟨wdA _ (List.mem_of_getElem? (i := 296) rfl), wdA _ (List.mem_of_getElem? (i := 713) rfl), by decide +kernel, by decide +kernel, by decide +kernel⟩, wdA _ (List.mem_of_getElem? (i := 714) rfl), wdA _ (List.mem_of_getElem? (i := 715) rfl)⟩
