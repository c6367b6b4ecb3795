/-! rules of WP: an instruction that touches no heap -/
section RulesL
variable {X : Cx} {M : MM} {pc : Nat} {L : List (Option Value)} {st : List Value} {ws : va_W} {R : Room} {kc nc : Nat} {EX : EXT} {Z : ZT}
theorem w_iconst {n : Int} {v : Int32} (hd : decode M.2.1 pc = .ok (.iconst n, 1)) (hv : Int32.ofInt n = v) (kk : WZ X M R kc nc EX Z (pc + 1) L (.int v :: st) ws) : WZ X M R kc nc EX Z pc L st ws := by
  intro p e s m args below meth c H locs ls F hE hP hD hS hl
  exact lv_iconst F.1 F.2.1 hd hv (kk p e s m args below meth c H locs ls F hE hP hD hS hl)
theorem w_bipush {n : Int} {v : Int32} (hd : decode M.2.1 pc = .ok (.bipush n, 2)) (hv : (Int8.ofInt n).toInt32 = v) (kk : WZ X M R kc nc EX Z (pc + 2) L (.int v :: st) ws) : WZ X M R kc nc EX Z pc L st ws := by
  intro p e s m args below meth c H locs ls F hE hP hD hS hl
  exact lv_bipush F.1 F.2.1 hd hv (kk p e s m args below meth c H locs ls F hE hP hD hS hl)
theorem w_sipush {n : Int} {v : Int32} (hd : decode M.2.1 pc = .ok (.sipush n, 3)) (hv : (Int16.ofInt n).toInt32 = v) (kk : WZ X M R kc nc EX Z (pc + 3) L (.int v :: st) ws) : WZ X M R kc nc EX Z pc L st ws := by
  intro p e s m args below meth c H locs ls F hE hP hD hS hl
  exact lv_sipush F.1 F.2.1 hd hv (kk p e s m args below meth c H locs ls F hE hP hD hS hl)
theorem w_lconst {n : Fin 2} {v : Int64} (hd : decode M.2.1 pc = .ok (.lconst n, 1)) (hv : Int64.ofNat (n : Nat) = v) (kk : WZ X M R kc nc EX Z (pc + 1) L (.long v :: st) ws) : WZ X M R kc nc EX Z pc L st ws := by
  intro p e s m args below meth c H locs ls F hE hP hD hS hl
  exact lv_lconst F.1 F.2.1 hd hv (kk p e s m args below meth c H locs ls F hE hP hD hS hl)
theorem w_ldc {i : Nat} {v : Int32} (hw : Cond.constant M.1.cls i v ∈ TW) (hd : decode M.2.1 pc = .ok (.ldc i, 2)) (kk : WZ X M R kc nc EX Z (pc + 2) L (.int v :: st) ws) : WZ X M R kc nc EX Z pc L st ws := by
  intro p e s m args below meth c H locs ls F hE hP hD hS hl
  exact lv_ldc F.1 F.2.1 F.2.2.2.2.1 (F.2.2.2.2.2.1 _ hw) hd (kk p e s m args below meth c H locs ls F hE hP hD hS hl)
theorem w_ldcw {i : Nat} {v : Int32} (hw : Cond.constant M.1.cls i v ∈ TW) (hd : decode M.2.1 pc = .ok (.ldc_w i, 3)) (kk : WZ X M R kc nc EX Z (pc + 3) L (.int v :: st) ws) : WZ X M R kc nc EX Z pc L st ws := by
  intro p e s m args below meth c H locs ls F hE hP hD hS hl
  exact lv_ldcw F.1 F.2.1 F.2.2.2.2.1 (F.2.2.2.2.2.1 _ hw) hd (kk p e s m args below meth c H locs ls F hE hP hD hS hl)
theorem w_ldc2 {i : Nat} {v : Int64} (hw : Cond.constantLong M.1.cls i v ∈ TW) (hd : decode M.2.1 pc = .ok (.ldc2_w i, 3)) (kk : WZ X M R kc nc EX Z (pc + 3) L (.long v :: st) ws) : WZ X M R kc nc EX Z pc L st ws := by
  intro p e s m args below meth c H locs ls F hE hP hD hS hl
  exact lv_ldc2 F.1 F.2.1 F.2.2.2.2.1 (F.2.2.2.2.2.1 _ hw) hd (kk p e s m args below meth c H locs ls F hE hP hD hS hl)
theorem w_ldcS {i : Nat} (j : Nat) (hj : j < nS) (ho : sOwn.getD j "" = M.1.cls) (hi : sIdx.getD j 0 = i) (hd : decode M.2.1 pc = .ok (.ldc i, 2)) (kk : WZ X M R kc nc EX Z (pc + 2) L (.ref (X.2.2.2.2.1 j) :: st) ws) : WZ X M R kc nc EX Z pc L st ws := by
  intro p e s m args below meth c H locs ls F hE hP hD hS hl
  subst hi
  exact va_ldcS F.1 F.2.1 (own := M.1.cls) F.2.2.2.2.1 (by have h := F.2.2.2.2.2.2.2.2.2.1.1 j hj; rw [ho] at h; exact h) hd (kk p e s m args below meth c H locs ls F hE hP hD hS hl)
theorem w_iload_n {k : Fin 4} {i : Nat} {x : Int32} (hd : decode M.2.1 pc = .ok (.iload_n k, 1)) (hi : (k : Nat) = i) (hL : L[i]? = some (some (.int x))) (kk : WZ X M R kc nc EX Z (pc + 1) L (.int x :: st) ws) : WZ X M R kc nc EX Z pc L st ws := by
  intro p e s m args below meth c H locs ls F hE hP hD hS hl
  exact lv_iload_n F.1 F.2.1 hd hi (hl.at hL) (kk p e s m args below meth c H locs ls F hE hP hD hS hl)
theorem w_iload {i : Nat} {x : Int32} (hd : decode M.2.1 pc = .ok (.iload i, 2)) (hL : L[i]? = some (some (.int x))) (kk : WZ X M R kc nc EX Z (pc + 2) L (.int x :: st) ws) : WZ X M R kc nc EX Z pc L st ws := by
  intro p e s m args below meth c H locs ls F hE hP hD hS hl
  exact lv_iload F.1 F.2.1 hd (hl.at hL) (kk p e s m args below meth c H locs ls F hE hP hD hS hl)
theorem w_aload_n {k : Fin 4} {i : Nat} {x : Nat} (hd : decode M.2.1 pc = .ok (.aload_n k, 1)) (hi : (k : Nat) = i) (hL : L[i]? = some (some (.ref x))) (kk : WZ X M R kc nc EX Z (pc + 1) L (.ref x :: st) ws) : WZ X M R kc nc EX Z pc L st ws := by
  intro p e s m args below meth c H locs ls F hE hP hD hS hl
  exact lv_aload_n F.1 F.2.1 hd hi (hl.at hL) (kk p e s m args below meth c H locs ls F hE hP hD hS hl)
theorem w_aload {i : Nat} {x : Nat} (hd : decode M.2.1 pc = .ok (.aload i, 2)) (hL : L[i]? = some (some (.ref x))) (kk : WZ X M R kc nc EX Z (pc + 2) L (.ref x :: st) ws) : WZ X M R kc nc EX Z pc L st ws := by
  intro p e s m args below meth c H locs ls F hE hP hD hS hl
  exact lv_aload F.1 F.2.1 hd (hl.at hL) (kk p e s m args below meth c H locs ls F hE hP hD hS hl)
theorem w_lload_n {k : Fin 4} {i : Nat} {x : Int64} (hd : decode M.2.1 pc = .ok (.lload_n k, 1)) (hi : (k : Nat) = i) (hL : L[i]? = some (some (.long x))) (kk : WZ X M R kc nc EX Z (pc + 1) L (.long x :: st) ws) : WZ X M R kc nc EX Z pc L st ws := by
  intro p e s m args below meth c H locs ls F hE hP hD hS hl
  exact lv_lload_n F.1 F.2.1 hd hi (hl.at hL) (kk p e s m args below meth c H locs ls F hE hP hD hS hl)
theorem w_lload {i : Nat} {x : Int64} (hd : decode M.2.1 pc = .ok (.lload i, 2)) (hL : L[i]? = some (some (.long x))) (kk : WZ X M R kc nc EX Z (pc + 2) L (.long x :: st) ws) : WZ X M R kc nc EX Z pc L st ws := by
  intro p e s m args below meth c H locs ls F hE hP hD hS hl
  exact lv_lload F.1 F.2.1 hd (hl.at hL) (kk p e s m args below meth c H locs ls F hE hP hD hS hl)
theorem w_istore_n {k : Fin 4} {i : Nat} {x : Int32} {L2 : List (Option Value)} (hd : decode M.2.1 pc = .ok (.istore_n k, 1)) (hi : (k : Nat) = i) (hn : i < M.2.2.1) (ho : okS L i = true) (h2 : L.set i (some (.int x)) = L2) (kk : WZ X M R kc nc EX Z (pc + 1) L2 st ws) : WZ X M R kc nc EX Z pc L (.int x :: st) ws := by
  intro p e s m args below meth c H locs ls F hE hP hD hS hl
  subst h2
  exact lv_istore_n F.1 F.2.1 hd hi hl hn rfl (fun ls2 hl2 => kk p e s m args below meth c H locs ls2 F hE hP hD hS (lvL.st hl2 ho))
theorem w_istore {i : Nat} {x : Int32} {L2 : List (Option Value)} (hd : decode M.2.1 pc = .ok (.istore i, 2)) (hn : i < M.2.2.1) (ho : okS L i = true) (h2 : L.set i (some (.int x)) = L2) (kk : WZ X M R kc nc EX Z (pc + 2) L2 st ws) : WZ X M R kc nc EX Z pc L (.int x :: st) ws := by
  intro p e s m args below meth c H locs ls F hE hP hD hS hl
  subst h2
  exact lv_istore F.1 F.2.1 hd hl hn rfl (fun ls2 hl2 => kk p e s m args below meth c H locs ls2 F hE hP hD hS (lvL.st hl2 ho))
theorem w_astore_n {k : Fin 4} {i : Nat} {x : Nat} {L2 : List (Option Value)} (hd : decode M.2.1 pc = .ok (.astore_n k, 1)) (hi : (k : Nat) = i) (hn : i < M.2.2.1) (ho : okS L i = true) (h2 : L.set i (some (.ref x)) = L2) (kk : WZ X M R kc nc EX Z (pc + 1) L2 st ws) : WZ X M R kc nc EX Z pc L (.ref x :: st) ws := by
  intro p e s m args below meth c H locs ls F hE hP hD hS hl
  subst h2
  exact lv_astore_n F.1 F.2.1 hd hi hl hn rfl (fun ls2 hl2 => kk p e s m args below meth c H locs ls2 F hE hP hD hS (lvL.st hl2 ho))
theorem w_astore {i : Nat} {x : Nat} {L2 : List (Option Value)} (hd : decode M.2.1 pc = .ok (.astore i, 2)) (hn : i < M.2.2.1) (ho : okS L i = true) (h2 : L.set i (some (.ref x)) = L2) (kk : WZ X M R kc nc EX Z (pc + 2) L2 st ws) : WZ X M R kc nc EX Z pc L (.ref x :: st) ws := by
  intro p e s m args below meth c H locs ls F hE hP hD hS hl
  subst h2
  exact lv_astore F.1 F.2.1 hd hl hn rfl (fun ls2 hl2 => kk p e s m args below meth c H locs ls2 F hE hP hD hS (lvL.st hl2 ho))
theorem w_iinc {i : Nat} {n : Int} {x v : Int32} {L2 : List (Option Value)} (hd : decode M.2.1 pc = .ok (.iinc i n, 3)) (hL : L[i]? = some (some (.int x))) (hv : x + Int32.ofInt n = v) (hn : i < M.2.2.1) (ho : okS L i = true) (h2 : L.set i (some (.int v)) = L2) (kk : WZ X M R kc nc EX Z (pc + 3) L2 st ws) : WZ X M R kc nc EX Z pc L st ws := by
  intro p e s m args below meth c H locs ls F hE hP hD hS hl
  subst h2
  obtain ⟨k, hk⟩ := List.getElem?_of_mem ((lvx_mem L 0 (i, .int x)).mpr ⟨Nat.zero_le _, hL⟩)
  exact lv_iinc F.1 F.2.1 hd hl hk hv hn rfl (fun ls2 hl2 => kk p e s m args below meth c H locs ls2 F hE hP hD hS (lvL.st hl2 ho))
theorem w_iadd {x y : Int32} (hd : decode M.2.1 pc = .ok (.iadd, 1)) (kk : WZ X M R kc nc EX Z (pc + 1) L (.int (x + y) :: st) ws) : WZ X M R kc nc EX Z pc L (.int y :: .int x :: st) ws := by
  intro p e s m args below meth c H locs ls F hE hP hD hS hl
  exact lv_iadd F.1 F.2.1 hd (kk p e s m args below meth c H locs ls F hE hP hD hS hl)
theorem w_isub {x y : Int32} (hd : decode M.2.1 pc = .ok (.isub, 1)) (kk : WZ X M R kc nc EX Z (pc + 1) L (.int (x - y) :: st) ws) : WZ X M R kc nc EX Z pc L (.int y :: .int x :: st) ws := by
  intro p e s m args below meth c H locs ls F hE hP hD hS hl
  exact lv_isub F.1 F.2.1 hd (kk p e s m args below meth c H locs ls F hE hP hD hS hl)
theorem w_imul {x y : Int32} (hd : decode M.2.1 pc = .ok (.imul, 1)) (kk : WZ X M R kc nc EX Z (pc + 1) L (.int (x * y) :: st) ws) : WZ X M R kc nc EX Z pc L (.int y :: .int x :: st) ws := by
  intro p e s m args below meth c H locs ls F hE hP hD hS hl
  exact lv_imul F.1 F.2.1 hd (kk p e s m args below meth c H locs ls F hE hP hD hS hl)
theorem w_iand {x y : Int32} (hd : decode M.2.1 pc = .ok (.iand, 1)) (kk : WZ X M R kc nc EX Z (pc + 1) L (.int (x &&& y) :: st) ws) : WZ X M R kc nc EX Z pc L (.int y :: .int x :: st) ws := by
  intro p e s m args below meth c H locs ls F hE hP hD hS hl
  exact lv_iand F.1 F.2.1 hd (kk p e s m args below meth c H locs ls F hE hP hD hS hl)
theorem w_ior {x y : Int32} (hd : decode M.2.1 pc = .ok (.ior, 1)) (kk : WZ X M R kc nc EX Z (pc + 1) L (.int (x ||| y) :: st) ws) : WZ X M R kc nc EX Z pc L (.int y :: .int x :: st) ws := by
  intro p e s m args below meth c H locs ls F hE hP hD hS hl
  exact lv_ior F.1 F.2.1 hd (kk p e s m args below meth c H locs ls F hE hP hD hS hl)
theorem w_ixor {x y : Int32} (hd : decode M.2.1 pc = .ok (.ixor, 1)) (kk : WZ X M R kc nc EX Z (pc + 1) L (.int (x ^^^ y) :: st) ws) : WZ X M R kc nc EX Z pc L (.int y :: .int x :: st) ws := by
  intro p e s m args below meth c H locs ls F hE hP hD hS hl
  exact lv_ixor F.1 F.2.1 hd (kk p e s m args below meth c H locs ls F hE hP hD hS hl)
theorem w_ishl {x y : Int32} (hd : decode M.2.1 pc = .ok (.ishl, 1)) (kk : WZ X M R kc nc EX Z (pc + 1) L (.int (x <<< (y &&& 31)) :: st) ws) : WZ X M R kc nc EX Z pc L (.int y :: .int x :: st) ws := by
  intro p e s m args below meth c H locs ls F hE hP hD hS hl
  exact lv_ishl F.1 F.2.1 hd (kk p e s m args below meth c H locs ls F hE hP hD hS hl)
theorem w_ishr {x y : Int32} (hd : decode M.2.1 pc = .ok (.ishr, 1)) (kk : WZ X M R kc nc EX Z (pc + 1) L (.int (x >>> (y &&& 31)) :: st) ws) : WZ X M R kc nc EX Z pc L (.int y :: .int x :: st) ws := by
  intro p e s m args below meth c H locs ls F hE hP hD hS hl
  exact lv_ishr F.1 F.2.1 hd (kk p e s m args below meth c H locs ls F hE hP hD hS hl)
theorem w_idiv {x y : Int32} (hd : decode M.2.1 pc = .ok (.idiv, 1)) (hne : ¬ y = 0) (kk : WZ X M R kc nc EX Z (pc + 1) L (.int (x / y) :: st) ws) : WZ X M R kc nc EX Z pc L (.int y :: .int x :: st) ws := by
  intro p e s m args below meth c H locs ls F hE hP hD hS hl
  exact lv_idiv F.1 F.2.1 hd hne (kk p e s m args below meth c H locs ls F hE hP hD hS hl)
theorem w_irem {x y : Int32} (hd : decode M.2.1 pc = .ok (.irem, 1)) (hne : ¬ y = 0) (kk : WZ X M R kc nc EX Z (pc + 1) L (.int (x - x / y * y) :: st) ws) : WZ X M R kc nc EX Z pc L (.int y :: .int x :: st) ws := by
  intro p e s m args below meth c H locs ls F hE hP hD hS hl
  exact lv_irem F.1 F.2.1 hd hne (kk p e s m args below meth c H locs ls F hE hP hD hS hl)
theorem w_iushr {x y : Int32} (hd : decode M.2.1 pc = .ok (.iushr, 1)) (kk : WZ X M R kc nc EX Z (pc + 1) L (.int (x.toUInt32 >>> (y.toUInt32 &&& Int32.toUInt32 31)).toInt32 :: st) ws) : WZ X M R kc nc EX Z pc L (.int y :: .int x :: st) ws := by
  intro p e s m args below meth c H locs ls F hE hP hD hS hl
  exact lv_iushr F.1 F.2.1 hd rfl (kk p e s m args below meth c H locs ls F hE hP hD hS hl)
theorem w_ineg {x : Int32} (hd : decode M.2.1 pc = .ok (.ineg, 1)) (kk : WZ X M R kc nc EX Z (pc + 1) L (.int (-x) :: st) ws) : WZ X M R kc nc EX Z pc L (.int x :: st) ws := by
  intro p e s m args below meth c H locs ls F hE hP hD hS hl
  exact lv_ineg F.1 F.2.1 hd (kk p e s m args below meth c H locs ls F hE hP hD hS hl)
theorem w_i2l {x : Int32} (hd : decode M.2.1 pc = .ok (.i2l, 1)) (kk : WZ X M R kc nc EX Z (pc + 1) L (.long (x.toInt64) :: st) ws) : WZ X M R kc nc EX Z pc L (.int x :: st) ws := by
  intro p e s m args below meth c H locs ls F hE hP hD hS hl
  exact lv_i2l F.1 F.2.1 hd rfl (kk p e s m args below meth c H locs ls F hE hP hD hS hl)
theorem w_l2i {x : Int64} (hd : decode M.2.1 pc = .ok (.l2i, 1)) (kk : WZ X M R kc nc EX Z (pc + 1) L (.int (x.toInt32) :: st) ws) : WZ X M R kc nc EX Z pc L (.long x :: st) ws := by
  intro p e s m args below meth c H locs ls F hE hP hD hS hl
  exact lv_l2i F.1 F.2.1 hd rfl (kk p e s m args below meth c H locs ls F hE hP hD hS hl)
theorem w_i2b {x : Int32} (hd : decode M.2.1 pc = .ok (.i2b, 1)) (kk : WZ X M R kc nc EX Z (pc + 1) L (.int (x.toInt8.toInt32) :: st) ws) : WZ X M R kc nc EX Z pc L (.int x :: st) ws := by
  intro p e s m args below meth c H locs ls F hE hP hD hS hl
  exact lv_i2b F.1 F.2.1 hd rfl (kk p e s m args below meth c H locs ls F hE hP hD hS hl)
theorem w_i2c {x : Int32} (hd : decode M.2.1 pc = .ok (.i2c, 1)) (kk : WZ X M R kc nc EX Z (pc + 1) L (.int ((x.toUInt32 % 65536).toInt32) :: st) ws) : WZ X M R kc nc EX Z pc L (.int x :: st) ws := by
  intro p e s m args below meth c H locs ls F hE hP hD hS hl
  exact lv_i2c F.1 F.2.1 hd rfl (kk p e s m args below meth c H locs ls F hE hP hD hS hl)
theorem w_ladd {x y : Int64} (hd : decode M.2.1 pc = .ok (.ladd, 1)) (kk : WZ X M R kc nc EX Z (pc + 1) L (.long (x + y) :: st) ws) : WZ X M R kc nc EX Z pc L (.long y :: .long x :: st) ws := by
  intro p e s m args below meth c H locs ls F hE hP hD hS hl
  exact lv_ladd F.1 F.2.1 hd (kk p e s m args below meth c H locs ls F hE hP hD hS hl)
theorem w_lsub {x y : Int64} (hd : decode M.2.1 pc = .ok (.lsub, 1)) (kk : WZ X M R kc nc EX Z (pc + 1) L (.long (x - y) :: st) ws) : WZ X M R kc nc EX Z pc L (.long y :: .long x :: st) ws := by
  intro p e s m args below meth c H locs ls F hE hP hD hS hl
  exact lv_lsub F.1 F.2.1 hd (kk p e s m args below meth c H locs ls F hE hP hD hS hl)
theorem w_lmul {x y : Int64} (hd : decode M.2.1 pc = .ok (.lmul, 1)) (kk : WZ X M R kc nc EX Z (pc + 1) L (.long (x * y) :: st) ws) : WZ X M R kc nc EX Z pc L (.long y :: .long x :: st) ws := by
  intro p e s m args below meth c H locs ls F hE hP hD hS hl
  exact lv_lmul F.1 F.2.1 hd (kk p e s m args below meth c H locs ls F hE hP hD hS hl)
theorem w_ldiv {x y : Int64} (hd : decode M.2.1 pc = .ok (.ldiv, 1)) (hne : ¬ y = 0) (kk : WZ X M R kc nc EX Z (pc + 1) L (.long (x / y) :: st) ws) : WZ X M R kc nc EX Z pc L (.long y :: .long x :: st) ws := by
  intro p e s m args below meth c H locs ls F hE hP hD hS hl
  exact lv_ldiv F.1 F.2.1 hd hne (kk p e s m args below meth c H locs ls F hE hP hD hS hl)
theorem w_lcmp {x y : Int64} (hd : decode M.2.1 pc = .ok (.lcmp, 1)) (kk : WZ X M R kc nc EX Z (pc + 1) L (.int (lg_cmp x y) :: st) ws) : WZ X M R kc nc EX Z pc L (.long y :: .long x :: st) ws := by
  intro p e s m args below meth c H locs ls F hE hP hD hS hl
  exact W.lcmp F.1 F.2.1 hd (kk p e s m args below meth c H locs ls F hE hP hD hS hl)
theorem w_dup {v : Value} (hd : decode M.2.1 pc = .ok (.dup, 1)) (hv : v.category = 1) (kk : WZ X M R kc nc EX Z (pc + 1) L (v :: v :: st) ws) : WZ X M R kc nc EX Z pc L (v :: st) ws := by
  intro p e s m args below meth c H locs ls F hE hP hD hS hl
  exact lv_dup F.1 F.2.1 hd hv (kk p e s m args below meth c H locs ls F hE hP hD hS hl)
theorem w_pop {v : Value} (hd : decode M.2.1 pc = .ok (.pop, 1)) (hv : v.category = 1) (kk : WZ X M R kc nc EX Z (pc + 1) L st ws) : WZ X M R kc nc EX Z pc L (v :: st) ws := by
  intro p e s m args below meth c H locs ls F hE hP hD hS hl
  exact lv_pop F.1 F.2.1 hd hv (kk p e s m args below meth c H locs ls F hE hP hD hS hl)
theorem w_goto {off : Int} {tgt : Nat} (hd : decode M.2.1 pc = .ok (.goto off, 3)) (ht : (pc : Int) + off = (tgt : Int)) (kk : WZ X M R kc nc EX Z tgt L st ws) : WZ X M R kc nc EX Z pc L st ws := by
  intro p e s m args below meth c H locs ls F hE hP hD hS hl
  exact lv_goto F.1 F.2.1 hd ht (kk p e s m args below meth c H locs ls F hE hP hD hS hl)
theorem w_aload_nN {k : Fin 4} {i : Nat} (hd : decode M.2.1 pc = .ok (.aload_n k, 1)) (hi : (k : Nat) = i) (hL : L[i]? = some (some .null)) (kk : WZ X M R kc nc EX Z (pc + 1) L (.null :: st) ws) : WZ X M R kc nc EX Z pc L st ws := by
  intro p e s m args below meth c H locs ls F hE hP hD hS hl
  exact lv_aload_nN F.1 F.2.1 hd hi (hl.at hL) (kk p e s m args below meth c H locs ls F hE hP hD hS hl)
theorem w_aloadN {i : Nat} (hd : decode M.2.1 pc = .ok (.aload i, 2)) (hL : L[i]? = some (some .null)) (kk : WZ X M R kc nc EX Z (pc + 2) L (.null :: st) ws) : WZ X M R kc nc EX Z pc L st ws := by
  intro p e s m args below meth c H locs ls F hE hP hD hS hl
  exact lv_aloadN F.1 F.2.1 hd (hl.at hL) (kk p e s m args below meth c H locs ls F hE hP hD hS hl)
theorem w_dup2 {va vb : Value} (hd : decode M.2.1 pc = .ok (.dup2, 1)) (hva : va.category = 1) (hvb : vb.category = 1) (kk : WZ X M R kc nc EX Z (pc + 1) L (va :: vb :: va :: vb :: st) ws) : WZ X M R kc nc EX Z pc L (va :: vb :: st) ws := by
  intro p e s m args below meth c H locs ls F hE hP hD hS hl
  exact lv_dup2_11 F.1 F.2.1 hd hva hvb (kk p e s m args below meth c H locs ls F hE hP hD hS hl)
theorem w_null  (hd : decode M.2.1 pc = .ok (.aconst_null, 1)) (kk : WZ X M R kc nc EX Z (pc + 1) L (.null :: st) ws) : WZ X M R kc nc EX Z pc L st ws := by
  intro p e s m args below meth c H locs ls F hE hP hD hS hl
  exact lv_null F.1 F.2.1 hd (kk p e s m args below meth c H locs ls F hE hP hD hS hl)
theorem w_ifnonnull {x : Nat} {off : Int} {tgt : Nat} (hd : decode M.2.1 pc = .ok (.ifnonnull off, 3)) (ht : (pc : Int) + off = (tgt : Int)) (kk : WZ X M R kc nc EX Z tgt L st ws) : WZ X M R kc nc EX Z pc L (.ref x :: st) ws := by
  intro p e s m args below meth c H locs ls F hE hP hD hS hl
  exact lv_ifnonnull F.1 F.2.1 hd ht (kk p e s m args below meth c H locs ls F hE hP hD hS hl)
theorem w_ifnonnullN {off : Int} (hd : decode M.2.1 pc = .ok (.ifnonnull off, 3)) (kk : WZ X M R kc nc EX Z (pc + 3) L st ws) : WZ X M R kc nc EX Z pc L (.null :: st) ws := by
  intro p e s m args below meth c H locs ls F hE hP hD hS hl
  exact lv_ifnonnullN F.1 F.2.1 hd (kk p e s m args below meth c H locs ls F hE hP hD hS hl)
theorem w_tsOut {dflt lo hi : Int} {offs : Array Int} {len : Nat} {x : Int32} {tgt : Nat} (hd : decode M.2.1 pc = .ok (.tableswitch dflt lo hi offs, len)) (h : x.toInt < lo ∨ hi < x.toInt) (ht : (pc : Int) + dflt = (tgt : Int)) (kk : WZ X M R kc nc EX Z tgt L st ws) : WZ X M R kc nc EX Z pc L (.int x :: st) ws := by
  intro p e s m args below meth c H locs ls F hE hP hD hS hl
  exact lv_tableOut F.1 F.2.1 hd h ht (kk p e s m args below meth c H locs ls F hE hP hD hS hl)
theorem w_tsIn {dflt lo hi : Int} {offs : Array Int} {len : Nat} {x : Int32} {off : Int} {tgt : Nat} (hd : decode M.2.1 pc = .ok (.tableswitch dflt lo hi offs, len)) (h1 : ¬ x.toInt < lo) (h2 : ¬ hi < x.toInt) (ho : offs[(x.toInt - lo).toNat]? = some off) (ht : (pc : Int) + off = (tgt : Int)) (kk : WZ X M R kc nc EX Z tgt L st ws) : WZ X M R kc nc EX Z pc L (.int x :: st) ws := by
  intro p e s m args below meth c H locs ls F hE hP hD hS hl
  exact lv_tableIn F.1 F.2.1 hd h1 h2 ho ht (kk p e s m args below meth c H locs ls F hE hP hD hS hl)
theorem w_ls {dflt : Int} {ps : Array (Int × Int)} {len : Nat} {x : Int32} {off : Int} {tgt : Nat} (hd : decode M.2.1 pc = .ok (.lookupswitch dflt ps, len)) (hp : (ps.toList.zip (ps.toList.drop 1)).all (fun (a, next) => a.1 < next.1) = true) (ho : Op.lookupswitch.offset ps.toList dflt x.toInt = off) (ht : (pc : Int) + off = (tgt : Int)) (kk : WZ X M R kc nc EX Z tgt L st ws) : WZ X M R kc nc EX Z pc L (.int x :: st) ws := by
  intro p e s m args below meth c H locs ls F hE hP hD hS hl
  exact lv_lookup F.1 F.2.1 hd hp ho ht (kk p e s m args below meth c H locs ls F hE hP hD hS hl)
theorem w_if_eq {x : Int32} {off : Int} {tgt : Nat} (hd : decode M.2.1 pc = .ok (.ifCond .eq off, 3)) (ht : (pc : Int) + off = (tgt : Int)) (kk : (x = 0 → WZ X M R kc nc EX Z tgt L st ws) ∧ (¬ x = 0 → WZ X M R kc nc EX Z (pc + 3) L st ws)) : WZ X M R kc nc EX Z pc L (.int x :: st) ws := by
  intro p e s m args below meth c H locs ls F hE hP hD hS hl
  exact lv_if_eq F.1 F.2.1 hd ht (fun h => (kk.1 h) p e s m args below meth c H locs ls F hE hP hD hS hl) (fun h => (kk.2 h) p e s m args below meth c H locs ls F hE hP hD hS hl)
theorem w_if_ne {x : Int32} {off : Int} {tgt : Nat} (hd : decode M.2.1 pc = .ok (.ifCond .ne off, 3)) (ht : (pc : Int) + off = (tgt : Int)) (kk : (¬ x = 0 → WZ X M R kc nc EX Z tgt L st ws) ∧ (x = 0 → WZ X M R kc nc EX Z (pc + 3) L st ws)) : WZ X M R kc nc EX Z pc L (.int x :: st) ws := by
  intro p e s m args below meth c H locs ls F hE hP hD hS hl
  exact lv_if_ne F.1 F.2.1 hd ht (fun h => (kk.1 h) p e s m args below meth c H locs ls F hE hP hD hS hl) (fun h => (kk.2 h) p e s m args below meth c H locs ls F hE hP hD hS hl)
theorem w_if_lt {x : Int32} {off : Int} {tgt : Nat} (hd : decode M.2.1 pc = .ok (.ifCond .lt off, 3)) (ht : (pc : Int) + off = (tgt : Int)) (kk : (x < 0 → WZ X M R kc nc EX Z tgt L st ws) ∧ (¬ x < 0 → WZ X M R kc nc EX Z (pc + 3) L st ws)) : WZ X M R kc nc EX Z pc L (.int x :: st) ws := by
  intro p e s m args below meth c H locs ls F hE hP hD hS hl
  exact lv_if_lt F.1 F.2.1 hd ht (fun h => (kk.1 h) p e s m args below meth c H locs ls F hE hP hD hS hl) (fun h => (kk.2 h) p e s m args below meth c H locs ls F hE hP hD hS hl)
theorem w_if_ge {x : Int32} {off : Int} {tgt : Nat} (hd : decode M.2.1 pc = .ok (.ifCond .ge off, 3)) (ht : (pc : Int) + off = (tgt : Int)) (kk : (0 ≤ x → WZ X M R kc nc EX Z tgt L st ws) ∧ (¬ 0 ≤ x → WZ X M R kc nc EX Z (pc + 3) L st ws)) : WZ X M R kc nc EX Z pc L (.int x :: st) ws := by
  intro p e s m args below meth c H locs ls F hE hP hD hS hl
  exact lv_if_ge F.1 F.2.1 hd ht (fun h => (kk.1 h) p e s m args below meth c H locs ls F hE hP hD hS hl) (fun h => (kk.2 h) p e s m args below meth c H locs ls F hE hP hD hS hl)
theorem w_if_gt {x : Int32} {off : Int} {tgt : Nat} (hd : decode M.2.1 pc = .ok (.ifCond .gt off, 3)) (ht : (pc : Int) + off = (tgt : Int)) (kk : (0 < x → WZ X M R kc nc EX Z tgt L st ws) ∧ (¬ 0 < x → WZ X M R kc nc EX Z (pc + 3) L st ws)) : WZ X M R kc nc EX Z pc L (.int x :: st) ws := by
  intro p e s m args below meth c H locs ls F hE hP hD hS hl
  exact lv_if_gt F.1 F.2.1 hd ht (fun h => (kk.1 h) p e s m args below meth c H locs ls F hE hP hD hS hl) (fun h => (kk.2 h) p e s m args below meth c H locs ls F hE hP hD hS hl)
theorem w_if_le {x : Int32} {off : Int} {tgt : Nat} (hd : decode M.2.1 pc = .ok (.ifCond .le off, 3)) (ht : (pc : Int) + off = (tgt : Int)) (kk : (x ≤ 0 → WZ X M R kc nc EX Z tgt L st ws) ∧ (¬ x ≤ 0 → WZ X M R kc nc EX Z (pc + 3) L st ws)) : WZ X M R kc nc EX Z pc L (.int x :: st) ws := by
  intro p e s m args below meth c H locs ls F hE hP hD hS hl
  exact lv_if_le F.1 F.2.1 hd ht (fun h => (kk.1 h) p e s m args below meth c H locs ls F hE hP hD hS hl) (fun h => (kk.2 h) p e s m args below meth c H locs ls F hE hP hD hS hl)
theorem w_icmp_eq {x y : Int32} {off : Int} {tgt : Nat} (hd : decode M.2.1 pc = .ok (.if_icmp .eq off, 3)) (ht : (pc : Int) + off = (tgt : Int)) (kk : (x = y → WZ X M R kc nc EX Z tgt L st ws) ∧ (¬ x = y → WZ X M R kc nc EX Z (pc + 3) L st ws)) : WZ X M R kc nc EX Z pc L (.int y :: .int x :: st) ws := by
  intro p e s m args below meth c H locs ls F hE hP hD hS hl
  exact lv_icmp_eq F.1 F.2.1 hd ht (fun h => (kk.1 h) p e s m args below meth c H locs ls F hE hP hD hS hl) (fun h => (kk.2 h) p e s m args below meth c H locs ls F hE hP hD hS hl)
theorem w_icmp_ne {x y : Int32} {off : Int} {tgt : Nat} (hd : decode M.2.1 pc = .ok (.if_icmp .ne off, 3)) (ht : (pc : Int) + off = (tgt : Int)) (kk : (¬ x = y → WZ X M R kc nc EX Z tgt L st ws) ∧ (x = y → WZ X M R kc nc EX Z (pc + 3) L st ws)) : WZ X M R kc nc EX Z pc L (.int y :: .int x :: st) ws := by
  intro p e s m args below meth c H locs ls F hE hP hD hS hl
  exact lv_icmp_ne F.1 F.2.1 hd ht (fun h => (kk.1 h) p e s m args below meth c H locs ls F hE hP hD hS hl) (fun h => (kk.2 h) p e s m args below meth c H locs ls F hE hP hD hS hl)
theorem w_icmp_lt {x y : Int32} {off : Int} {tgt : Nat} (hd : decode M.2.1 pc = .ok (.if_icmp .lt off, 3)) (ht : (pc : Int) + off = (tgt : Int)) (kk : (x < y → WZ X M R kc nc EX Z tgt L st ws) ∧ (¬ x < y → WZ X M R kc nc EX Z (pc + 3) L st ws)) : WZ X M R kc nc EX Z pc L (.int y :: .int x :: st) ws := by
  intro p e s m args below meth c H locs ls F hE hP hD hS hl
  exact lv_icmp_lt F.1 F.2.1 hd ht (fun h => (kk.1 h) p e s m args below meth c H locs ls F hE hP hD hS hl) (fun h => (kk.2 h) p e s m args below meth c H locs ls F hE hP hD hS hl)
theorem w_icmp_ge {x y : Int32} {off : Int} {tgt : Nat} (hd : decode M.2.1 pc = .ok (.if_icmp .ge off, 3)) (ht : (pc : Int) + off = (tgt : Int)) (kk : (y ≤ x → WZ X M R kc nc EX Z tgt L st ws) ∧ (¬ y ≤ x → WZ X M R kc nc EX Z (pc + 3) L st ws)) : WZ X M R kc nc EX Z pc L (.int y :: .int x :: st) ws := by
  intro p e s m args below meth c H locs ls F hE hP hD hS hl
  exact lv_icmp_ge F.1 F.2.1 hd ht (fun h => (kk.1 h) p e s m args below meth c H locs ls F hE hP hD hS hl) (fun h => (kk.2 h) p e s m args below meth c H locs ls F hE hP hD hS hl)
theorem w_icmp_gt {x y : Int32} {off : Int} {tgt : Nat} (hd : decode M.2.1 pc = .ok (.if_icmp .gt off, 3)) (ht : (pc : Int) + off = (tgt : Int)) (kk : (y < x → WZ X M R kc nc EX Z tgt L st ws) ∧ (¬ y < x → WZ X M R kc nc EX Z (pc + 3) L st ws)) : WZ X M R kc nc EX Z pc L (.int y :: .int x :: st) ws := by
  intro p e s m args below meth c H locs ls F hE hP hD hS hl
  exact lv_icmp_gt F.1 F.2.1 hd ht (fun h => (kk.1 h) p e s m args below meth c H locs ls F hE hP hD hS hl) (fun h => (kk.2 h) p e s m args below meth c H locs ls F hE hP hD hS hl)
theorem w_icmp_le {x y : Int32} {off : Int} {tgt : Nat} (hd : decode M.2.1 pc = .ok (.if_icmp .le off, 3)) (ht : (pc : Int) + off = (tgt : Int)) (kk : (x ≤ y → WZ X M R kc nc EX Z tgt L st ws) ∧ (¬ x ≤ y → WZ X M R kc nc EX Z (pc + 3) L st ws)) : WZ X M R kc nc EX Z pc L (.int y :: .int x :: st) ws := by
  intro p e s m args below meth c H locs ls F hE hP hD hS hl
  exact lv_icmp_le F.1 F.2.1 hd ht (fun h => (kk.1 h) p e s m args below meth c H locs ls F hE hP hD hS hl) (fun h => (kk.2 h) p e s m args below meth c H locs ls F hE hP hD hS hl)
end RulesL
